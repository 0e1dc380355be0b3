/-! tower: the new tower stands, or the first fault is told -/
def nwE : Nat → Nat := fun j => if 5 ≤ j ∧ j < 11 then j - 5 else if 11 ≤ j ∧ j < 17 then j - 11 else 0
theorem EQ_nw {n k ns : Nat} (hn : n ≤ 6) (hns : ns ≤ n) : EQ n k ns nwE := by
  have r : ∀ p, p < 6 → nwE (5 + p) = p := fun p hp => by unfold nwE; rw [if_pos (by omega)]; omega
  have u : ∀ p, p < 6 → nwE (11 + p) = p := fun p hp => by unfold nwE; rw [if_neg (by omega), if_pos (by omega)]; omega
  have z : ∀ j, j < 5 ∨ 17 ≤ j → nwE j = 0 := fun j hj => by unfold nwE; rw [if_neg (by omega), if_neg (by omega)]
  refine ⟨⟨by rw [z 0 (by omega)]; omega, by rw [z 1 (by omega)]; omega, by rw [z 2 (by omega)]; omega, by rw [z 3 (by omega)]; omega, by rw [z 4 (by omega)]; exact Nat.pow_pos (by omega), fun p hp => by rw [r p (by omega)]; exact hp, fun p q hp hq => by rw [r p (by omega), r q (by omega)]; exact id, fun p hp => by rw [u p (by omega)]; exact hp, fun p q hp hq => by rw [u p (by omega), u q (by omega)]; exact id, fun p hp => by rw [z (17 + p) (by omega)]; omega⟩, by rw [z 0 (by omega)]; omega, fun _ => z 1 (by omega)⟩
theorem beginL {M : Mm} : ∃ M', Lp (b_X1_begin_22 37) 100000 ((0 : Int32), M) = some M' ∧ (∀ r, r < 6 → M' 39 r = nI r) ∧ ∀ o, o ≠ 39 → M' o = M o := by
  have key := Lp_inv (f := b_X1_begin_22 37) (fun s => ∃ i, i ≤ 6 ∧ s.1 = nI i ∧ (∀ j, j < i → s.2 39 j = nI j) ∧ ∀ o, o ≠ 39 → s.2 o = M o) (fun s => 6 - s.1.toNatClampNeg) (fun t => (∀ j, j < 6 → t 39 j = nI j) ∧ ∀ o, o ≠ 39 → t o = M o) ?_ 100000 ((0 : Int32), M) ⟨0, by omega, rfl, fun j hj => by omega, fun _ _ => rfl⟩ (by show 6 - _ < _; omega)
  · exact key
  · rintro ⟨x, Mi⟩ ⟨i, hi, hx, hAi, hF⟩
    simp only at hx hAi hF
    subst hx
    unfold b_X1_begin_22
    simp only [Lt_eq]
    by_cases hin : i = 6
    · subst hin
      exact Or.inr ⟨_, by rw [if_pos (show (6 : Int32) ≤ nI 6 by decide)], hAi, hF⟩
    · refine Or.inl ⟨_, by rw [if_neg (show ¬ (6 : Int32) ≤ nI i from nI_ge (b := 6) (by omega) (by omega)), Gd_t ((ib_nI (by omega)).mpr (by omega)), ix_nI (by omega), nI_1], ⟨i + 1, by omega, rfl, fun j hj => ?_, fun o ho => (s2_ne ho).trans (hF o ho)⟩, ?_⟩
      · show st2 Mi 39 i (nI i) 39 j = _
        rw [s2_at]
        by_cases hj2 : j = i
        · rw [if_pos ⟨rfl, hj2⟩, hj2]
        · rw [if_neg (by omega), hAi j (by omega)]
      · show 6 - (nI (i + 1)).toNatClampNeg < 6 - (nI i).toNatClampNeg
        rw [nI_clamp (by omega), nI_clamp (by omega)]
        omega
theorem newEv {t n k : Nat} {M : Mm} (t0 : M t 0 = nI n) (hn : n ≤ 6) : ∃ M', f_X1_begin 37 t M = some M' ∧ CE 37 n k nwE M' ∧ ∀ o, ¬ (37 ≤ o ∧ o ≤ 40) → M' o = M o := by
  unfold f_X1_begin f_X1_standAgain
  simp only [Lt_eq]
  obtain ⟨M1, g1, ⟨g2, g3, g4⟩, g5⟩ := wbegin_spec (wo := 37 + 1) t0 hn
  obtain ⟨M2, r1, r2, r3⟩ := fill_spec (o1 := 37 + 3) (x := 0) (M := M1) (by decide)
  have k40 : kln (37 + 3) = 6 := by decide
  rw [g1, Bd_some, r1, Bd_some, Bd_some]
  obtain ⟨M4, l1, l2, l3⟩ := beginL (M := st2 (st2 (st2 M2 37 1 (0 : Int32)) 37 2 (0 : Int32)) 37 3 (0 : Int32))
  rw [l1, Bd_some]
  have hz : ∀ j, j < 5 ∨ 17 ≤ j → nwE j = 0 := fun j hj => by unfold nwE; rw [if_neg (by omega), if_neg (by omega)]
  refine ⟨M4, rfl, ⟨?_, ?_, ?_, ⟨?_, ?_, ?_⟩, fun r hr => ?_, fun r hr => ?_⟩, fun o ho => ?_⟩
  · rw [l3 _ (by omega), s2_nk (by omega), s2_nk (by omega), s2_eq, hz 0 (by omega)]; rfl
  · rw [l3 _ (by omega), s2_nk (by omega), s2_eq, hz 4 (by omega)]; rfl
  · rw [l3 _ (by omega), s2_eq, hz 3 (by omega)]; rfl
  · rw [l3 _ (by omega), s2_ne (by omega), s2_ne (by omega), s2_ne (by omega), r3 _ (by omega), g2, enc_congr n (fun p => p) (fun p => nwE (5 + p)) (fun p hp => by unfold nwE; rw [if_pos (by omega)]; omega)]
  · rw [l3 _ (by omega), s2_ne (by omega), s2_ne (by omega), s2_ne (by omega), r3 _ (by omega), g3, hz 1 (by omega), Nat.zero_mod]
  · rw [l3 _ (by omega), s2_ne (by omega), s2_ne (by omega), s2_ne (by omega), r3 _ (by omega), g4, hz 2 (by omega)]
  · rw [l2 r hr]
    unfold nwE
    rw [if_neg (by omega), if_pos (by omega), show 11 + r - 11 = r by omega]
  · rw [l3 _ (by omega), s2_ne (by omega), s2_ne (by omega), s2_ne (by omega), r2 r (by rw [k40]; exact hr), hz (17 + r) (by omega)]
    rfl
  · rw [l3 o (by omega)]
    funext j
    rw [s2_ne (by omega), s2_ne (by omega), s2_ne (by omega), r3 o (by omega), g5 o (by omega)]
theorem TWt_c {t n k ns C : Nat} {Me W S : Nat → Nat} {M M' : Mm} (hk : k ≤ 12) (h : ∀ o j, t ≤ o ∧ o ≤ t + 16 → M' o j = M o j) (c : TW t n k ns C Me W S M) : TW t n k ns C Me W S M' := by
  obtain ⟨ht, t0, t1, t2, tc, tm, tw, ts⟩ := c
  exact ⟨ht, (h _ _ (by omega)).trans t0, (h _ _ (by omega)).trans t1, (h _ _ (by omega)).trans t2, fun hn => CHr_c (fun j => h _ j (by omega)) (tc hn), fun i hi => CHr_c (fun j => h _ j (by omega)) (tm i hi), fun i hi => (h _ _ (by omega)).trans (tw i hi), fun i hi => (h _ _ (by omega)).trans (ts i hi)⟩
theorem TV_n {n k ns C : Nat} {Me W S : Nat → Nat} (h : TV n k ns C Me W S) : n ≤ 6 ∧ k ≤ 12 ∧ ns ≤ n := by
  rcases h.1 with z | z <;> omega
theorem towC_ok {t dt n k ns C : Nat} {Me W S : Nat → Nat} {M Mr : Mm} (ht : t = 1 ∨ t = 18) (hdt : dt = 1 ∨ dt = 18) (h0 : M 0 0 = nI t) (h1 : M 0 1 = nI dt) (hV : TV n k ns C Me W S) (hr : f_X7_readInto 35 dt M = some (0, Mr)) (h35 : Mr 35 1 = (-1 : Int32)) (hT : TW dt n k ns C Me W S Mr) (hf : ∀ o j, ¬ (o = 35 ∨ (dt ≤ o ∧ o ≤ dt + 16)) → Mr o j = M o j) : ∃ M', f_X11_tower 0 M = some (nI n, M') ∧ M' 0 0 = nI dt ∧ M' 0 1 = nI t ∧ M' 0 14 = (-1 : Int32) ∧ M' 0 7 = nI 0 ∧ TW dt n k ns C Me W S M' ∧ CE 37 n k nwE M' ∧ M' 117 0 = nI 0 ∧ M' 117 1 = nI (2 ^ n - 1) ∧ M' 117 2 = nI 0 ∧ M' 41 0 = nI 0 ∧ M' 41 1 = nI 0 ∧ M' 35 0 = Mr 35 0 ∧ ∀ o j, ¬ ((o = 0 ∧ (j ≤ 1 ∨ j = 7 ∨ j = 14)) ∨ (1 ≤ o ∧ o ≤ 35) ∨ (37 ≤ o ∧ o ≤ 41) ∨ o = 117) → M' o j = M o j := by
  obtain ⟨n6, k12, nsn⟩ := TV_n hV
  have hc1 : (M 0 1).toNatClampNeg = dt := by rw [h1, nI_clamp (by omega)]
  unfold f_X11_tower
  simp only [Lt_eq, hc1]
  rw [Gd_t (kd_tw hdt), hr, Bd_some]
  dsimp only
  rw [if_pos rfl, h35]
  have f3 : ∀ o j, ¬ (o = 0 ∧ j = 14) → st2 Mr 0 14 (-1 : Int32) o j = Mr o j := fun o j g => by rw [s2_at, if_neg g]
  have a0 : (st2 Mr 0 14 (-1 : Int32) 0 0).toNatClampNeg = t := by rw [f3 0 0 (by omega), hf 0 0 (by omega), h0, nI_clamp (by omega)]
  have a1 : (st2 Mr 0 14 (-1 : Int32) 0 1).toNatClampNeg = dt := by rw [f3 0 1 (by omega), hf 0 1 (by omega), h1, nI_clamp (by omega)]
  have c0' : (st2 (st2 (st2 Mr 0 14 (-1 : Int32)) 0 0 (nI dt)) 0 1 (nI t) 0 0).toNatClampNeg = dt := by rw [s2_nk (show 0 ≠ 1 by omega), s2_eq, nI_clamp (by omega)]
  simp only [a0, a1, c0']
  rw [Gd_t (kd_tw ht), Gd_t (kd_tw hdt), Gd_t (kd_tw hdt)]
  generalize hM8 : st2 (st2 (st2 Mr 0 14 (-1 : Int32)) 0 0 (nI dt)) 0 1 (nI t) = M8
  have f8 : ∀ o j, ¬ (o = 0 ∧ (j ≤ 1 ∨ j = 14)) → M8 o j = Mr o j := fun o j g => by rw [← hM8, s2_at, if_neg (by omega), s2_at, if_neg (by omega), f3 o j (by omega)]
  have b0 : M8 0 0 = nI dt := by rw [← hM8, s2_nk (by omega), s2_eq]
  have b1 : M8 0 1 = nI t := by rw [← hM8, s2_eq]
  have b15 : M8 0 14 = (-1 : Int32) := by rw [← hM8, s2_nk (by omega), s2_nk (by omega), s2_eq]
  have c0 : (M8 0 0).toNatClampNeg = dt := by rw [b0, nI_clamp (by omega)]
  have hT8 : TW dt n k ns C Me W S M8 := TWt_c k12 (fun o j g => f8 o j (by omega)) hT
  obtain ⟨M9, e1, e2, e3⟩ := newEv (t := dt) (n := n) (k := k) hT8.2.1 n6
  have d0 : (M9 0 0).toNatClampNeg = dt := by rw [e3 0 (by omega), c0]
  rw [e1, Bd_some]
  simp only [d0]
  rw [Gd_t (kd_tw hdt)]
  obtain ⟨M10, u1, u2, u3, u4, u5⟩ := empty_spec (M := M9) hdt (show M9 dt 0 = nI n by rw [e3 dt (by omega)]; exact hT8.2.1) n6
  rw [u1, Bd_some]
  unfold f_X3_forget
  simp only [Lt_eq, Bd_some]
  have g0' : (st2 (st2 (st2 M10 41 0 (0 : Int32)) 41 1 (0 : Int32)) 0 7 (0 : Int32) 0 0).toNatClampNeg = dt := by rw [s2_nk (by omega), s2_ne (by omega), s2_ne (by omega), u5 0 (by omega), d0]
  simp only [g0']
  rw [Gd_t (kd_tw hdt)]
  generalize hM14 : st2 (st2 (st2 M10 41 0 (0 : Int32)) 41 1 (0 : Int32)) 0 7 (0 : Int32) = M14
  have f14 : ∀ o j, ¬ (o = 41 ∨ (o = 0 ∧ j = 7) ∨ o = 117 ∨ (37 ≤ o ∧ o ≤ 40)) → M14 o j = M8 o j := fun o j g => by
    by_cases c : o = 41 ∧ j = 0
    · omega
    · rw [← hM14, s2_at, if_neg (by omega), s2_at, if_neg (by omega), s2_at, if_neg (by omega), u5 o (by omega), e3 o (by omega)]
  have g1 : ∀ o j, ¬ (o = 41 ∨ (o = 0 ∧ j = 7)) → M14 o j = M10 o j := fun o j g => by rw [← hM14, s2_at, if_neg (by omega), s2_at, if_neg (by omega), s2_at, if_neg (by omega)]
  have hT14 : TW dt n k ns C Me W S M14 := TWt_c k12 (fun o j g => f14 o j (by omega)) hT8
  refine ⟨M14, by rw [hT14.2.1], by rw [f14 0 0 (by omega)]; exact b0, by rw [f14 0 1 (by omega)]; exact b1, by rw [f14 0 14 (by omega)]; exact b15, by rw [← hM14, s2_eq]; rfl, hT14, CE_c (fun o j q1 q2 => by rw [g1 o j (by omega), u5 o (by omega)]) e2, by rw [g1 117 0 (by omega)]; exact u2, by rw [g1 117 1 (by omega)]; exact u3, by rw [g1 117 2 (by omega)]; exact u4, by rw [← hM14, s2_ne (by omega), s2_nk (by omega), s2_eq]; rfl, by rw [← hM14, s2_ne (by omega), s2_eq]; rfl, by rw [f14 35 0 (by omega), f8 35 0 (by omega)], fun o j g => by rw [f14 o j (by omega), f8 o j (by omega), hf o j (by omega)]⟩
