/-! the invariant between the class's memory (objects below 128) and the reference's (128 and above) -/
theorem s2_at {M : Mm} {o k o' k' : Nat} {y : Int32} : st2 M o k y o' k' = if o' = o ∧ k' = k then y else M o' k' := by
  by_cases h : o' = o
  · subst h
    by_cases h2 : k' = k
    · subst h2; rw [s2_eq, if_pos ⟨rfl, rfl⟩]
    · rw [s2_nk h2, if_neg (fun q => h2 q.2)]
  · rw [s2_ne h, if_neg (fun q => h q.1)]
def EQ (n k ns : Nat) (E : Nat → Nat) : Prop := EV n k ns E ∧ E 0 ≤ 9200 ∧ (n = 0 → E 1 = 0)
def IT (t n k ns C : Nat) (Me W S : Nat → Nat) (M : Mm) : Prop := TV n k ns C Me W S ∧ M 0 0 = nI t ∧ M 0 1 = nI (19 - t) ∧ TW t n k ns C Me W S M ∧ MT n k ns C Me W S M
def IE (n k ns : Nat) (E : Nat → Nat) (M : Mm) : Prop := EQ n k ns E ∧ CE 37 n k E M ∧ AR E (M 136)
def IX (M : Mm) : Prop := ∃ (len : Nat) (tx : Nat → Nat), len ≤ 240 ∧ M 35 0 = nI len ∧ M 128 0 = nI len ∧ ∀ i, i < len → tx i < 256 ∧ M 36 i = nI (tx i) ∧ M 129 i = nI (tx i)
def IF (M : Mm) : Prop := M 0 14 = M 128 7
def IS (M : Mm) : Prop := ∃ sd : Nat, sd < 2 ^ 31 ∧ M 0 15 = nI sd ∧ M 128 30 = nI sd
def PC (n k nx bk : Nat) (B : Nat → Nat → Nat) (M : Mm) : Prop := M 41 0 = nI bk ∧ M 41 1 = nI nx ∧ ∀ i, i < bk → CE (43 + 4 * ((nx + 16 - bk + i) % 16)) n k (B i) M
def PR (bk : Nat) (B : Nat → Nat → Nat) (M : Mm) : Prop := M 128 26 = nI bk ∧ ∀ i, i < bk → ∀ j, j < 23 → M 138 (23 * i + j) = nI (B i j)
def IB (n k ns : Nat) (M : Mm) : Prop := ∃ (bk nx : Nat) (B : Nat → Nat → Nat), bk ≤ 16 ∧ nx < 16 ∧ (∀ i, i < bk → EQ n k ns (B i)) ∧ PC n k nx bk B M ∧ PR bk B M
def II (n k ns : Nat) (M : Mm) : Prop := ∃ kb : Nat, kb < 4 ∧ M 0 7 = nI kb ∧ ∀ i, i < 2 → M 141 i = (if kb.testBit i then 1 else 0) ∧ (kb.testBit i = true → ∃ (E : Nat → Nat) (sd : Nat), EQ n k ns E ∧ sd < 2 ^ 31 ∧ CE (120 + 4 * i) n k E M ∧ M 108 i = nI sd ∧ M 140 i = nI sd ∧ ∀ j, j < 23 → M 139 (23 * i + j) = nI (E j))
/-- the row of the plain method, i changes behind rounds -/
def plR (k : Nat) (Me : Nat → Nat) : Nat → Nat → Nat
  | 0 => fun p => p
  | i + 1 => fun p => plR k Me i (pm (Me (i % k)) p)
/-- the row as it is heard, if bell b strikes one place later -/
def ltR (n b : Nat) (w : Nat → Nat) : Nat → Nat := fun p => if p + 1 < n ∧ w p = b then w (p + 1) else if 0 < p ∧ w (p - 1) = b then w (p - 1) else w p
/-- the bells below i that were heard otherwise go out of the set x -/
def clrB (n k : Nat) (Me : Nat → Nat) (N R x : Nat) : Nat → Nat
  | 0 => x
  | b + 1 => if figs n (ltR n b (plR k Me N)) = R then clrB n k Me N R x b else clrB n k Me N R x b &&& (63 ^^^ 2 ^ b)
def lateF (n k : Nat) (Me N R : Nat → Nat) : Nat → Nat
  | 0 => 2 ^ n - 1
  | h + 1 => clrB n k Me (N h) (R h) (lateF n k Me N R h) n
def IH (n k : Nat) (Me : Nat → Nat) (M : Mm) : Prop := ∃ (h : Nat) (N R : Nat → Nat), h ≤ 6 ∧ (n = 0 → h = 0) ∧ M 117 0 = nI h ∧ M 128 31 = nI h ∧ M 117 1 = nI (lateF n k Me N R h) ∧ ∀ i, i < h → N i ≤ 500 ∧ R i < 1000000 ∧ M 142 (2 * i) = nI (N i) ∧ M 142 (2 * i + 1) = nI (R i)
def IW (n : Nat) (M : Mm) : Prop := ∃ (w : Nat) (bb pp : Nat → Nat), w ≤ 15 ∧ M 117 2 = nI w ∧ M 128 33 = nI w ∧ ∀ i, i < w → bb i < n ∧ pp i < n ∧ M 118 i = nI (bb i) ∧ M 119 i = nI (pp i) ∧ M 143 (2 * i) = nI (bb i) ∧ M 143 (2 * i + 1) = nI (pp i)
def Inv (t n k ns C : Nat) (Me W S E : Nat → Nat) (M : Mm) : Prop := IT t n k ns C Me W S M ∧ IE n k ns E M ∧ IX M ∧ IF M ∧ IS M ∧ IB n k ns M ∧ II n k ns M ∧ IH n k Me M ∧ IW n M
/-! each part holds still when its own cells do -/
theorem CE_c {e n k : Nat} {E : Nat → Nat} {M M' : Mm} (h : ∀ o j, e ≤ o → o ≤ e + 3 → M' o j = M o j) (c : CE e n k E M) : CE e n k E M' := by
  obtain ⟨c1, c2, c3, ⟨w0, w1, w2⟩, cR, cT⟩ := c
  exact ⟨(h _ _ (by omega) (by omega)).trans c1, (h _ _ (by omega) (by omega)).trans c2, (h _ _ (by omega) (by omega)).trans c3, ⟨(h _ _ (by omega) (by omega)).trans w0, (h _ _ (by omega) (by omega)).trans w1, (h _ _ (by omega) (by omega)).trans w2⟩, fun r hr => (h _ _ (by omega) (by omega)).trans (cR r hr), fun r hr => (h _ _ (by omega) (by omega)).trans (cT r hr)⟩
theorem AR_c {E : Nat → Nat} {M M' : Mm} {o : Nat} (h : ∀ j, M' o j = M o j) (c : AR E (M o)) : AR E (M' o) := fun j hj => (h j).trans (c j hj)
theorem IT_c {t n k ns C : Nat} {Me W S : Nat → Nat} {M M' : Mm} (h : ∀ o j, (o = 0 ∧ j ≤ 1) ∨ (1 ≤ o ∧ o ≤ 34) ∨ (o = 128 ∧ 16 ≤ j ∧ j ≤ 19) ∨ (133 ≤ o ∧ o ≤ 135) → M' o j = M o j) (c : IT t n k ns C Me W S M) : IT t n k ns C Me W S M' := by
  obtain ⟨hV, h0, h1, ⟨ht, t0, t1, t2, tc, tm, tw, ts⟩, ⟨m16, m17, m18, m19, mMe, mW, mS⟩⟩ := c
  have hV2 := hV
  obtain ⟨hb, -⟩ := hV2
  refine ⟨hV, (h _ _ (by omega)).trans h0, (h _ _ (by omega)).trans h1, ⟨ht, (h _ _ (by omega)).trans t0, (h _ _ (by omega)).trans t1, (h _ _ (by omega)).trans t2, fun hn => ?_, fun i hi => ?_, fun i hi => (h _ _ (by omega)).trans (tw i hi), fun i hi => (h _ _ (by omega)).trans (ts i hi)⟩, ⟨(h _ _ (by omega)).trans m16, (h _ _ (by omega)).trans m17, (h _ _ (by omega)).trans m18, (h _ _ (by omega)).trans m19, fun i hi => (h _ _ (by omega)).trans (mMe i hi), fun i hi => (h _ _ (by omega)).trans (mW i hi), fun i hi => (h _ _ (by omega)).trans (mS i hi)⟩⟩
  · obtain ⟨a, b, c0, c1, c2⟩ := tc hn
    exact ⟨a, b, (h _ _ (by omega)).trans c0, (h _ _ (by omega)).trans c1, (h _ _ (by omega)).trans c2⟩
  · obtain ⟨a, b, c0, c1, c2⟩ := tm i hi
    exact ⟨a, b, (h _ _ (by omega)).trans c0, (h _ _ (by omega)).trans c1, (h _ _ (by omega)).trans c2⟩
theorem IE_c {n k ns : Nat} {E : Nat → Nat} {M M' : Mm} (h : ∀ o j, (37 ≤ o ∧ o ≤ 40) ∨ o = 136 → M' o j = M o j) (c : IE n k ns E M) : IE n k ns E M' :=
  ⟨c.1, CE_c (fun o j _ _ => h o j (by omega)) c.2.1, AR_c (fun j => h _ _ (by omega)) c.2.2⟩
theorem IX_c {M M' : Mm} (h : ∀ o j, (o = 35 ∧ j = 0) ∨ o = 36 ∨ (o = 128 ∧ j = 0) ∨ o = 129 → M' o j = M o j) (c : IX M) : IX M' := by
  obtain ⟨len, tx, h1, h2, h3, h4⟩ := c
  exact ⟨len, tx, h1, (h _ _ (by omega)).trans h2, (h _ _ (by omega)).trans h3, fun i hi => ⟨(h4 i hi).1, (h _ _ (by omega)).trans (h4 i hi).2.1, (h _ _ (by omega)).trans (h4 i hi).2.2⟩⟩
theorem IF_c {M M' : Mm} (h : ∀ o j, (o = 0 ∧ j = 14) ∨ (o = 128 ∧ j = 7) → M' o j = M o j) (c : IF M) : IF M' :=
  (h _ _ (by omega)).trans (Eq.trans c (h _ _ (by omega)).symm)
theorem IS_c {M M' : Mm} (h : ∀ o j, (o = 0 ∧ j = 15) ∨ (o = 128 ∧ j = 30) → M' o j = M o j) (c : IS M) : IS M' := by
  obtain ⟨sd, h1, h2, h3⟩ := c
  exact ⟨sd, h1, (h _ _ (by omega)).trans h2, (h _ _ (by omega)).trans h3⟩
theorem PC_c {n k nx bk : Nat} {B : Nat → Nat → Nat} {M M' : Mm} (h : ∀ o j, 41 ≤ o ∧ o ≤ 106 → M' o j = M o j) (c : PC n k nx bk B M) : PC n k nx bk B M' := by
  obtain ⟨h1, h2, h3⟩ := c
  refine ⟨(h _ _ (by omega)).trans h1, (h _ _ (by omega)).trans h2, fun i hi => CE_c (fun o j g1 g2 => h o j ?_) (h3 i hi)⟩
  omega
theorem PR_c {bk : Nat} {B : Nat → Nat → Nat} {M M' : Mm} (h : ∀ o j, (o = 128 ∧ j = 26) ∨ o = 138 → M' o j = M o j) (c : PR bk B M) : PR bk B M' :=
  ⟨(h _ _ (by omega)).trans c.1, fun i hi j hj => (h _ _ (by omega)).trans (c.2 i hi j hj)⟩
theorem IB_c {n k ns : Nat} {M M' : Mm} (h : ∀ o j, (41 ≤ o ∧ o ≤ 106) ∨ (o = 128 ∧ j = 26) ∨ o = 138 → M' o j = M o j) (c : IB n k ns M) : IB n k ns M' := by
  obtain ⟨bk, nx, B, h1, h2, h3, h4, h5⟩ := c
  exact ⟨bk, nx, B, h1, h2, h3, PC_c (fun o j g => h o j (by omega)) h4, PR_c (fun o j g => h o j (by omega)) h5⟩
theorem II_c {n k ns : Nat} {M M' : Mm} (h : ∀ o j, (o = 0 ∧ j = 7) ∨ o = 108 ∨ (120 ≤ o ∧ o ≤ 127) ∨ (139 ≤ o ∧ o ≤ 141) → M' o j = M o j) (c : II n k ns M) : II n k ns M' := by
  obtain ⟨kb, h1, h2, h3⟩ := c
  refine ⟨kb, h1, (h _ _ (by omega)).trans h2, fun i hi => ⟨(h _ _ (by omega)).trans (h3 i hi).1, fun hb => ?_⟩⟩
  obtain ⟨E, sd, g1, g2, g3, g4, g5, g6⟩ := (h3 i hi).2 hb
  exact ⟨E, sd, g1, g2, CE_c (fun o j q1 q2 => h o j (by omega)) g3, (h _ _ (by omega)).trans g4, (h _ _ (by omega)).trans g5, fun j hj => (h _ _ (by omega)).trans (g6 j hj)⟩
theorem IH_c {n k : Nat} {Me : Nat → Nat} {M M' : Mm} (h : ∀ o j, (o = 117 ∧ j ≤ 1) ∨ (o = 128 ∧ j = 31) ∨ o = 142 → M' o j = M o j) (c : IH n k Me M) : IH n k Me M' := by
  obtain ⟨hh, N, R, h1, h2, h3, h4, h5, h6⟩ := c
  exact ⟨hh, N, R, h1, h2, (h _ _ (by omega)).trans h3, (h _ _ (by omega)).trans h4, (h _ _ (by omega)).trans h5, fun i hi => ⟨(h6 i hi).1, (h6 i hi).2.1, (h _ _ (by omega)).trans (h6 i hi).2.2.1, (h _ _ (by omega)).trans (h6 i hi).2.2.2⟩⟩
theorem IW_c {n : Nat} {M M' : Mm} (h : ∀ o j, (o = 117 ∧ j = 2) ∨ o = 118 ∨ o = 119 ∨ (o = 128 ∧ j = 33) ∨ o = 143 → M' o j = M o j) (c : IW n M) : IW n M' := by
  obtain ⟨w, bb, pp, h1, h2, h3, h4⟩ := c
  exact ⟨w, bb, pp, h1, (h _ _ (by omega)).trans h2, (h _ _ (by omega)).trans h3, fun i hi => ⟨(h4 i hi).1, (h4 i hi).2.1, (h _ _ (by omega)).trans (h4 i hi).2.2.1, (h _ _ (by omega)).trans (h4 i hi).2.2.2.1, (h _ _ (by omega)).trans (h4 i hi).2.2.2.2.1, (h _ _ (by omega)).trans (h4 i hi).2.2.2.2.2⟩⟩
/-- cells of no lasting meaning -/
def Scrt (o j : Nat) : Prop := (o = 35 ∧ 0 < j) ∨ (109 ≤ o ∧ o ≤ 116) ∨ (o = 128 ∧ ((1 ≤ j ∧ j ≤ 6) ∨ (8 ≤ j ∧ j ≤ 12) ∨ j = 36)) ∨ (130 ≤ o ∧ o ≤ 132) ∨ o = 137 ∨ (144 ≤ o ∧ o ≤ 147)
theorem Inv_scr {t n k ns C : Nat} {Me W S E : Nat → Nat} {M M' : Mm} (h : ∀ o j, ¬ Scrt o j → M' o j = M o j) (c : Inv t n k ns C Me W S E M) : Inv t n k ns C Me W S E M' := by
  obtain ⟨c1, c2, c3, c4, c5, c6, c7, c8, c9⟩ := c
  refine ⟨IT_c (fun o j g => h o j ?_) c1, IE_c (fun o j g => h o j ?_) c2, IX_c (fun o j g => h o j ?_) c3, IF_c (fun o j g => h o j ?_) c4, IS_c (fun o j g => h o j ?_) c5, IB_c (fun o j g => h o j ?_) c6, II_c (fun o j g => h o j ?_) c7, IH_c (fun o j g => h o j ?_) c8, IW_c (fun o j g => h o j ?_) c9⟩ <;> (unfold Scrt; omega)
/-- an act of the evening: the evening and the past may change, the rest holds -/
theorem Inv_ev {t n k ns C : Nat} {Me W S E E' : Nat → Nat} {M M' : Mm} (h : ∀ o j, ¬ ((37 ≤ o ∧ o ≤ 106) ∨ o = 136 ∨ o = 138 ∨ (o = 128 ∧ j = 26) ∨ (o = 0 ∧ j = 15) ∨ (o = 128 ∧ j = 30)) → M' o j = M o j) (c : Inv t n k ns C Me W S E M) (hE : IE n k ns E' M') (hB : IB n k ns M') (hS : IS M') : Inv t n k ns C Me W S E' M' := by
  obtain ⟨c1, c2, c3, c4, c5, c6, c7, c8, c9⟩ := c
  refine ⟨IT_c (fun o j g => h o j ?_) c1, hE, IX_c (fun o j g => h o j ?_) c3, IF_c (fun o j g => h o j ?_) c4, hS, hB, II_c (fun o j g => h o j ?_) c7, IH_c (fun o j g => h o j ?_) c8, IW_c (fun o j g => h o j ?_) c9⟩ <;> omega
/-! the past -/
def ntK (bk : Nat) : Nat := if bk = 16 then 16 else bk + 1
def ntB (bk : Nat) (B : Nat → Nat → Nat) (E : Nat → Nat) : Nat → Nat → Nat := fun i => if bk = 16 then (if i = 15 then E else B (i + 1)) else (if i = bk then E else B i)
theorem kd_past {i : Nat} (h : i < 16) : KDF[42 + 1 + 4 * i]? = some (1, 0) := by
  have : ∀ i, i < 16 → KDF[42 + 1 + 4 * i]? = some (1, 0) := by decide
  exact this i h
/-! the ring of sixteen: the index comes round at both ends -/
theorem wi_id : ∀ i, i < 16 → f_X3_within (nI i) = nI i := by decide +kernel
theorem wi_up : ∀ i, i < 16 → f_X3_within (nI i + (1 : Int32)) = nI (if i + 1 < 16 then i + 1 else 0) := by decide +kernel
theorem wi_dn : ∀ i, i < 16 → f_X3_within (nI i - (1 : Int32)) = nI ((i + 15) % 16) := by decide +kernel
theorem remember_spec {n k ns nx bk : Nat} {B : Nat → Nat → Nat} {E : Nat → Nat} {M : Mm} (hC : CE 37 n k E M) (hE : EV n k ns E) (hP : PC n k nx bk B M) (hbk : bk ≤ 16) (hnx : nx < 16) : ∃ M', f_X3_remember 41 37 M = some M' ∧ PC n k (if nx + 1 < 16 then nx + 1 else 0) (ntK bk) (ntB bk B E) M' ∧ ∀ o, (o < 41 ∨ 106 < o) → M' o = M o := by
  obtain ⟨p0, p1, p2⟩ := hP
  unfold f_X3_remember
  simp only [Lt_eq]
  rw [p1, wi_id nx hnx, Gd_t ((ib_nI (by omega)).mpr hnx), ix_nI (by omega), Gd_t (kd_past hnx)]
  obtain ⟨M1, g1, g2, g3⟩ := copyFrom_spec (e := 42 + 1 + 4 * nx) (d := 37) hC hE (by omega)
  rw [g1, Bd_some]
  have q1 : M1 41 = M 41 := g3 41 (by omega)
  have r1 : f_X3_within ((M1 41 1) + (1 : Int32)) = nI (if nx + 1 < 16 then nx + 1 else 0) := by
    rw [q1, p1]
    exact wi_up nx hnx
  rw [r1]
  generalize hnx' : (if nx + 1 < 16 then nx + 1 else 0) = nx' at *
  have r2 : (st2 M1 41 1 (nI nx')) 41 0 = nI bk := by rw [s2_nk (by omega), q1, p0]
  rw [r2, nI_1]
  have r3 : (if nI (bk + 1) < (16 : Int32) then nI (bk + 1) else (16 : Int32)) = nI (ntK bk) := by
    unfold ntK
    by_cases h : bk = 16
    · subst h; rfl
    · rw [if_neg h]
      by_cases h2 : bk + 1 < 16
      · rw [if_pos (show nI (bk + 1) < (16 : Int32) from nI_lt (b := 16) h2 (by omega))]
      · rw [show bk + 1 = 16 by omega]; rfl
  rw [r3]
  have hMf : ∀ o j, o ≠ 41 → st2 (st2 M1 41 1 (nI nx')) 41 0 (nI (ntK bk)) o j = M1 o j := fun o j h => by rw [s2_ne h, s2_ne h]
  refine ⟨_, rfl, ⟨by rw [s2_eq], by rw [s2_nk (by omega), s2_eq], fun i hi => ?_⟩, fun o ho => by rw [s2_ne (by omega), s2_ne (by omega), g3 o (by omega)]⟩
  refine CE_c (M := M1) (fun o j _ _ => hMf o j (by omega)) ?_
  unfold ntK at hi
  have hx2 : nx' % 16 = (nx + 1) % 16 := by rw [← hnx']; split <;> omega
  unfold ntB ntK
  by_cases hb : bk = 16
  · rw [if_pos hb] at hi ⊢
    rw [if_pos hb]
    by_cases hi2 : i = 15
    · rw [if_pos hi2]
      have : (nx' + 16 - 16 + i) % 16 = nx := by omega
      rw [this]
      exact g2
    · rw [if_neg hi2]
      have : (nx' + 16 - 16 + i) % 16 = (nx + 16 - bk + (i + 1)) % 16 := by omega
      rw [this]
      exact CE_c (fun o j q3 q4 => by rw [g3 o (by omega)]) (p2 (i + 1) (by omega))
  · rw [if_neg hb] at hi ⊢
    rw [if_neg hb]
    by_cases hi2 : i = bk
    · rw [if_pos hi2]
      have : (nx' + 16 - (bk + 1) + i) % 16 = nx := by omega
      rw [this]
      exact g2
    · rw [if_neg hi2]
      have : (nx' + 16 - (bk + 1) + i) % 16 = (nx + 16 - bk + i) % 16 := by omega
      rw [this]
      exact CE_c (fun o j q3 q4 => by rw [g3 o (by omega)]) (p2 i (by omega))
theorem kl_137 : kln 136 = 23 := by decide
theorem kl_138 : kln 137 = 23 := by decide
theorem kl_139 : kln 138 = 368 := by decide
theorem note_spec {bk : Nat} {B : Nat → Nat → Nat} {E : Nat → Nat} {M : Mm} (hA : AR E (M 136)) (hP : PR bk B M) (hbk : bk ≤ 16) : ∃ M', f_X12_note 128 M = some M' ∧ PR (ntK bk) (ntB bk B E) M' ∧ ∀ o j, ¬ (o = 138 ∨ (o = 128 ∧ j = 26)) → M' o j = M o j := by
  obtain ⟨p0, p1⟩ := hP
  unfold f_X12_note
  simp only [Lt_eq]
  have hs : ∃ (b0 : Nat) (B0 : Nat → Nat → Nat) (M0 : Mm), b0 < 16 ∧ b0 + 1 = ntK bk ∧ (((if (M 128 26) = (16 : Int32) then Bd (f_X12_bring 138 (23 : Int32) 138 (0 : Int32) (345 : Int32) M) (fun r4 => some (st2 r4 128 26 ((r4 128 26) - (1 : Int32)))) else some M)) : Option Mm) = some M0 ∧ PR b0 B0 M0 ∧ (∀ i, i < b0 → B0 i = ntB bk B E i) ∧ ntB bk B E b0 = E ∧ ∀ o j, ¬ (o = 138 ∨ (o = 128 ∧ j = 26)) → M0 o j = M o j := by
    by_cases hb : bk = 16
    · subst hb
      obtain ⟨M1, g1, g2, g3, g4⟩ := bring_spec (M := M) (o0 := 138) (o2 := 138) (a := 23) (b := 0) (n := 345) (by rw [kl_139]; omega) (by rw [kl_139]; omega) (by rw [kl_139]; omega) (by rw [kl_139]; omega) (Or.inr (by omega))
      have r1 : M1 128 26 = nI 16 := by rw [g4 128 (by omega), p0]
      refine ⟨15, fun i => B (i + 1), st2 M1 128 26 (nI 15), by omega, rfl, ?_, ⟨s2_eq, fun i hi j hj => ?_⟩, fun i hi => ?_, ?_, fun o j h => ?_⟩
      · rw [p0, if_pos (show nI 16 = (16 : Int32) from rfl)]
        have g1' : f_X12_bring 138 (23 : Int32) 138 (0 : Int32) (345 : Int32) M = some M1 := g1
        rw [g1', Bd_some, r1]
        rfl
      · rw [s2_ne (by omega)]
        have := g2 (23 * i + j) (by omega)
        rw [show 0 + (23 * i + j) = 23 * i + j by omega] at this
        rw [this, ← p1 (i + 1) (by omega) j hj, show 23 + (23 * i + j) = 23 * (i + 1) + j by omega]
      · unfold ntB; rw [if_pos rfl, if_neg (by omega)]
      · unfold ntB; rw [if_pos rfl, if_pos rfl]
      · rw [s2_at, if_neg (by omega), g4 o (by omega)]
    · refine ⟨bk, B, M, by omega, by unfold ntK; rw [if_neg hb], ?_, ⟨p0, p1⟩, fun i hi => ?_, ?_, fun _ _ _ => rfl⟩
      · rw [p0, if_neg (show ¬ nI bk = (16 : Int32) from fun h => hb (nI_inj (b := 16) (by omega) (by omega) h))]
      · unfold ntB; rw [if_neg hb, if_neg (by omega)]
      · unfold ntB; rw [if_neg hb, if_pos rfl]
  obtain ⟨b0, B0, M0, q1, q2, q3, ⟨q4, q5⟩, q6, q7, q8⟩ := hs
  rw [q3, Bd_some, q4, show (23 : Int32) * nI b0 = nI (23 * b0) from pk_mul 23 b0]
  obtain ⟨M1, g1, g2, g3, g4⟩ := bring_spec (M := M0) (o0 := 136) (o2 := 138) (a := 0) (b := 23 * b0) (n := 23) (by rw [kl_137]; omega) (by rw [kl_139]; omega) (by rw [kl_137]; omega) (by rw [kl_139]; omega) (Or.inl (by omega))
  have g1' : f_X12_bring 136 (0 : Int32) 138 (nI (23 * b0)) (23 : Int32) M0 = some M1 := g1
  rw [g1', Bd_some]
  have r1 : M1 128 26 = nI b0 := by rw [g4 128 (by omega), q4]
  refine ⟨_, rfl, ⟨by rw [s2_eq, r1, ← q2, nI_1], fun i hi j hj => ?_⟩, fun o j h => ?_⟩
  · rw [s2_ne (by omega)]
    by_cases hi2 : i = b0
    · subst hi2
      rw [g2 j hj, q7, show 0 + j = j by omega, q8 136 j (by omega), hA j hj]
    · rw [g3 _ (by omega), q5 i (by omega) j hj, q6 i (by omega)]
  · rw [s2_at, if_neg (by omega), g4 o (by omega), q8 o j h]
