def KE11 : Kd := [(25, 0), (0, 0), (28, 12), (13, 6), (13, 6), (0, 0), (0, 0), (0, 0), (0, 0), (0, 0), (0, 0), (0, 0), (0, 0), (0, 0), (0, 0), (0, 0), (0, 0), (25, 0), (0, 0), (28, 12), (13, 6), (13, 6), (0, 0), (0, 0), (0, 0), (0, 0), (0, 0), (0, 0), (0, 0), (0, 0), (0, 0), (0, 0), (0, 0), (0, 0), (23, 0), (13, 240), (18, 0), (10, 0), (13, 6), (13, 6), (20, 0), (29, 16), (18, 0), (10, 0), (13, 6), (13, 6), (18, 0), (10, 0), (13, 6), (13, 6), (18, 0), (10, 0), (13, 6), (13, 6), (18, 0), (10, 0), (13, 6), (13, 6), (18, 0), (10, 0), (13, 6), (13, 6), (18, 0), (10, 0), (13, 6), (13, 6), (18, 0), (10, 0), (13, 6), (13, 6), (18, 0), (10, 0), (13, 6), (13, 6), (18, 0), (10, 0), (13, 6), (13, 6), (18, 0), (10, 0), (13, 6), (13, 6), (18, 0), (10, 0), (13, 6), (13, 6), (18, 0), (10, 0), (13, 6), (13, 6), (18, 0), (10, 0), (13, 6), (13, 6), (18, 0), (10, 0), (13, 6), (13, 6), (18, 0), (10, 0), (13, 6), (13, 6), (18, 0), (10, 0), (13, 6), (13, 6), (29, 2), (13, 2), (22, 0), (13, 1024), (24, 0), (21, 0), (13, 64), (13, 6), (10, 0), (0, 0), (19, 0), (13, 15), (13, 15), (18, 0), (10, 0), (13, 6), (13, 6), (18, 0), (10, 0), (13, 6), (13, 6)]
def KE12 : Kd := [(13, 240), (13, 6), (13, 12), (13, 6), (13, 6), (13, 12), (13, 6), (13, 23), (13, 23), (13, 368), (13, 46), (13, 2), (14, 2), (13, 12), (13, 30), (13, 1001), (13, 6), (13, 6), (13, 6)]
def KDR : Kd := (([(26, 0)] ++ KE11) ++ [(27, 0)]) ++ KE12
def MR1 : Mm := m_X11_init 0 1 (stA (fun _ _ => 0) 0 f0_11)
def MR2 : Mm := m_X12_init 128 129 (stA MR1 128 f0_12)
abbrev Mz : Mm := MR2
theorem KDR_len : KDR.length = 148 := by decide +kernel
theorem KDR_at (i : Nat) (h : ¬ i < 148) : KDR[i]? = none ∧ KDF[i]? = none := ⟨List.getElem?_eq_none (KDR_len ▸ Nat.not_lt.mp h), List.getElem?_eq_none (by rw [KDF_len]; omega)⟩
def CvP (an : An) (b i : Nat) : Prop := (KDR[i]?).map (fun k => (b + i, cel an b k i (MR2 i))) = (KDF[i]?).map (fun k => (b + i, cel an b k i (Mz i)))
theorem mr_0 : MR2 0 0 = nI 1 ∧ MR2 0 1 = nI 18 ∧ MR2 0 2 = nI 35 ∧ MR2 0 3 = nI 37 ∧ MR2 0 4 = nI 41 ∧ MR2 0 5 = nI 107 ∧ MR2 0 6 = nI 108 ∧ MR2 0 8 = nI 109 ∧ MR2 0 9 = nI 111 ∧ MR2 0 10 = nI 112 ∧ MR2 0 11 = nI 115 ∧ MR2 0 12 = nI 116 ∧ MR2 0 13 = nI 117 := by decide +kernel
set_option maxRecDepth 1000000 in
theorem cv_0 (an : An) (b : Nat) : CvP an b 0 := by
  show some (b + 0, (.inr (11, [rv b (MR2 0 0), rv b (MR2 0 1), rv b (MR2 0 2), rv b (MR2 0 3), rv b (MR2 0 4), rv b (MR2 0 5), rv b (MR2 0 6), .int (MR2 0 7), rv b (MR2 0 8), rv b (MR2 0 9), rv b (MR2 0 10), rv b (MR2 0 11), rv b (MR2 0 12), rv b (MR2 0 13), .int (MR2 0 14), .int (MR2 0 15)]) : va_E)) = some (b + 0, (.inr (11, [.ref (b + (MR2 0 0).toNatClampNeg), .ref (b + (MR2 0 1).toNatClampNeg), .ref (b + 35), .ref (b + 37), .ref (b + 41), .ref (b + 107), .ref (b + 108), .int (MR2 0 7), .ref (b + 109), .ref (b + 111), .ref (b + 112), .ref (b + 115), .ref (b + 116), .ref (b + 117), .int (MR2 0 14), .int (MR2 0 15)]) : va_E))
  rw [mr_0.1, mr_0.2.1, mr_0.2.2.1, mr_0.2.2.2.1, mr_0.2.2.2.2.1, mr_0.2.2.2.2.2.1, mr_0.2.2.2.2.2.2.1, mr_0.2.2.2.2.2.2.2.1, mr_0.2.2.2.2.2.2.2.2.1, mr_0.2.2.2.2.2.2.2.2.2.1, mr_0.2.2.2.2.2.2.2.2.2.2.1, mr_0.2.2.2.2.2.2.2.2.2.2.2.1, mr_0.2.2.2.2.2.2.2.2.2.2.2.2]
  simp only [rv_nI (show 1 < 1000000 by decide), rv_nI (show 18 < 1000000 by decide), rv_nI (show 35 < 1000000 by decide), rv_nI (show 37 < 1000000 by decide), rv_nI (show 41 < 1000000 by decide), rv_nI (show 107 < 1000000 by decide), rv_nI (show 108 < 1000000 by decide), rv_nI (show 109 < 1000000 by decide), rv_nI (show 111 < 1000000 by decide), rv_nI (show 112 < 1000000 by decide), rv_nI (show 115 < 1000000 by decide), rv_nI (show 116 < 1000000 by decide), rv_nI (show 117 < 1000000 by decide), nI_clamp (show 1 < 2 ^ 31 by decide), nI_clamp (show 18 < 2 ^ 31 by decide)]
theorem mr_1 : MR2 1 4 = nI 2 ∧ MR2 1 5 = nI 3 ∧ MR2 1 6 = nI 4 ∧ MR2 1 7 = nI 5 := by decide +kernel
set_option maxRecDepth 1000000 in
theorem cv_1 (an : An) (b : Nat) : CvP an b 1 := by
  show some (b + 1, (.inr (9, [.int (MR2 1 0), .int (MR2 1 1), .int (MR2 1 2), .int (MR2 1 3), rv b (MR2 1 4), rv b (MR2 1 5), rv b (MR2 1 6), rv b (MR2 1 7)]) : va_E)) = some (b + 1, (.inr (9, [.int (MR2 1 0), .int (MR2 1 1), .int (MR2 1 2), .int (MR2 1 3), .ref (b + (1 + 1)), .ref (b + (1 + 2)), .ref (b + (1 + 3)), .ref (b + (1 + 4))]) : va_E))
  rw [mr_1.1, mr_1.2.1, mr_1.2.2.1, mr_1.2.2.2]
  simp only [rv_nI (show 2 < 1000000 by decide), rv_nI (show 3 < 1000000 by decide), rv_nI (show 4 < 1000000 by decide), rv_nI (show 5 < 1000000 by decide)]
set_option maxRecDepth 1000000 in
theorem cv_2 (an : An) (b : Nat) : CvP an b 2 := rfl
set_option maxRecDepth 1000000 in
theorem rw_3 : MR2 3 = (upd (upd (upd (upd (upd (upd (upd (upd (upd (upd (upd (upd (fun _ => (-1 : Int32)) 0 (nI 6)) 1 (nI 7)) 2 (nI 8)) 3 (nI 9)) 4 (nI 10)) 5 (nI 11)) 6 (nI 12)) 7 (nI 13)) 8 (nI 14)) 9 (nI 15)) 10 (nI 16)) 11 (nI 17)) := rfl
set_option maxRecDepth 1000000 in
theorem cv_3 (an : An) (b : Nat) : CvP an b 3 := by
  show some (b + 3, cel an b (28, 12) 3 (MR2 3)) = some (b + 3, cel an b (15, 12) 3 (Mz 3))
  rw [rw_3]
  refine congrArg (fun g => some (b + 3, Sum.inl (an.2.2.1, 12, Sum.inr (Sum.inr (Sum.inr (Sum.inr g)))))) (funext fun i => ?_)
  by_cases hi : i < 12
  · rcases (show i = 0 ∨ i = 1 ∨ i = 2 ∨ i = 3 ∨ i = 4 ∨ i = 5 ∨ i = 6 ∨ i = 7 ∨ i = 8 ∨ i = 9 ∨ i = 10 ∨ i = 11 by omega) with rfl | rfl | rfl | rfl | rfl | rfl | rfl | rfl | rfl | rfl | rfl | rfl <;> rfl
  · have hne : i ≠ 0 ∧ i ≠ 1 ∧ i ≠ 2 ∧ i ≠ 3 ∧ i ≠ 4 ∧ i ≠ 5 ∧ i ≠ 6 ∧ i ≠ 7 ∧ i ≠ 8 ∧ i ≠ 9 ∧ i ≠ 10 ∧ i ≠ 11 := by omega
    simp only [upd, hi, hne.1, hne.2.1, hne.2.2.1, hne.2.2.2.1, hne.2.2.2.2.1, hne.2.2.2.2.2.1, hne.2.2.2.2.2.2.1, hne.2.2.2.2.2.2.2.1, hne.2.2.2.2.2.2.2.2.1, hne.2.2.2.2.2.2.2.2.2.1, hne.2.2.2.2.2.2.2.2.2.2.1, hne.2.2.2.2.2.2.2.2.2.2.2, if_false]
    rfl
set_option maxRecDepth 1000000 in
theorem cv_4 (an : An) (b : Nat) : CvP an b 4 := rfl
set_option maxRecDepth 1000000 in
theorem cv_5 (an : An) (b : Nat) : CvP an b 5 := rfl
set_option maxRecDepth 1000000 in
theorem cv_6 (an : An) (b : Nat) : CvP an b 6 := rfl
set_option maxRecDepth 1000000 in
theorem cv_7 (an : An) (b : Nat) : CvP an b 7 := rfl
set_option maxRecDepth 1000000 in
theorem cv_8 (an : An) (b : Nat) : CvP an b 8 := rfl
set_option maxRecDepth 1000000 in
theorem cv_9 (an : An) (b : Nat) : CvP an b 9 := rfl
set_option maxRecDepth 1000000 in
theorem cv_10 (an : An) (b : Nat) : CvP an b 10 := rfl
set_option maxRecDepth 1000000 in
theorem cv_11 (an : An) (b : Nat) : CvP an b 11 := rfl
set_option maxRecDepth 1000000 in
theorem cv_12 (an : An) (b : Nat) : CvP an b 12 := rfl
set_option maxRecDepth 1000000 in
theorem cv_13 (an : An) (b : Nat) : CvP an b 13 := rfl
set_option maxRecDepth 1000000 in
theorem cv_14 (an : An) (b : Nat) : CvP an b 14 := rfl
set_option maxRecDepth 1000000 in
theorem cv_15 (an : An) (b : Nat) : CvP an b 15 := rfl
set_option maxRecDepth 1000000 in
theorem cv_16 (an : An) (b : Nat) : CvP an b 16 := rfl
set_option maxRecDepth 1000000 in
theorem cv_17 (an : An) (b : Nat) : CvP an b 17 := rfl
theorem mr_18 : MR2 18 4 = nI 19 ∧ MR2 18 5 = nI 20 ∧ MR2 18 6 = nI 21 ∧ MR2 18 7 = nI 22 := by decide +kernel
set_option maxRecDepth 1000000 in
theorem cv_18 (an : An) (b : Nat) : CvP an b 18 := by
  show some (b + 18, (.inr (9, [.int (MR2 18 0), .int (MR2 18 1), .int (MR2 18 2), .int (MR2 18 3), rv b (MR2 18 4), rv b (MR2 18 5), rv b (MR2 18 6), rv b (MR2 18 7)]) : va_E)) = some (b + 18, (.inr (9, [.int (MR2 18 0), .int (MR2 18 1), .int (MR2 18 2), .int (MR2 18 3), .ref (b + (18 + 1)), .ref (b + (18 + 2)), .ref (b + (18 + 3)), .ref (b + (18 + 4))]) : va_E))
  rw [mr_18.1, mr_18.2.1, mr_18.2.2.1, mr_18.2.2.2]
  simp only [rv_nI (show 19 < 1000000 by decide), rv_nI (show 20 < 1000000 by decide), rv_nI (show 21 < 1000000 by decide), rv_nI (show 22 < 1000000 by decide)]
set_option maxRecDepth 1000000 in
theorem cv_19 (an : An) (b : Nat) : CvP an b 19 := rfl
set_option maxRecDepth 1000000 in
theorem rw_20 : MR2 20 = (upd (upd (upd (upd (upd (upd (upd (upd (upd (upd (upd (upd (fun _ => (-1 : Int32)) 0 (nI 23)) 1 (nI 24)) 2 (nI 25)) 3 (nI 26)) 4 (nI 27)) 5 (nI 28)) 6 (nI 29)) 7 (nI 30)) 8 (nI 31)) 9 (nI 32)) 10 (nI 33)) 11 (nI 34)) := rfl
set_option maxRecDepth 1000000 in
theorem cv_20 (an : An) (b : Nat) : CvP an b 20 := by
  show some (b + 20, cel an b (28, 12) 20 (MR2 20)) = some (b + 20, cel an b (15, 12) 20 (Mz 20))
  rw [rw_20]
  refine congrArg (fun g => some (b + 20, Sum.inl (an.2.2.1, 12, Sum.inr (Sum.inr (Sum.inr (Sum.inr g)))))) (funext fun i => ?_)
  by_cases hi : i < 12
  · rcases (show i = 0 ∨ i = 1 ∨ i = 2 ∨ i = 3 ∨ i = 4 ∨ i = 5 ∨ i = 6 ∨ i = 7 ∨ i = 8 ∨ i = 9 ∨ i = 10 ∨ i = 11 by omega) with rfl | rfl | rfl | rfl | rfl | rfl | rfl | rfl | rfl | rfl | rfl | rfl <;> rfl
  · have hne : i ≠ 0 ∧ i ≠ 1 ∧ i ≠ 2 ∧ i ≠ 3 ∧ i ≠ 4 ∧ i ≠ 5 ∧ i ≠ 6 ∧ i ≠ 7 ∧ i ≠ 8 ∧ i ≠ 9 ∧ i ≠ 10 ∧ i ≠ 11 := by omega
    simp only [upd, hi, hne.1, hne.2.1, hne.2.2.1, hne.2.2.2.1, hne.2.2.2.2.1, hne.2.2.2.2.2.1, hne.2.2.2.2.2.2.1, hne.2.2.2.2.2.2.2.1, hne.2.2.2.2.2.2.2.2.1, hne.2.2.2.2.2.2.2.2.2.1, hne.2.2.2.2.2.2.2.2.2.2.1, hne.2.2.2.2.2.2.2.2.2.2.2, if_false]
    rfl
set_option maxRecDepth 1000000 in
theorem cv_21 (an : An) (b : Nat) : CvP an b 21 := rfl
set_option maxRecDepth 1000000 in
theorem cv_22 (an : An) (b : Nat) : CvP an b 22 := rfl
set_option maxRecDepth 1000000 in
theorem cv_23 (an : An) (b : Nat) : CvP an b 23 := rfl
set_option maxRecDepth 1000000 in
theorem cv_24 (an : An) (b : Nat) : CvP an b 24 := rfl
set_option maxRecDepth 1000000 in
theorem cv_25 (an : An) (b : Nat) : CvP an b 25 := rfl
set_option maxRecDepth 1000000 in
theorem cv_26 (an : An) (b : Nat) : CvP an b 26 := rfl
set_option maxRecDepth 1000000 in
theorem cv_27 (an : An) (b : Nat) : CvP an b 27 := rfl
set_option maxRecDepth 1000000 in
theorem cv_28 (an : An) (b : Nat) : CvP an b 28 := rfl
set_option maxRecDepth 1000000 in
theorem cv_29 (an : An) (b : Nat) : CvP an b 29 := rfl
set_option maxRecDepth 1000000 in
theorem cv_30 (an : An) (b : Nat) : CvP an b 30 := rfl
set_option maxRecDepth 1000000 in
theorem cv_31 (an : An) (b : Nat) : CvP an b 31 := rfl
set_option maxRecDepth 1000000 in
theorem cv_32 (an : An) (b : Nat) : CvP an b 32 := rfl
set_option maxRecDepth 1000000 in
theorem cv_33 (an : An) (b : Nat) : CvP an b 33 := rfl
set_option maxRecDepth 1000000 in
theorem cv_34 (an : An) (b : Nat) : CvP an b 34 := rfl
theorem mr_35 : MR2 35 2 = nI 36 := by decide +kernel
set_option maxRecDepth 1000000 in
theorem cv_35 (an : An) (b : Nat) : CvP an b 35 := by
  show some (b + 35, (.inr (7, [.int (MR2 35 0), .int (MR2 35 1), rv b (MR2 35 2), .int (MR2 35 3), .int (MR2 35 4), .int (MR2 35 5)]) : va_E)) = some (b + 35, (.inr (7, [.int (MR2 35 0), .int (MR2 35 1), .ref (b + 36), .int (MR2 35 3), .int (MR2 35 4), .int (MR2 35 5)]) : va_E))
  rw [mr_35]
  simp only [rv_nI (show 36 < 1000000 by decide)]
set_option maxRecDepth 1000000 in
theorem cv_36 (an : An) (b : Nat) : CvP an b 36 := rfl
theorem mr_37 : MR2 37 0 = nI 38 ∧ MR2 37 4 = nI 39 ∧ MR2 37 5 = nI 40 := by decide +kernel
set_option maxRecDepth 1000000 in
theorem cv_37 (an : An) (b : Nat) : CvP an b 37 := by
  show some (b + 37, (.inr (1, [rv b (MR2 37 0), .int (MR2 37 1), .int (MR2 37 2), .int (MR2 37 3), rv b (MR2 37 4), rv b (MR2 37 5)]) : va_E)) = some (b + 37, (.inr (1, [.ref (b + (37 + 1)), .int (MR2 37 1), .int (MR2 37 2), .int (MR2 37 3), .ref (b + (37 + 2)), .ref (b + (37 + 3))]) : va_E))
  rw [mr_37.1, mr_37.2.1, mr_37.2.2]
  simp only [rv_nI (show 38 < 1000000 by decide), rv_nI (show 39 < 1000000 by decide), rv_nI (show 40 < 1000000 by decide)]
set_option maxRecDepth 1000000 in
theorem cv_38 (an : An) (b : Nat) : CvP an b 38 := rfl
set_option maxRecDepth 1000000 in
theorem cv_39 (an : An) (b : Nat) : CvP an b 39 := rfl
set_option maxRecDepth 1000000 in
theorem cv_40 (an : An) (b : Nat) : CvP an b 40 := rfl
theorem mr_41 : MR2 41 2 = nI 42 := by decide +kernel
set_option maxRecDepth 1000000 in
theorem cv_41 (an : An) (b : Nat) : CvP an b 41 := by
  show some (b + 41, (.inr (3, [.int (MR2 41 0), .int (MR2 41 1), rv b (MR2 41 2)]) : va_E)) = some (b + 41, (.inr (3, [.int (MR2 41 0), .int (MR2 41 1), .ref (b + 42)]) : va_E))
  rw [mr_41]
  simp only [rv_nI (show 42 < 1000000 by decide)]
set_option maxRecDepth 1000000 in
theorem rw_42 : MR2 42 = (upd (upd (upd (upd (upd (upd (upd (upd (upd (upd (upd (upd (upd (upd (upd (upd (fun _ => (-1 : Int32)) 0 (nI 43)) 1 (nI 47)) 2 (nI 51)) 3 (nI 55)) 4 (nI 59)) 5 (nI 63)) 6 (nI 67)) 7 (nI 71)) 8 (nI 75)) 9 (nI 79)) 10 (nI 83)) 11 (nI 87)) 12 (nI 91)) 13 (nI 95)) 14 (nI 99)) 15 (nI 103)) := rfl
set_option maxRecDepth 1000000 in
theorem cv_42 (an : An) (b : Nat) : CvP an b 42 := by
  show some (b + 42, cel an b (29, 16) 42 (MR2 42)) = some (b + 42, cel an b (16, 16) 42 (Mz 42))
  rw [rw_42]
  refine congrArg (fun g => some (b + 42, Sum.inl (an.2.2.2, 16, Sum.inr (Sum.inr (Sum.inr (Sum.inr g)))))) (funext fun i => ?_)
  by_cases hi : i < 16
  · rcases (show i = 0 ∨ i = 1 ∨ i = 2 ∨ i = 3 ∨ i = 4 ∨ i = 5 ∨ i = 6 ∨ i = 7 ∨ i = 8 ∨ i = 9 ∨ i = 10 ∨ i = 11 ∨ i = 12 ∨ i = 13 ∨ i = 14 ∨ i = 15 by omega) with rfl | rfl | rfl | rfl | rfl | rfl | rfl | rfl | rfl | rfl | rfl | rfl | rfl | rfl | rfl | rfl <;> rfl
  · have hne : i ≠ 0 ∧ i ≠ 1 ∧ i ≠ 2 ∧ i ≠ 3 ∧ i ≠ 4 ∧ i ≠ 5 ∧ i ≠ 6 ∧ i ≠ 7 ∧ i ≠ 8 ∧ i ≠ 9 ∧ i ≠ 10 ∧ i ≠ 11 ∧ i ≠ 12 ∧ i ≠ 13 ∧ i ≠ 14 ∧ i ≠ 15 := by omega
    simp only [upd, hi, hne.1, hne.2.1, hne.2.2.1, hne.2.2.2.1, hne.2.2.2.2.1, hne.2.2.2.2.2.1, hne.2.2.2.2.2.2.1, hne.2.2.2.2.2.2.2.1, hne.2.2.2.2.2.2.2.2.1, hne.2.2.2.2.2.2.2.2.2.1, hne.2.2.2.2.2.2.2.2.2.2.1, hne.2.2.2.2.2.2.2.2.2.2.2.1, hne.2.2.2.2.2.2.2.2.2.2.2.2.1, hne.2.2.2.2.2.2.2.2.2.2.2.2.2.1, hne.2.2.2.2.2.2.2.2.2.2.2.2.2.2.1, hne.2.2.2.2.2.2.2.2.2.2.2.2.2.2.2, if_false]
    rfl
theorem mr_43 : MR2 43 0 = nI 44 ∧ MR2 43 4 = nI 45 ∧ MR2 43 5 = nI 46 := by decide +kernel
set_option maxRecDepth 1000000 in
theorem cv_43 (an : An) (b : Nat) : CvP an b 43 := by
  show some (b + 43, (.inr (1, [rv b (MR2 43 0), .int (MR2 43 1), .int (MR2 43 2), .int (MR2 43 3), rv b (MR2 43 4), rv b (MR2 43 5)]) : va_E)) = some (b + 43, (.inr (1, [.ref (b + (43 + 1)), .int (MR2 43 1), .int (MR2 43 2), .int (MR2 43 3), .ref (b + (43 + 2)), .ref (b + (43 + 3))]) : va_E))
  rw [mr_43.1, mr_43.2.1, mr_43.2.2]
  simp only [rv_nI (show 44 < 1000000 by decide), rv_nI (show 45 < 1000000 by decide), rv_nI (show 46 < 1000000 by decide)]
set_option maxRecDepth 1000000 in
theorem cv_44 (an : An) (b : Nat) : CvP an b 44 := rfl
set_option maxRecDepth 1000000 in
theorem cv_45 (an : An) (b : Nat) : CvP an b 45 := rfl
set_option maxRecDepth 1000000 in
theorem cv_46 (an : An) (b : Nat) : CvP an b 46 := rfl
theorem mr_47 : MR2 47 0 = nI 48 ∧ MR2 47 4 = nI 49 ∧ MR2 47 5 = nI 50 := by decide +kernel
set_option maxRecDepth 1000000 in
theorem cv_47 (an : An) (b : Nat) : CvP an b 47 := by
  show some (b + 47, (.inr (1, [rv b (MR2 47 0), .int (MR2 47 1), .int (MR2 47 2), .int (MR2 47 3), rv b (MR2 47 4), rv b (MR2 47 5)]) : va_E)) = some (b + 47, (.inr (1, [.ref (b + (47 + 1)), .int (MR2 47 1), .int (MR2 47 2), .int (MR2 47 3), .ref (b + (47 + 2)), .ref (b + (47 + 3))]) : va_E))
  rw [mr_47.1, mr_47.2.1, mr_47.2.2]
  simp only [rv_nI (show 48 < 1000000 by decide), rv_nI (show 49 < 1000000 by decide), rv_nI (show 50 < 1000000 by decide)]
set_option maxRecDepth 1000000 in
theorem cv_48 (an : An) (b : Nat) : CvP an b 48 := rfl
set_option maxRecDepth 1000000 in
theorem cv_49 (an : An) (b : Nat) : CvP an b 49 := rfl
set_option maxRecDepth 1000000 in
theorem cv_50 (an : An) (b : Nat) : CvP an b 50 := rfl
theorem mr_51 : MR2 51 0 = nI 52 ∧ MR2 51 4 = nI 53 ∧ MR2 51 5 = nI 54 := by decide +kernel
set_option maxRecDepth 1000000 in
theorem cv_51 (an : An) (b : Nat) : CvP an b 51 := by
  show some (b + 51, (.inr (1, [rv b (MR2 51 0), .int (MR2 51 1), .int (MR2 51 2), .int (MR2 51 3), rv b (MR2 51 4), rv b (MR2 51 5)]) : va_E)) = some (b + 51, (.inr (1, [.ref (b + (51 + 1)), .int (MR2 51 1), .int (MR2 51 2), .int (MR2 51 3), .ref (b + (51 + 2)), .ref (b + (51 + 3))]) : va_E))
  rw [mr_51.1, mr_51.2.1, mr_51.2.2]
  simp only [rv_nI (show 52 < 1000000 by decide), rv_nI (show 53 < 1000000 by decide), rv_nI (show 54 < 1000000 by decide)]
set_option maxRecDepth 1000000 in
theorem cv_52 (an : An) (b : Nat) : CvP an b 52 := rfl
set_option maxRecDepth 1000000 in
theorem cv_53 (an : An) (b : Nat) : CvP an b 53 := rfl
set_option maxRecDepth 1000000 in
theorem cv_54 (an : An) (b : Nat) : CvP an b 54 := rfl
theorem mr_55 : MR2 55 0 = nI 56 ∧ MR2 55 4 = nI 57 ∧ MR2 55 5 = nI 58 := by decide +kernel
set_option maxRecDepth 1000000 in
theorem cv_55 (an : An) (b : Nat) : CvP an b 55 := by
  show some (b + 55, (.inr (1, [rv b (MR2 55 0), .int (MR2 55 1), .int (MR2 55 2), .int (MR2 55 3), rv b (MR2 55 4), rv b (MR2 55 5)]) : va_E)) = some (b + 55, (.inr (1, [.ref (b + (55 + 1)), .int (MR2 55 1), .int (MR2 55 2), .int (MR2 55 3), .ref (b + (55 + 2)), .ref (b + (55 + 3))]) : va_E))
  rw [mr_55.1, mr_55.2.1, mr_55.2.2]
  simp only [rv_nI (show 56 < 1000000 by decide), rv_nI (show 57 < 1000000 by decide), rv_nI (show 58 < 1000000 by decide)]
set_option maxRecDepth 1000000 in
theorem cv_56 (an : An) (b : Nat) : CvP an b 56 := rfl
set_option maxRecDepth 1000000 in
theorem cv_57 (an : An) (b : Nat) : CvP an b 57 := rfl
set_option maxRecDepth 1000000 in
theorem cv_58 (an : An) (b : Nat) : CvP an b 58 := rfl
theorem mr_59 : MR2 59 0 = nI 60 ∧ MR2 59 4 = nI 61 ∧ MR2 59 5 = nI 62 := by decide +kernel
set_option maxRecDepth 1000000 in
theorem cv_59 (an : An) (b : Nat) : CvP an b 59 := by
  show some (b + 59, (.inr (1, [rv b (MR2 59 0), .int (MR2 59 1), .int (MR2 59 2), .int (MR2 59 3), rv b (MR2 59 4), rv b (MR2 59 5)]) : va_E)) = some (b + 59, (.inr (1, [.ref (b + (59 + 1)), .int (MR2 59 1), .int (MR2 59 2), .int (MR2 59 3), .ref (b + (59 + 2)), .ref (b + (59 + 3))]) : va_E))
  rw [mr_59.1, mr_59.2.1, mr_59.2.2]
  simp only [rv_nI (show 60 < 1000000 by decide), rv_nI (show 61 < 1000000 by decide), rv_nI (show 62 < 1000000 by decide)]
set_option maxRecDepth 1000000 in
theorem cv_60 (an : An) (b : Nat) : CvP an b 60 := rfl
set_option maxRecDepth 1000000 in
theorem cv_61 (an : An) (b : Nat) : CvP an b 61 := rfl
set_option maxRecDepth 1000000 in
theorem cv_62 (an : An) (b : Nat) : CvP an b 62 := rfl
theorem mr_63 : MR2 63 0 = nI 64 ∧ MR2 63 4 = nI 65 ∧ MR2 63 5 = nI 66 := by decide +kernel
set_option maxRecDepth 1000000 in
theorem cv_63 (an : An) (b : Nat) : CvP an b 63 := by
  show some (b + 63, (.inr (1, [rv b (MR2 63 0), .int (MR2 63 1), .int (MR2 63 2), .int (MR2 63 3), rv b (MR2 63 4), rv b (MR2 63 5)]) : va_E)) = some (b + 63, (.inr (1, [.ref (b + (63 + 1)), .int (MR2 63 1), .int (MR2 63 2), .int (MR2 63 3), .ref (b + (63 + 2)), .ref (b + (63 + 3))]) : va_E))
  rw [mr_63.1, mr_63.2.1, mr_63.2.2]
  simp only [rv_nI (show 64 < 1000000 by decide), rv_nI (show 65 < 1000000 by decide), rv_nI (show 66 < 1000000 by decide)]
set_option maxRecDepth 1000000 in
theorem cv_64 (an : An) (b : Nat) : CvP an b 64 := rfl
set_option maxRecDepth 1000000 in
theorem cv_65 (an : An) (b : Nat) : CvP an b 65 := rfl
set_option maxRecDepth 1000000 in
theorem cv_66 (an : An) (b : Nat) : CvP an b 66 := rfl
theorem mr_67 : MR2 67 0 = nI 68 ∧ MR2 67 4 = nI 69 ∧ MR2 67 5 = nI 70 := by decide +kernel
set_option maxRecDepth 1000000 in
theorem cv_67 (an : An) (b : Nat) : CvP an b 67 := by
  show some (b + 67, (.inr (1, [rv b (MR2 67 0), .int (MR2 67 1), .int (MR2 67 2), .int (MR2 67 3), rv b (MR2 67 4), rv b (MR2 67 5)]) : va_E)) = some (b + 67, (.inr (1, [.ref (b + (67 + 1)), .int (MR2 67 1), .int (MR2 67 2), .int (MR2 67 3), .ref (b + (67 + 2)), .ref (b + (67 + 3))]) : va_E))
  rw [mr_67.1, mr_67.2.1, mr_67.2.2]
  simp only [rv_nI (show 68 < 1000000 by decide), rv_nI (show 69 < 1000000 by decide), rv_nI (show 70 < 1000000 by decide)]
set_option maxRecDepth 1000000 in
theorem cv_68 (an : An) (b : Nat) : CvP an b 68 := rfl
set_option maxRecDepth 1000000 in
theorem cv_69 (an : An) (b : Nat) : CvP an b 69 := rfl
set_option maxRecDepth 1000000 in
theorem cv_70 (an : An) (b : Nat) : CvP an b 70 := rfl
theorem mr_71 : MR2 71 0 = nI 72 ∧ MR2 71 4 = nI 73 ∧ MR2 71 5 = nI 74 := by decide +kernel
set_option maxRecDepth 1000000 in
theorem cv_71 (an : An) (b : Nat) : CvP an b 71 := by
  show some (b + 71, (.inr (1, [rv b (MR2 71 0), .int (MR2 71 1), .int (MR2 71 2), .int (MR2 71 3), rv b (MR2 71 4), rv b (MR2 71 5)]) : va_E)) = some (b + 71, (.inr (1, [.ref (b + (71 + 1)), .int (MR2 71 1), .int (MR2 71 2), .int (MR2 71 3), .ref (b + (71 + 2)), .ref (b + (71 + 3))]) : va_E))
  rw [mr_71.1, mr_71.2.1, mr_71.2.2]
  simp only [rv_nI (show 72 < 1000000 by decide), rv_nI (show 73 < 1000000 by decide), rv_nI (show 74 < 1000000 by decide)]
set_option maxRecDepth 1000000 in
theorem cv_72 (an : An) (b : Nat) : CvP an b 72 := rfl
set_option maxRecDepth 1000000 in
theorem cv_73 (an : An) (b : Nat) : CvP an b 73 := rfl
set_option maxRecDepth 1000000 in
theorem cv_74 (an : An) (b : Nat) : CvP an b 74 := rfl
theorem mr_75 : MR2 75 0 = nI 76 ∧ MR2 75 4 = nI 77 ∧ MR2 75 5 = nI 78 := by decide +kernel
set_option maxRecDepth 1000000 in
theorem cv_75 (an : An) (b : Nat) : CvP an b 75 := by
  show some (b + 75, (.inr (1, [rv b (MR2 75 0), .int (MR2 75 1), .int (MR2 75 2), .int (MR2 75 3), rv b (MR2 75 4), rv b (MR2 75 5)]) : va_E)) = some (b + 75, (.inr (1, [.ref (b + (75 + 1)), .int (MR2 75 1), .int (MR2 75 2), .int (MR2 75 3), .ref (b + (75 + 2)), .ref (b + (75 + 3))]) : va_E))
  rw [mr_75.1, mr_75.2.1, mr_75.2.2]
  simp only [rv_nI (show 76 < 1000000 by decide), rv_nI (show 77 < 1000000 by decide), rv_nI (show 78 < 1000000 by decide)]
set_option maxRecDepth 1000000 in
theorem cv_76 (an : An) (b : Nat) : CvP an b 76 := rfl
set_option maxRecDepth 1000000 in
theorem cv_77 (an : An) (b : Nat) : CvP an b 77 := rfl
set_option maxRecDepth 1000000 in
theorem cv_78 (an : An) (b : Nat) : CvP an b 78 := rfl
theorem mr_79 : MR2 79 0 = nI 80 ∧ MR2 79 4 = nI 81 ∧ MR2 79 5 = nI 82 := by decide +kernel
set_option maxRecDepth 1000000 in
theorem cv_79 (an : An) (b : Nat) : CvP an b 79 := by
  show some (b + 79, (.inr (1, [rv b (MR2 79 0), .int (MR2 79 1), .int (MR2 79 2), .int (MR2 79 3), rv b (MR2 79 4), rv b (MR2 79 5)]) : va_E)) = some (b + 79, (.inr (1, [.ref (b + (79 + 1)), .int (MR2 79 1), .int (MR2 79 2), .int (MR2 79 3), .ref (b + (79 + 2)), .ref (b + (79 + 3))]) : va_E))
  rw [mr_79.1, mr_79.2.1, mr_79.2.2]
  simp only [rv_nI (show 80 < 1000000 by decide), rv_nI (show 81 < 1000000 by decide), rv_nI (show 82 < 1000000 by decide)]
set_option maxRecDepth 1000000 in
theorem cv_80 (an : An) (b : Nat) : CvP an b 80 := rfl
set_option maxRecDepth 1000000 in
theorem cv_81 (an : An) (b : Nat) : CvP an b 81 := rfl
set_option maxRecDepth 1000000 in
theorem cv_82 (an : An) (b : Nat) : CvP an b 82 := rfl
theorem mr_83 : MR2 83 0 = nI 84 ∧ MR2 83 4 = nI 85 ∧ MR2 83 5 = nI 86 := by decide +kernel
set_option maxRecDepth 1000000 in
theorem cv_83 (an : An) (b : Nat) : CvP an b 83 := by
  show some (b + 83, (.inr (1, [rv b (MR2 83 0), .int (MR2 83 1), .int (MR2 83 2), .int (MR2 83 3), rv b (MR2 83 4), rv b (MR2 83 5)]) : va_E)) = some (b + 83, (.inr (1, [.ref (b + (83 + 1)), .int (MR2 83 1), .int (MR2 83 2), .int (MR2 83 3), .ref (b + (83 + 2)), .ref (b + (83 + 3))]) : va_E))
  rw [mr_83.1, mr_83.2.1, mr_83.2.2]
  simp only [rv_nI (show 84 < 1000000 by decide), rv_nI (show 85 < 1000000 by decide), rv_nI (show 86 < 1000000 by decide)]
set_option maxRecDepth 1000000 in
theorem cv_84 (an : An) (b : Nat) : CvP an b 84 := rfl
set_option maxRecDepth 1000000 in
theorem cv_85 (an : An) (b : Nat) : CvP an b 85 := rfl
set_option maxRecDepth 1000000 in
theorem cv_86 (an : An) (b : Nat) : CvP an b 86 := rfl
theorem mr_87 : MR2 87 0 = nI 88 ∧ MR2 87 4 = nI 89 ∧ MR2 87 5 = nI 90 := by decide +kernel
set_option maxRecDepth 1000000 in
theorem cv_87 (an : An) (b : Nat) : CvP an b 87 := by
  show some (b + 87, (.inr (1, [rv b (MR2 87 0), .int (MR2 87 1), .int (MR2 87 2), .int (MR2 87 3), rv b (MR2 87 4), rv b (MR2 87 5)]) : va_E)) = some (b + 87, (.inr (1, [.ref (b + (87 + 1)), .int (MR2 87 1), .int (MR2 87 2), .int (MR2 87 3), .ref (b + (87 + 2)), .ref (b + (87 + 3))]) : va_E))
  rw [mr_87.1, mr_87.2.1, mr_87.2.2]
  simp only [rv_nI (show 88 < 1000000 by decide), rv_nI (show 89 < 1000000 by decide), rv_nI (show 90 < 1000000 by decide)]
set_option maxRecDepth 1000000 in
theorem cv_88 (an : An) (b : Nat) : CvP an b 88 := rfl
set_option maxRecDepth 1000000 in
theorem cv_89 (an : An) (b : Nat) : CvP an b 89 := rfl
set_option maxRecDepth 1000000 in
theorem cv_90 (an : An) (b : Nat) : CvP an b 90 := rfl
theorem mr_91 : MR2 91 0 = nI 92 ∧ MR2 91 4 = nI 93 ∧ MR2 91 5 = nI 94 := by decide +kernel
set_option maxRecDepth 1000000 in
theorem cv_91 (an : An) (b : Nat) : CvP an b 91 := by
  show some (b + 91, (.inr (1, [rv b (MR2 91 0), .int (MR2 91 1), .int (MR2 91 2), .int (MR2 91 3), rv b (MR2 91 4), rv b (MR2 91 5)]) : va_E)) = some (b + 91, (.inr (1, [.ref (b + (91 + 1)), .int (MR2 91 1), .int (MR2 91 2), .int (MR2 91 3), .ref (b + (91 + 2)), .ref (b + (91 + 3))]) : va_E))
  rw [mr_91.1, mr_91.2.1, mr_91.2.2]
  simp only [rv_nI (show 92 < 1000000 by decide), rv_nI (show 93 < 1000000 by decide), rv_nI (show 94 < 1000000 by decide)]
set_option maxRecDepth 1000000 in
theorem cv_92 (an : An) (b : Nat) : CvP an b 92 := rfl
set_option maxRecDepth 1000000 in
theorem cv_93 (an : An) (b : Nat) : CvP an b 93 := rfl
set_option maxRecDepth 1000000 in
theorem cv_94 (an : An) (b : Nat) : CvP an b 94 := rfl
theorem mr_95 : MR2 95 0 = nI 96 ∧ MR2 95 4 = nI 97 ∧ MR2 95 5 = nI 98 := by decide +kernel
set_option maxRecDepth 1000000 in
theorem cv_95 (an : An) (b : Nat) : CvP an b 95 := by
  show some (b + 95, (.inr (1, [rv b (MR2 95 0), .int (MR2 95 1), .int (MR2 95 2), .int (MR2 95 3), rv b (MR2 95 4), rv b (MR2 95 5)]) : va_E)) = some (b + 95, (.inr (1, [.ref (b + (95 + 1)), .int (MR2 95 1), .int (MR2 95 2), .int (MR2 95 3), .ref (b + (95 + 2)), .ref (b + (95 + 3))]) : va_E))
  rw [mr_95.1, mr_95.2.1, mr_95.2.2]
  simp only [rv_nI (show 96 < 1000000 by decide), rv_nI (show 97 < 1000000 by decide), rv_nI (show 98 < 1000000 by decide)]
set_option maxRecDepth 1000000 in
theorem cv_96 (an : An) (b : Nat) : CvP an b 96 := rfl
set_option maxRecDepth 1000000 in
theorem cv_97 (an : An) (b : Nat) : CvP an b 97 := rfl
set_option maxRecDepth 1000000 in
theorem cv_98 (an : An) (b : Nat) : CvP an b 98 := rfl
theorem mr_99 : MR2 99 0 = nI 100 ∧ MR2 99 4 = nI 101 ∧ MR2 99 5 = nI 102 := by decide +kernel
set_option maxRecDepth 1000000 in
theorem cv_99 (an : An) (b : Nat) : CvP an b 99 := by
  show some (b + 99, (.inr (1, [rv b (MR2 99 0), .int (MR2 99 1), .int (MR2 99 2), .int (MR2 99 3), rv b (MR2 99 4), rv b (MR2 99 5)]) : va_E)) = some (b + 99, (.inr (1, [.ref (b + (99 + 1)), .int (MR2 99 1), .int (MR2 99 2), .int (MR2 99 3), .ref (b + (99 + 2)), .ref (b + (99 + 3))]) : va_E))
  rw [mr_99.1, mr_99.2.1, mr_99.2.2]
  simp only [rv_nI (show 100 < 1000000 by decide), rv_nI (show 101 < 1000000 by decide), rv_nI (show 102 < 1000000 by decide)]
set_option maxRecDepth 1000000 in
theorem cv_100 (an : An) (b : Nat) : CvP an b 100 := rfl
set_option maxRecDepth 1000000 in
theorem cv_101 (an : An) (b : Nat) : CvP an b 101 := rfl
set_option maxRecDepth 1000000 in
theorem cv_102 (an : An) (b : Nat) : CvP an b 102 := rfl
theorem mr_103 : MR2 103 0 = nI 104 ∧ MR2 103 4 = nI 105 ∧ MR2 103 5 = nI 106 := by decide +kernel
set_option maxRecDepth 1000000 in
theorem cv_103 (an : An) (b : Nat) : CvP an b 103 := by
  show some (b + 103, (.inr (1, [rv b (MR2 103 0), .int (MR2 103 1), .int (MR2 103 2), .int (MR2 103 3), rv b (MR2 103 4), rv b (MR2 103 5)]) : va_E)) = some (b + 103, (.inr (1, [.ref (b + (103 + 1)), .int (MR2 103 1), .int (MR2 103 2), .int (MR2 103 3), .ref (b + (103 + 2)), .ref (b + (103 + 3))]) : va_E))
  rw [mr_103.1, mr_103.2.1, mr_103.2.2]
  simp only [rv_nI (show 104 < 1000000 by decide), rv_nI (show 105 < 1000000 by decide), rv_nI (show 106 < 1000000 by decide)]
set_option maxRecDepth 1000000 in
theorem cv_104 (an : An) (b : Nat) : CvP an b 104 := rfl
set_option maxRecDepth 1000000 in
theorem cv_105 (an : An) (b : Nat) : CvP an b 105 := rfl
set_option maxRecDepth 1000000 in
theorem cv_106 (an : An) (b : Nat) : CvP an b 106 := rfl
set_option maxRecDepth 1000000 in
theorem rw_107 : MR2 107 = (upd (upd (fun _ => (-1 : Int32)) 0 (nI 120)) 1 (nI 124)) := rfl
set_option maxRecDepth 1000000 in
theorem cv_107 (an : An) (b : Nat) : CvP an b 107 := by
  show some (b + 107, cel an b (29, 2) 107 (MR2 107)) = some (b + 107, cel an b (17, 2) 107 (Mz 107))
  rw [rw_107]
  refine congrArg (fun g => some (b + 107, Sum.inl (an.2.2.2, 2, Sum.inr (Sum.inr (Sum.inr (Sum.inr g)))))) (funext fun i => ?_)
  by_cases hi : i < 2
  · rcases (show i = 0 ∨ i = 1 by omega) with rfl | rfl <;> rfl
  · have hne : i ≠ 0 ∧ i ≠ 1 := by omega
    simp only [upd, hi, hne.1, hne.2, if_false]
    rfl
set_option maxRecDepth 1000000 in
theorem cv_108 (an : An) (b : Nat) : CvP an b 108 := rfl
theorem mr_109 : MR2 109 0 = nI 110 := by decide +kernel
set_option maxRecDepth 1000000 in
theorem cv_109 (an : An) (b : Nat) : CvP an b 109 := by
  show some (b + 109, (.inr (6, [rv b (MR2 109 0)]) : va_E)) = some (b + 109, (.inr (6, [.ref (b + 110)]) : va_E))
  rw [mr_109]
  simp only [rv_nI (show 110 < 1000000 by decide)]
set_option maxRecDepth 1000000 in
theorem cv_110 (an : An) (b : Nat) : CvP an b 110 := rfl
set_option maxRecDepth 1000000 in
theorem cv_111 (an : An) (b : Nat) : CvP an b 111 := rfl
theorem mr_112 : MR2 112 0 = nI 113 ∧ MR2 112 1 = nI 114 := by decide +kernel
set_option maxRecDepth 1000000 in
theorem cv_112 (an : An) (b : Nat) : CvP an b 112 := by
  show some (b + 112, (.inr (4, [rv b (MR2 112 0), rv b (MR2 112 1)]) : va_E)) = some (b + 112, (.inr (4, [.ref (b + 113), .ref (b + 114)]) : va_E))
  rw [mr_112.1, mr_112.2]
  simp only [rv_nI (show 113 < 1000000 by decide), rv_nI (show 114 < 1000000 by decide)]
set_option maxRecDepth 1000000 in
theorem cv_113 (an : An) (b : Nat) : CvP an b 113 := rfl
set_option maxRecDepth 1000000 in
theorem cv_114 (an : An) (b : Nat) : CvP an b 114 := rfl
set_option maxRecDepth 1000000 in
theorem cv_115 (an : An) (b : Nat) : CvP an b 115 := rfl
set_option maxRecDepth 1000000 in
theorem cv_116 (an : An) (b : Nat) : CvP an b 116 := rfl
theorem mr_117 : MR2 117 3 = nI 118 ∧ MR2 117 4 = nI 119 := by decide +kernel
set_option maxRecDepth 1000000 in
theorem cv_117 (an : An) (b : Nat) : CvP an b 117 := by
  show some (b + 117, (.inr (2, [.int (MR2 117 0), .int (MR2 117 1), .int (MR2 117 2), rv b (MR2 117 3), rv b (MR2 117 4)]) : va_E)) = some (b + 117, (.inr (2, [.int (MR2 117 0), .int (MR2 117 1), .int (MR2 117 2), .ref (b + 118), .ref (b + 119)]) : va_E))
  rw [mr_117.1, mr_117.2]
  simp only [rv_nI (show 118 < 1000000 by decide), rv_nI (show 119 < 1000000 by decide)]
set_option maxRecDepth 1000000 in
theorem cv_118 (an : An) (b : Nat) : CvP an b 118 := rfl
set_option maxRecDepth 1000000 in
theorem cv_119 (an : An) (b : Nat) : CvP an b 119 := rfl
theorem mr_120 : MR2 120 0 = nI 121 ∧ MR2 120 4 = nI 122 ∧ MR2 120 5 = nI 123 := by decide +kernel
set_option maxRecDepth 1000000 in
theorem cv_120 (an : An) (b : Nat) : CvP an b 120 := by
  show some (b + 120, (.inr (1, [rv b (MR2 120 0), .int (MR2 120 1), .int (MR2 120 2), .int (MR2 120 3), rv b (MR2 120 4), rv b (MR2 120 5)]) : va_E)) = some (b + 120, (.inr (1, [.ref (b + (120 + 1)), .int (MR2 120 1), .int (MR2 120 2), .int (MR2 120 3), .ref (b + (120 + 2)), .ref (b + (120 + 3))]) : va_E))
  rw [mr_120.1, mr_120.2.1, mr_120.2.2]
  simp only [rv_nI (show 121 < 1000000 by decide), rv_nI (show 122 < 1000000 by decide), rv_nI (show 123 < 1000000 by decide)]
set_option maxRecDepth 1000000 in
theorem cv_121 (an : An) (b : Nat) : CvP an b 121 := rfl
set_option maxRecDepth 1000000 in
theorem cv_122 (an : An) (b : Nat) : CvP an b 122 := rfl
set_option maxRecDepth 1000000 in
theorem cv_123 (an : An) (b : Nat) : CvP an b 123 := rfl
theorem mr_124 : MR2 124 0 = nI 125 ∧ MR2 124 4 = nI 126 ∧ MR2 124 5 = nI 127 := by decide +kernel
set_option maxRecDepth 1000000 in
theorem cv_124 (an : An) (b : Nat) : CvP an b 124 := by
  show some (b + 124, (.inr (1, [rv b (MR2 124 0), .int (MR2 124 1), .int (MR2 124 2), .int (MR2 124 3), rv b (MR2 124 4), rv b (MR2 124 5)]) : va_E)) = some (b + 124, (.inr (1, [.ref (b + (124 + 1)), .int (MR2 124 1), .int (MR2 124 2), .int (MR2 124 3), .ref (b + (124 + 2)), .ref (b + (124 + 3))]) : va_E))
  rw [mr_124.1, mr_124.2.1, mr_124.2.2]
  simp only [rv_nI (show 125 < 1000000 by decide), rv_nI (show 126 < 1000000 by decide), rv_nI (show 127 < 1000000 by decide)]
set_option maxRecDepth 1000000 in
theorem cv_125 (an : An) (b : Nat) : CvP an b 125 := rfl
set_option maxRecDepth 1000000 in
theorem cv_126 (an : An) (b : Nat) : CvP an b 126 := rfl
set_option maxRecDepth 1000000 in
theorem cv_127 (an : An) (b : Nat) : CvP an b 127 := rfl
theorem mr_128 : MR2 128 1 = nI 129 ∧ MR2 128 13 = nI 130 ∧ MR2 128 14 = nI 131 ∧ MR2 128 15 = nI 132 ∧ MR2 128 20 = nI 133 ∧ MR2 128 21 = nI 134 ∧ MR2 128 22 = nI 135 ∧ MR2 128 23 = nI 136 ∧ MR2 128 24 = nI 137 ∧ MR2 128 25 = nI 138 ∧ MR2 128 27 = nI 139 ∧ MR2 128 28 = nI 140 ∧ MR2 128 29 = nI 141 ∧ MR2 128 32 = nI 142 ∧ MR2 128 34 = nI 143 ∧ MR2 128 35 = nI 144 ∧ MR2 128 37 = nI 145 ∧ MR2 128 38 = nI 146 ∧ MR2 128 39 = nI 147 := by decide +kernel
set_option maxRecDepth 1000000 in
theorem cv_128 (an : An) (b : Nat) : CvP an b 128 := by
  show some (b + 128, (.inr (12, [.int (MR2 128 0), rv b (MR2 128 1), .int (MR2 128 2), .int (MR2 128 3), .int (MR2 128 4), .int (MR2 128 5), .int (MR2 128 6), .int (MR2 128 7), .int (MR2 128 8), .int (MR2 128 9), .int (MR2 128 10), .int (MR2 128 11), .int (MR2 128 12), rv b (MR2 128 13), rv b (MR2 128 14), rv b (MR2 128 15), .int (MR2 128 16), .int (MR2 128 17), .int (MR2 128 18), .int (MR2 128 19), rv b (MR2 128 20), rv b (MR2 128 21), rv b (MR2 128 22), rv b (MR2 128 23), rv b (MR2 128 24), rv b (MR2 128 25), .int (MR2 128 26), rv b (MR2 128 27), rv b (MR2 128 28), rv b (MR2 128 29), .int (MR2 128 30), .int (MR2 128 31), rv b (MR2 128 32), .int (MR2 128 33), rv b (MR2 128 34), rv b (MR2 128 35), .int (MR2 128 36), rv b (MR2 128 37), rv b (MR2 128 38), rv b (MR2 128 39)]) : va_E)) = some (b + 128, (.inr (12, [.int (MR2 128 0), .ref (b + 129), .int (MR2 128 2), .int (MR2 128 3), .int (MR2 128 4), .int (MR2 128 5), .int (MR2 128 6), .int (MR2 128 7), .int (MR2 128 8), .int (MR2 128 9), .int (MR2 128 10), .int (MR2 128 11), .int (MR2 128 12), .ref (b + 130), .ref (b + 131), .ref (b + 132), .int (MR2 128 16), .int (MR2 128 17), .int (MR2 128 18), .int (MR2 128 19), .ref (b + 133), .ref (b + 134), .ref (b + 135), .ref (b + 136), .ref (b + 137), .ref (b + 138), .int (MR2 128 26), .ref (b + 139), .ref (b + 140), .ref (b + 141), .int (MR2 128 30), .int (MR2 128 31), .ref (b + 142), .int (MR2 128 33), .ref (b + 143), .ref (b + 144), .int (MR2 128 36), .ref (b + 145), .ref (b + 146), .ref (b + 147)]) : va_E))
  rw [mr_128.1, mr_128.2.1, mr_128.2.2.1, mr_128.2.2.2.1, mr_128.2.2.2.2.1, mr_128.2.2.2.2.2.1, mr_128.2.2.2.2.2.2.1, mr_128.2.2.2.2.2.2.2.1, mr_128.2.2.2.2.2.2.2.2.1, mr_128.2.2.2.2.2.2.2.2.2.1, mr_128.2.2.2.2.2.2.2.2.2.2.1, mr_128.2.2.2.2.2.2.2.2.2.2.2.1, mr_128.2.2.2.2.2.2.2.2.2.2.2.2.1, mr_128.2.2.2.2.2.2.2.2.2.2.2.2.2.1, mr_128.2.2.2.2.2.2.2.2.2.2.2.2.2.2.1, mr_128.2.2.2.2.2.2.2.2.2.2.2.2.2.2.2.1, mr_128.2.2.2.2.2.2.2.2.2.2.2.2.2.2.2.2.1, mr_128.2.2.2.2.2.2.2.2.2.2.2.2.2.2.2.2.2.1, mr_128.2.2.2.2.2.2.2.2.2.2.2.2.2.2.2.2.2.2]
  simp only [rv_nI (show 129 < 1000000 by decide), rv_nI (show 130 < 1000000 by decide), rv_nI (show 131 < 1000000 by decide), rv_nI (show 132 < 1000000 by decide), rv_nI (show 133 < 1000000 by decide), rv_nI (show 134 < 1000000 by decide), rv_nI (show 135 < 1000000 by decide), rv_nI (show 136 < 1000000 by decide), rv_nI (show 137 < 1000000 by decide), rv_nI (show 138 < 1000000 by decide), rv_nI (show 139 < 1000000 by decide), rv_nI (show 140 < 1000000 by decide), rv_nI (show 141 < 1000000 by decide), rv_nI (show 142 < 1000000 by decide), rv_nI (show 143 < 1000000 by decide), rv_nI (show 144 < 1000000 by decide), rv_nI (show 145 < 1000000 by decide), rv_nI (show 146 < 1000000 by decide), rv_nI (show 147 < 1000000 by decide)]
set_option maxRecDepth 1000000 in
theorem cv_129 (an : An) (b : Nat) : CvP an b 129 := rfl
set_option maxRecDepth 1000000 in
theorem cv_130 (an : An) (b : Nat) : CvP an b 130 := rfl
set_option maxRecDepth 1000000 in
theorem cv_131 (an : An) (b : Nat) : CvP an b 131 := rfl
set_option maxRecDepth 1000000 in
theorem cv_132 (an : An) (b : Nat) : CvP an b 132 := rfl
set_option maxRecDepth 1000000 in
theorem cv_133 (an : An) (b : Nat) : CvP an b 133 := rfl
set_option maxRecDepth 1000000 in
theorem cv_134 (an : An) (b : Nat) : CvP an b 134 := rfl
set_option maxRecDepth 1000000 in
theorem cv_135 (an : An) (b : Nat) : CvP an b 135 := rfl
set_option maxRecDepth 1000000 in
theorem cv_136 (an : An) (b : Nat) : CvP an b 136 := rfl
set_option maxRecDepth 1000000 in
theorem cv_137 (an : An) (b : Nat) : CvP an b 137 := rfl
set_option maxRecDepth 1000000 in
theorem cv_138 (an : An) (b : Nat) : CvP an b 138 := rfl
set_option maxRecDepth 1000000 in
theorem cv_139 (an : An) (b : Nat) : CvP an b 139 := rfl
set_option maxRecDepth 1000000 in
theorem cv_140 (an : An) (b : Nat) : CvP an b 140 := rfl
set_option maxRecDepth 1000000 in
theorem cv_141 (an : An) (b : Nat) : CvP an b 141 := rfl
set_option maxRecDepth 1000000 in
theorem cv_142 (an : An) (b : Nat) : CvP an b 142 := rfl
set_option maxRecDepth 1000000 in
theorem cv_143 (an : An) (b : Nat) : CvP an b 143 := rfl
set_option maxRecDepth 1000000 in
theorem cv_144 (an : An) (b : Nat) : CvP an b 144 := rfl
set_option maxRecDepth 1000000 in
theorem cv_145 (an : An) (b : Nat) : CvP an b 145 := rfl
set_option maxRecDepth 1000000 in
theorem cv_146 (an : An) (b : Nat) : CvP an b 146 := rfl
set_option maxRecDepth 1000000 in
theorem cv_147 (an : An) (b : Nat) : CvP an b 147 := rfl
theorem cv_all (an : An) (b : Nat) : ∀ i, i < 148 → CvP an b i := by
  have h0 : ∀ i, i < 0 → CvP an b i := lt_0
  have h1 : ∀ i, i < 1 → CvP an b i := lt_s h0 (cv_0 an b)
  have h2 : ∀ i, i < 2 → CvP an b i := lt_s h1 (cv_1 an b)
  have h3 : ∀ i, i < 3 → CvP an b i := lt_s h2 (cv_2 an b)
  have h4 : ∀ i, i < 4 → CvP an b i := lt_s h3 (cv_3 an b)
  have h5 : ∀ i, i < 5 → CvP an b i := lt_s h4 (cv_4 an b)
  have h6 : ∀ i, i < 6 → CvP an b i := lt_s h5 (cv_5 an b)
  have h7 : ∀ i, i < 7 → CvP an b i := lt_s h6 (cv_6 an b)
  have h8 : ∀ i, i < 8 → CvP an b i := lt_s h7 (cv_7 an b)
  have h9 : ∀ i, i < 9 → CvP an b i := lt_s h8 (cv_8 an b)
  have h10 : ∀ i, i < 10 → CvP an b i := lt_s h9 (cv_9 an b)
  have h11 : ∀ i, i < 11 → CvP an b i := lt_s h10 (cv_10 an b)
  have h12 : ∀ i, i < 12 → CvP an b i := lt_s h11 (cv_11 an b)
  have h13 : ∀ i, i < 13 → CvP an b i := lt_s h12 (cv_12 an b)
  have h14 : ∀ i, i < 14 → CvP an b i := lt_s h13 (cv_13 an b)
  have h15 : ∀ i, i < 15 → CvP an b i := lt_s h14 (cv_14 an b)
  have h16 : ∀ i, i < 16 → CvP an b i := lt_s h15 (cv_15 an b)
  have h17 : ∀ i, i < 17 → CvP an b i := lt_s h16 (cv_16 an b)
  have h18 : ∀ i, i < 18 → CvP an b i := lt_s h17 (cv_17 an b)
  have h19 : ∀ i, i < 19 → CvP an b i := lt_s h18 (cv_18 an b)
  have h20 : ∀ i, i < 20 → CvP an b i := lt_s h19 (cv_19 an b)
  have h21 : ∀ i, i < 21 → CvP an b i := lt_s h20 (cv_20 an b)
  have h22 : ∀ i, i < 22 → CvP an b i := lt_s h21 (cv_21 an b)
  have h23 : ∀ i, i < 23 → CvP an b i := lt_s h22 (cv_22 an b)
  have h24 : ∀ i, i < 24 → CvP an b i := lt_s h23 (cv_23 an b)
  have h25 : ∀ i, i < 25 → CvP an b i := lt_s h24 (cv_24 an b)
  have h26 : ∀ i, i < 26 → CvP an b i := lt_s h25 (cv_25 an b)
  have h27 : ∀ i, i < 27 → CvP an b i := lt_s h26 (cv_26 an b)
  have h28 : ∀ i, i < 28 → CvP an b i := lt_s h27 (cv_27 an b)
  have h29 : ∀ i, i < 29 → CvP an b i := lt_s h28 (cv_28 an b)
  have h30 : ∀ i, i < 30 → CvP an b i := lt_s h29 (cv_29 an b)
  have h31 : ∀ i, i < 31 → CvP an b i := lt_s h30 (cv_30 an b)
  have h32 : ∀ i, i < 32 → CvP an b i := lt_s h31 (cv_31 an b)
  have h33 : ∀ i, i < 33 → CvP an b i := lt_s h32 (cv_32 an b)
  have h34 : ∀ i, i < 34 → CvP an b i := lt_s h33 (cv_33 an b)
  have h35 : ∀ i, i < 35 → CvP an b i := lt_s h34 (cv_34 an b)
  have h36 : ∀ i, i < 36 → CvP an b i := lt_s h35 (cv_35 an b)
  have h37 : ∀ i, i < 37 → CvP an b i := lt_s h36 (cv_36 an b)
  have h38 : ∀ i, i < 38 → CvP an b i := lt_s h37 (cv_37 an b)
  have h39 : ∀ i, i < 39 → CvP an b i := lt_s h38 (cv_38 an b)
  have h40 : ∀ i, i < 40 → CvP an b i := lt_s h39 (cv_39 an b)
  have h41 : ∀ i, i < 41 → CvP an b i := lt_s h40 (cv_40 an b)
  have h42 : ∀ i, i < 42 → CvP an b i := lt_s h41 (cv_41 an b)
  have h43 : ∀ i, i < 43 → CvP an b i := lt_s h42 (cv_42 an b)
  have h44 : ∀ i, i < 44 → CvP an b i := lt_s h43 (cv_43 an b)
  have h45 : ∀ i, i < 45 → CvP an b i := lt_s h44 (cv_44 an b)
  have h46 : ∀ i, i < 46 → CvP an b i := lt_s h45 (cv_45 an b)
  have h47 : ∀ i, i < 47 → CvP an b i := lt_s h46 (cv_46 an b)
  have h48 : ∀ i, i < 48 → CvP an b i := lt_s h47 (cv_47 an b)
  have h49 : ∀ i, i < 49 → CvP an b i := lt_s h48 (cv_48 an b)
  have h50 : ∀ i, i < 50 → CvP an b i := lt_s h49 (cv_49 an b)
  have h51 : ∀ i, i < 51 → CvP an b i := lt_s h50 (cv_50 an b)
  have h52 : ∀ i, i < 52 → CvP an b i := lt_s h51 (cv_51 an b)
  have h53 : ∀ i, i < 53 → CvP an b i := lt_s h52 (cv_52 an b)
  have h54 : ∀ i, i < 54 → CvP an b i := lt_s h53 (cv_53 an b)
  have h55 : ∀ i, i < 55 → CvP an b i := lt_s h54 (cv_54 an b)
  have h56 : ∀ i, i < 56 → CvP an b i := lt_s h55 (cv_55 an b)
  have h57 : ∀ i, i < 57 → CvP an b i := lt_s h56 (cv_56 an b)
  have h58 : ∀ i, i < 58 → CvP an b i := lt_s h57 (cv_57 an b)
  have h59 : ∀ i, i < 59 → CvP an b i := lt_s h58 (cv_58 an b)
  have h60 : ∀ i, i < 60 → CvP an b i := lt_s h59 (cv_59 an b)
  have h61 : ∀ i, i < 61 → CvP an b i := lt_s h60 (cv_60 an b)
  have h62 : ∀ i, i < 62 → CvP an b i := lt_s h61 (cv_61 an b)
  have h63 : ∀ i, i < 63 → CvP an b i := lt_s h62 (cv_62 an b)
  have h64 : ∀ i, i < 64 → CvP an b i := lt_s h63 (cv_63 an b)
  have h65 : ∀ i, i < 65 → CvP an b i := lt_s h64 (cv_64 an b)
  have h66 : ∀ i, i < 66 → CvP an b i := lt_s h65 (cv_65 an b)
  have h67 : ∀ i, i < 67 → CvP an b i := lt_s h66 (cv_66 an b)
  have h68 : ∀ i, i < 68 → CvP an b i := lt_s h67 (cv_67 an b)
  have h69 : ∀ i, i < 69 → CvP an b i := lt_s h68 (cv_68 an b)
  have h70 : ∀ i, i < 70 → CvP an b i := lt_s h69 (cv_69 an b)
  have h71 : ∀ i, i < 71 → CvP an b i := lt_s h70 (cv_70 an b)
  have h72 : ∀ i, i < 72 → CvP an b i := lt_s h71 (cv_71 an b)
  have h73 : ∀ i, i < 73 → CvP an b i := lt_s h72 (cv_72 an b)
  have h74 : ∀ i, i < 74 → CvP an b i := lt_s h73 (cv_73 an b)
  have h75 : ∀ i, i < 75 → CvP an b i := lt_s h74 (cv_74 an b)
  have h76 : ∀ i, i < 76 → CvP an b i := lt_s h75 (cv_75 an b)
  have h77 : ∀ i, i < 77 → CvP an b i := lt_s h76 (cv_76 an b)
  have h78 : ∀ i, i < 78 → CvP an b i := lt_s h77 (cv_77 an b)
  have h79 : ∀ i, i < 79 → CvP an b i := lt_s h78 (cv_78 an b)
  have h80 : ∀ i, i < 80 → CvP an b i := lt_s h79 (cv_79 an b)
  have h81 : ∀ i, i < 81 → CvP an b i := lt_s h80 (cv_80 an b)
  have h82 : ∀ i, i < 82 → CvP an b i := lt_s h81 (cv_81 an b)
  have h83 : ∀ i, i < 83 → CvP an b i := lt_s h82 (cv_82 an b)
  have h84 : ∀ i, i < 84 → CvP an b i := lt_s h83 (cv_83 an b)
  have h85 : ∀ i, i < 85 → CvP an b i := lt_s h84 (cv_84 an b)
  have h86 : ∀ i, i < 86 → CvP an b i := lt_s h85 (cv_85 an b)
  have h87 : ∀ i, i < 87 → CvP an b i := lt_s h86 (cv_86 an b)
  have h88 : ∀ i, i < 88 → CvP an b i := lt_s h87 (cv_87 an b)
  have h89 : ∀ i, i < 89 → CvP an b i := lt_s h88 (cv_88 an b)
  have h90 : ∀ i, i < 90 → CvP an b i := lt_s h89 (cv_89 an b)
  have h91 : ∀ i, i < 91 → CvP an b i := lt_s h90 (cv_90 an b)
  have h92 : ∀ i, i < 92 → CvP an b i := lt_s h91 (cv_91 an b)
  have h93 : ∀ i, i < 93 → CvP an b i := lt_s h92 (cv_92 an b)
  have h94 : ∀ i, i < 94 → CvP an b i := lt_s h93 (cv_93 an b)
  have h95 : ∀ i, i < 95 → CvP an b i := lt_s h94 (cv_94 an b)
  have h96 : ∀ i, i < 96 → CvP an b i := lt_s h95 (cv_95 an b)
  have h97 : ∀ i, i < 97 → CvP an b i := lt_s h96 (cv_96 an b)
  have h98 : ∀ i, i < 98 → CvP an b i := lt_s h97 (cv_97 an b)
  have h99 : ∀ i, i < 99 → CvP an b i := lt_s h98 (cv_98 an b)
  have h100 : ∀ i, i < 100 → CvP an b i := lt_s h99 (cv_99 an b)
  have h101 : ∀ i, i < 101 → CvP an b i := lt_s h100 (cv_100 an b)
  have h102 : ∀ i, i < 102 → CvP an b i := lt_s h101 (cv_101 an b)
  have h103 : ∀ i, i < 103 → CvP an b i := lt_s h102 (cv_102 an b)
  have h104 : ∀ i, i < 104 → CvP an b i := lt_s h103 (cv_103 an b)
  have h105 : ∀ i, i < 105 → CvP an b i := lt_s h104 (cv_104 an b)
  have h106 : ∀ i, i < 106 → CvP an b i := lt_s h105 (cv_105 an b)
  have h107 : ∀ i, i < 107 → CvP an b i := lt_s h106 (cv_106 an b)
  have h108 : ∀ i, i < 108 → CvP an b i := lt_s h107 (cv_107 an b)
  have h109 : ∀ i, i < 109 → CvP an b i := lt_s h108 (cv_108 an b)
  have h110 : ∀ i, i < 110 → CvP an b i := lt_s h109 (cv_109 an b)
  have h111 : ∀ i, i < 111 → CvP an b i := lt_s h110 (cv_110 an b)
  have h112 : ∀ i, i < 112 → CvP an b i := lt_s h111 (cv_111 an b)
  have h113 : ∀ i, i < 113 → CvP an b i := lt_s h112 (cv_112 an b)
  have h114 : ∀ i, i < 114 → CvP an b i := lt_s h113 (cv_113 an b)
  have h115 : ∀ i, i < 115 → CvP an b i := lt_s h114 (cv_114 an b)
  have h116 : ∀ i, i < 116 → CvP an b i := lt_s h115 (cv_115 an b)
  have h117 : ∀ i, i < 117 → CvP an b i := lt_s h116 (cv_116 an b)
  have h118 : ∀ i, i < 118 → CvP an b i := lt_s h117 (cv_117 an b)
  have h119 : ∀ i, i < 119 → CvP an b i := lt_s h118 (cv_118 an b)
  have h120 : ∀ i, i < 120 → CvP an b i := lt_s h119 (cv_119 an b)
  have h121 : ∀ i, i < 121 → CvP an b i := lt_s h120 (cv_120 an b)
  have h122 : ∀ i, i < 122 → CvP an b i := lt_s h121 (cv_121 an b)
  have h123 : ∀ i, i < 123 → CvP an b i := lt_s h122 (cv_122 an b)
  have h124 : ∀ i, i < 124 → CvP an b i := lt_s h123 (cv_123 an b)
  have h125 : ∀ i, i < 125 → CvP an b i := lt_s h124 (cv_124 an b)
  have h126 : ∀ i, i < 126 → CvP an b i := lt_s h125 (cv_125 an b)
  have h127 : ∀ i, i < 127 → CvP an b i := lt_s h126 (cv_126 an b)
  have h128 : ∀ i, i < 128 → CvP an b i := lt_s h127 (cv_127 an b)
  have h129 : ∀ i, i < 129 → CvP an b i := lt_s h128 (cv_128 an b)
  have h130 : ∀ i, i < 130 → CvP an b i := lt_s h129 (cv_129 an b)
  have h131 : ∀ i, i < 131 → CvP an b i := lt_s h130 (cv_130 an b)
  have h132 : ∀ i, i < 132 → CvP an b i := lt_s h131 (cv_131 an b)
  have h133 : ∀ i, i < 133 → CvP an b i := lt_s h132 (cv_132 an b)
  have h134 : ∀ i, i < 134 → CvP an b i := lt_s h133 (cv_133 an b)
  have h135 : ∀ i, i < 135 → CvP an b i := lt_s h134 (cv_134 an b)
  have h136 : ∀ i, i < 136 → CvP an b i := lt_s h135 (cv_135 an b)
  have h137 : ∀ i, i < 137 → CvP an b i := lt_s h136 (cv_136 an b)
  have h138 : ∀ i, i < 138 → CvP an b i := lt_s h137 (cv_137 an b)
  have h139 : ∀ i, i < 139 → CvP an b i := lt_s h138 (cv_138 an b)
  have h140 : ∀ i, i < 140 → CvP an b i := lt_s h139 (cv_139 an b)
  have h141 : ∀ i, i < 141 → CvP an b i := lt_s h140 (cv_140 an b)
  have h142 : ∀ i, i < 142 → CvP an b i := lt_s h141 (cv_141 an b)
  have h143 : ∀ i, i < 143 → CvP an b i := lt_s h142 (cv_142 an b)
  have h144 : ∀ i, i < 144 → CvP an b i := lt_s h143 (cv_143 an b)
  have h145 : ∀ i, i < 145 → CvP an b i := lt_s h144 (cv_144 an b)
  have h146 : ∀ i, i < 146 → CvP an b i := lt_s h145 (cv_145 an b)
  have h147 : ∀ i, i < 147 → CvP an b i := lt_s h146 (cv_146 an b)
  have h148 : ∀ i, i < 148 → CvP an b i := lt_s h147 (cv_147 an b)
  exact h148
theorem wld_ext {an : An} {b : Nat} {KD1 KD2 : Kd} {M1 M2 : Mm} (h : ∀ i : Nat, (KD1[i]?).map (fun k => (b + i, cel an b k i (M1 i))) = (KD2[i]?).map (fun k => (b + i, cel an b k i (M2 i)))) : wld an b KD1 M1 = wld an b KD2 M2 := by
  apply List.ext_getElem?
  intro i
  unfold wld
  rw [List.getElem?_mapIdx, List.getElem?_mapIdx]
  exact h i
theorem opt_none {α β : Type} {f g : α → β} {x y : Option α} (h1 : x = none) (h2 : y = none) : x.map f = y.map g := by rw [h1, h2]; rfl
theorem wld_conv (an : An) (b : Nat) : wld an b KDR MR2 = wld an b KDF Mz := wld_ext (fun i => if hi : i < 148 then cv_all an b i hi else opt_none (KDR_at i hi).1 (KDR_at i hi).2)
theorem KDR_ss : ssum KDR = ssum KDF := by decide +kernel
theorem WX_conv {p : Program} {l : Launch} {e : Env} {R : Room} {s : State} {m : MethodId} {args : Array Value} {below : List Frame} {meth : Method} {c : Code} {D : va_G} {an : An} {b n0 s0 nL pc : Nat} {lv : List (Nat × Value)} {st : List Value} {Q : State → Prop} (h : WX (p, l, e, R, s, m, args, below, meth, c, D, an, b, n0, s0, 0) nL pc lv st KDF Mz Q) : WX (p, l, e, R, s, m, args, below, meth, c, D, an, b, n0, s0, 1) nL pc lv st KDR MR2 Q := by
  intro ls H locs cs sl hl hP hz hS hc hs
  rw [wld_conv] at hP
  exact h ls H locs cs sl hl hP (fun h => by cases h) hS (by rw [hc, KDR_len, KDF_len]) (by rw [hs, KDR_ss])
set_option maxRecDepth 100000 in
set_option maxHeartbeats 40000000 in
theorem start_W {x : Cxt} (X : Ok x cL_law 4 RL (some .boolean)) (hR : Rm x 30 KDF) (hN : Nst x) (Z1 : xz x = 1) {bs : Nat} {Q : State → Prop} (k : WX x 4 16 [(2, .ref (xb x + 128)), (1, .ref (xb x + 0)), (0, .ref bs)] [] KDR MR2 Q) : WX x 4 0 [(0, .ref bs)] [] [] (fun _ _ => 0) Q := by
  refine (rn_11 X Z1 hR mw_78 (by decide +kernel) dL_law_0 : StpZ x 4 0 _ _ _ _ 3 _ (.ref (xb x + 0) :: []) [(26, 0)] (stA (fun _ _ => 0) 0 f0_11)) _ ?_
  refine (w_dup X dL_law_3 rfl : StpZ x 4 3 _ _ _ _ 4 _ _ _ _) _ ?_
  refine (w_callI (st := []) (KD := [(26, 0)]) (KD' := [(26, 0)] ++ KE11) (As := []) (rest := [.ref (xb x + 0)]) X hR hN (CtX1 Z1 (c_X11_init (n := 1) (o0 := 0) rfl rfl (by decide))) (by decide +kernel) (by decide +kernel) mw_80 mw_81 mw_61 mw_82 (n := 0) (by decide +kernel) rfl rfl (by decide) (by decide) (Nat.le_of_ble_eq_true rfl) dL_law_4 : StpZ x 4 4 _ _ _ _ 7 _ [.ref (xb x + 0)] ([(26, 0)] ++ KE11) MR1) _ ?_
  refine (w_astore_n (lv' := [(1, .ref (xb x + 0)), (0, .ref bs)]) X dL_law_7 rfl (by decide) rfl : StpZ x 4 7 _ _ _ _ 8 _ _ _ _) _ ?_
  refine (st_cast (q := 128) (KD2 := ([(26, 0)] ++ KE11) ++ [(27, 0)]) (rn_12 X Z1 hR mw_923 (by decide +kernel) dL_law_8) (by decide +kernel) rfl : StpZ x 4 8 _ _ _ _ 11 _ (.ref (xb x + 128) :: []) _ (stA MR1 128 f0_12)) _ ?_
  refine (w_dup X dL_law_11 rfl : StpZ x 4 11 _ _ _ _ 12 _ _ _ _) _ ?_
  refine (w_callI (st := []) (KD := ([(26, 0)] ++ KE11) ++ [(27, 0)]) (KD' := KDR) (As := []) (rest := [.ref (xb x + 128)]) X hR hN (CtX1 Z1 (c_X12_init (n := 129) (o0 := 128) (by decide +kernel) (by decide +kernel) (by decide))) (by decide +kernel) (by decide +kernel) mw_925 mw_926 mw_72 mw_927 (n := 0) (by decide +kernel) rfl rfl (by decide) (by decide) (Nat.le_of_ble_eq_true rfl) dL_law_12 : StpZ x 4 12 _ _ _ _ 15 _ [.ref (xb x + 128)] KDR MR2) _ ?_
  refine (w_astore_n (lv' := [(2, .ref (xb x + 128)), (1, .ref (xb x + 0)), (0, .ref bs)]) X dL_law_15 rfl (by decide) rfl : StpZ x 4 15 _ _ _ _ 16 _ _ _ _) _ ?_
  exact k
set_option maxRecDepth 100000 in
set_option maxHeartbeats 40000000 in
theorem whole_of {p : Program} {e : Env} {s : State} {m : MethodId} {below : List Frame} {meth : Method} {c : Code} (l : Launch) {b L : Nat} {xs : Nat → Int32} (hm : ∃ v, f_law L xs Mz = some v) (C0 : lw_At p s m meth c b L xs) : W p l e room_1 s m #[Value.ref b] below meth c s.heap [] 0 0 (lw_Z below #[Value.ref b] s) (entryFrame m ([Value.ref b] : List Value).toArray 4) := by
  obtain ⟨hx, hb, hr, hml, hown, hts, hX, hbl, hlocks, hgv⟩ := id C0
  obtain ⟨c0, iS0, hKn0⟩ := u_known (C := RX0) (T := TX0) (N := 3) (n := 3) hts inX0 (hts (.instantiable "BellSuitors$Change" 3) (tbG_of mw_93))
  obtain ⟨c1, iS1, hKn1⟩ := u_known (C := RX1) (T := TX1) (N := 6) (n := 6) hts inX1 (hts (.instantiable "BellSuitors$Evening" 6) (tbG_of mw_182))
  obtain ⟨c2, iS2, hKn2⟩ := u_known (C := RX2) (T := TX2) (N := 5) (n := 5) hts inX2 (hts (.instantiable "BellSuitors$Notebook" 5) (tbG_of mw_299))
  obtain ⟨c3, iS3, hKn3⟩ := u_known (C := RX3) (T := TX3) (N := 3) (n := 3) hts inX3 (hts (.instantiable "BellSuitors$Past" 3) (tbG_of mw_231))
  obtain ⟨c4, iS4, hKn4⟩ := u_known (C := RX4) (T := TX4) (N := 2) (n := 2) hts inX4 (hts (.instantiable "BellSuitors$RopeSharing" 2) (tbG_of mw_282))
  obtain ⟨c6, iS6, hKn6⟩ := u_known (C := RX6) (T := TX6) (N := 1) (n := 1) hts inX6 (hts (.instantiable "BellSuitors$Seen" 1) (tbG_of mw_251))
  obtain ⟨c7, iS7, hKn7⟩ := u_known (C := RX7) (T := TX7) (N := 6) (n := 6) hts inX7 (hts (.instantiable "BellSuitors$Text" 6) (tbG_of mw_155))
  obtain ⟨c8, iS8, hKn8⟩ := u_known (C := RX8) (T := TX8) (N := 4) (n := 4) hts inX8 (hts (.instantiable "BellSuitors$Touches" 4) (tbG_of mw_261))
  obtain ⟨c9, iS9, hKn9⟩ := u_known (C := RX9) (T := TX9) (N := 8) (n := 8) hts inX9 (hts (.instantiable "BellSuitors$Tower" 8) (tbG_of mw_87))
  obtain ⟨c10, iS10, hKn10⟩ := u_known (C := RX10) (T := TX10) (N := 3) (n := 3) hts inX10 (hts (.instantiable "BellSuitors$Walk" 3) (tbG_of mw_188))
  obtain ⟨c11, iS11, hKn11⟩ := u_known (C := RX11) (T := TX11) (N := 16) (n := 16) hts inX11 (hts (.instantiable "BellSuitors" 16) (tbG_of mw_79))
  obtain ⟨c12, iS12, hKn12⟩ := u_known (C := RX12) (T := TX12) (N := 40) (n := 40) hts inX12 (hts (.instantiable "BellSuitorsModel" 40) (tbG_of mw_924))
  obtain ⟨dC, dI, hKc⟩ : ∃ (dC : Nat → ClassId) (dI : Nat → Nat → Nat), ∀ (k : Nat) (q : vw_C), clsL[k]? = some q → u_Kn s q.1 q.2.1 q.2.2 (dC k) (dI k) := by
    refine ⟨fun k => if k = 0 then c0 else if k = 1 then c1 else if k = 2 then c2 else if k = 3 then c3 else if k = 4 then c4 else if k = 5 then c0 else if k = 6 then c6 else if k = 7 then c7 else if k = 8 then c8 else if k = 9 then c9 else if k = 10 then c10 else if k = 11 then c11 else if k = 12 then c12 else 0, fun k => if k = 0 then iS0 else if k = 1 then iS1 else if k = 2 then iS2 else if k = 3 then iS3 else if k = 4 then iS4 else if k = 5 then iS0 else if k = 6 then iS6 else if k = 7 then iS7 else if k = 8 then iS8 else if k = 9 then iS9 else if k = 10 then iS10 else if k = 11 then iS11 else if k = 12 then iS12 else fun _ => 0, ?_⟩
    intro k q hq
    match k, hq with
    | 0, hq => cases hq; exact hKn0
    | 1, hq => cases hq; exact hKn1
    | 2, hq => cases hq; exact hKn2
    | 3, hq => cases hq; exact hKn3
    | 4, hq => cases hq; exact hKn4
    | 5, hq => cases hq; exact hKn0
    | 6, hq => cases hq; exact hKn6
    | 7, hq => cases hq; exact hKn7
    | 8, hq => cases hq; exact hKn8
    | 9, hq => cases hq; exact hKn9
    | 10, hq => cases hq; exact hKn10
    | 11, hq => cases hq; exact hKn11
    | 12, hq => cases hq; exact hKn12
    | k + 13, hq => simp [clsL] at hq
  obtain ⟨cI, kI, compI, i1, i2, i3⟩ := Cond.arrayClass_spec (hts (.arrayClass .int) (tbG_of mw_153))
  obtain ⟨cZ, kZ, compZ, z1, z2, z3⟩ := Cond.arrayClass_spec (hts (.arrayClass .boolean) (tbG_of mw_1050))
  have aoC : va_AO "BellSuitors$Change" s := va_AO.of (hts (.arrayOver (.object "BellSuitors$Change")) (by decide +kernel))
  have aoE : va_AO "BellSuitors$Evening" s := va_AO.of (hts (.arrayOver (.object "BellSuitors$Evening")) (by decide +kernel))
  obtain ⟨compC, cC, kC, g1, -, g3, g4, g5⟩ := Cond.arrayOver_spec aoC
  obtain ⟨compE, cE, kE, h1, -, h3, h4, h5⟩ := Cond.arrayOver_spec aoE
  have hK : va_K (dC, dI) clsL (tyL (cI, cZ, cC, cE)) s := by
    refine ⟨hKc, fun k q hq => ?_⟩
    match k, hq with
    | 0, hq => cases hq; exact ⟨fun n z => ⟨(fun k h => by cases h), kI, i2, compI, i3⟩, i1⟩
    | 1, hq => cases hq; exact ⟨fun n z => ⟨(fun k h => by cases h), kZ, z2, compZ, z3⟩, z1⟩
    | 2, hq => cases hq; exact ⟨fun n z => ⟨(fun k h => by cases h), kC, g3, compC, g4⟩, kC, compC, g3, g4, g1, g5⟩
    | 3, hq => cases hq; exact ⟨fun n z => ⟨(fun k h => by cases h), kE, h3, compE, h4⟩, kE, compE, h3, h4, h1, h5⟩
    | k + 4, hq => simp at hq
  have hNx : Nx s := ⟨fun w hw => va_Nw.of (tbN_on w hw) (hts w (tbN_in w hw)), aoC, aoE⟩
  have hok : ∀ zf, Ok (p, l, e, room_1, s, m, #[Value.ref b], below, meth, c, (dC, dI), (cI, cZ, cC, cE), s.heap.size, 0, 0, zf) cL_law 4 RL (some .boolean) := fun zf => ⟨hx, hb, hml, hown, fun w hw => hts w (tbG_of hw), hK, hlocks, hr, Nat.le_refl _⟩
  have hRm : ∀ zf, Rm (p, l, e, room_1, s, m, #[Value.ref b], below, meth, c, (dC, dI), (cI, cZ, cC, cE), s.heap.size, 0, 0, zf) 30 KDF := fun zf => ⟨by decide, by decide, by decide +kernel, by decide +kernel⟩
  obtain ⟨v, hv⟩ := hm
  have G := law_G (x := (p, l, e, room_1, s, m, #[Value.ref b], below, meth, c, (dC, dI), (cI, cZ, cC, cE), s.heap.size, 0, 0, 0)) (hok 0) (hRm 0) hNx rfl (bs := b) (L := L) (xs := xs) ⟨hX, hbl, Nat.not_le.mpr hbl⟩ ⟨⟨rfl, rfl, rfl⟩, rfl, rfl⟩ v hv _ rfl
  have S := start_W (x := (p, l, e, room_1, s, m, #[Value.ref b], below, meth, c, (dC, dI), (cI, cZ, cC, cE), s.heap.size, 0, 0, 1)) (hok 1) (hRm 1) hNx rfl (bs := b) (WX_conv G)
  have hl := lv_entry ([.ref b]) (n := 4) (Nat.le_of_ble_eq_true rfl)
  rw [lg_entry_eq]
  exact S _ s.heap [] 0 0 hl (fun k q h => by simp [wld] at h) (fun _ => rfl) va_S.rf rfl rfl
