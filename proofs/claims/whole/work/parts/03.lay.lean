abbrev Mm : Type := Nat → Nat → Int32
abbrev Kd : Type := List (Nat × Nat)
abbrev An : Type := ClassId × ClassId × ClassId × ClassId
def rv (b : Nat) (x : Int32) : Value := if x < 0 then .null else .ref (b + x.toNatClampNeg)
def ro (b : Nat) (x : Int32) : Option Nat := if x < 0 then none else some (b + x.toNatClampNeg)
def cel (an : An) (b : Nat) (k : Nat × Nat) (o : Nat) (f : Nat → Int32) : va_E := match k.1 with
  | 0 => .inr (0, [.int (f 0), .int (f 1), .int (f 2)])
  | 1 => .inr (1, [.ref (b + (o + 1)), .int (f 1), .int (f 2), .int (f 3), .ref (b + (o + 2)), .ref (b + (o + 3))])
  | 2 => .inr (2, [.int (f 0), .int (f 1), .int (f 2), .ref (b + 118), .ref (b + 119)])
  | 3 => .inr (3, [.int (f 0), .int (f 1), .ref (b + 42)])
  | 4 => .inr (4, [.ref (b + 113), .ref (b + 114)])
  | 5 => .inr (5, [])
  | 6 => .inr (6, [.ref (b + 110)])
  | 7 => .inr (7, [.int (f 0), .int (f 1), .ref (b + 36), .int (f 3), .int (f 4), .int (f 5)])
  | 8 => .inr (8, [.int (f 0), .int (f 1), .int (f 2), .int (f 3)])
  | 9 => .inr (9, [.int (f 0), .int (f 1), .int (f 2), .int (f 3), .ref (b + (o + 1)), .ref (b + (o + 2)), .ref (b + (o + 3)), .ref (b + (o + 4))])
  | 10 => .inr (10, [.int (f 0), .int (f 1), .int (f 2)])
  | 11 => .inr (11, [.ref (b + (f 0).toNatClampNeg), .ref (b + (f 1).toNatClampNeg), .ref (b + 35), .ref (b + 37), .ref (b + 41), .ref (b + 107), .ref (b + 108), .int (f 7), .ref (b + 109), .ref (b + 111), .ref (b + 112), .ref (b + 115), .ref (b + 116), .ref (b + 117), .int (f 14), .int (f 15)])
  | 12 => .inr (12, [.int (f 0), .ref (b + 129), .int (f 2), .int (f 3), .int (f 4), .int (f 5), .int (f 6), .int (f 7), .int (f 8), .int (f 9), .int (f 10), .int (f 11), .int (f 12), .ref (b + 130), .ref (b + 131), .ref (b + 132), .int (f 16), .int (f 17), .int (f 18), .int (f 19), .ref (b + 133), .ref (b + 134), .ref (b + 135), .ref (b + 136), .ref (b + 137), .ref (b + 138), .int (f 26), .ref (b + 139), .ref (b + 140), .ref (b + 141), .int (f 30), .int (f 31), .ref (b + 142), .int (f 33), .ref (b + 143), .ref (b + 144), .int (f 36), .ref (b + 145), .ref (b + 146), .ref (b + 147)])
  | 13 => .inl (an.1, k.2, .inl f)
  | 14 => .inl (an.2.1, k.2, .inl f)
  | 15 => .inl (an.2.2.1, k.2, .inr (.inr (.inr (.inr (fun i => if i < k.2 then some (b + (o + 3 + i)) else none)))))
  | 16 => .inl (an.2.2.2, k.2, .inr (.inr (.inr (.inr (fun i => if i < k.2 then some (b + (o + 1 + 4 * i)) else none)))))
  | 17 => .inl (an.2.2.2, k.2, .inr (.inr (.inr (.inr (fun i => if i < k.2 then some (b + (120 + 4 * i)) else none)))))
  | 18 => .inr (1, [rv b (f 0), .int (f 1), .int (f 2), .int (f 3), rv b (f 4), rv b (f 5)])
  | 19 => .inr (2, [.int (f 0), .int (f 1), .int (f 2), rv b (f 3), rv b (f 4)])
  | 20 => .inr (3, [.int (f 0), .int (f 1), rv b (f 2)])
  | 21 => .inr (4, [rv b (f 0), rv b (f 1)])
  | 22 => .inr (6, [rv b (f 0)])
  | 23 => .inr (7, [.int (f 0), .int (f 1), rv b (f 2), .int (f 3), .int (f 4), .int (f 5)])
  | 24 => .inr (8, [.int (f 0), .int (f 1), .int (f 2), .int (f 3)])
  | 25 => .inr (9, [.int (f 0), .int (f 1), .int (f 2), .int (f 3), rv b (f 4), rv b (f 5), rv b (f 6), rv b (f 7)])
  | 26 => .inr (11, [rv b (f 0), rv b (f 1), rv b (f 2), rv b (f 3), rv b (f 4), rv b (f 5), rv b (f 6), .int (f 7), rv b (f 8), rv b (f 9), rv b (f 10), rv b (f 11), rv b (f 12), rv b (f 13), .int (f 14), .int (f 15)])
  | 27 => .inr (12, [.int (f 0), rv b (f 1), .int (f 2), .int (f 3), .int (f 4), .int (f 5), .int (f 6), .int (f 7), .int (f 8), .int (f 9), .int (f 10), .int (f 11), .int (f 12), rv b (f 13), rv b (f 14), rv b (f 15), .int (f 16), .int (f 17), .int (f 18), .int (f 19), rv b (f 20), rv b (f 21), rv b (f 22), rv b (f 23), rv b (f 24), rv b (f 25), .int (f 26), rv b (f 27), rv b (f 28), rv b (f 29), .int (f 30), .int (f 31), rv b (f 32), .int (f 33), rv b (f 34), rv b (f 35), .int (f 36), rv b (f 37), rv b (f 38), rv b (f 39)])
  | 28 => .inl (an.2.2.1, k.2, .inr (.inr (.inr (.inr (fun i => ro b (f i))))))
  | 29 => .inl (an.2.2.2, k.2, .inr (.inr (.inr (.inr (fun i => ro b (f i))))))
  | _ => .inr (0, [])
def ksz (k : Nat × Nat) : Nat := match k.1 with
  | 0 => 3
  | 1 => 6
  | 18 => 6
  | 2 => 5
  | 19 => 5
  | 3 => 3
  | 20 => 3
  | 4 => 2
  | 21 => 2
  | 5 => 0
  | 6 => 1
  | 22 => 1
  | 7 => 6
  | 23 => 6
  | 8 => 4
  | 24 => 4
  | 9 => 8
  | 25 => 8
  | 10 => 3
  | 11 => 16
  | 26 => 16
  | 12 => 40
  | 27 => 40
  | _ => k.2
def KDF : Kd := [(11, 0), (9, 0), (0, 0), (15, 12), (13, 6), (13, 6), (0, 0), (0, 0), (0, 0), (0, 0), (0, 0), (0, 0), (0, 0), (0, 0), (0, 0), (0, 0), (0, 0), (0, 0), (9, 0), (0, 0), (15, 12), (13, 6), (13, 6), (0, 0), (0, 0), (0, 0), (0, 0), (0, 0), (0, 0), (0, 0), (0, 0), (0, 0), (0, 0), (0, 0), (0, 0), (7, 0), (13, 240), (1, 0), (10, 0), (13, 6), (13, 6), (3, 0), (16, 16), (1, 0), (10, 0), (13, 6), (13, 6), (1, 0), (10, 0), (13, 6), (13, 6), (1, 0), (10, 0), (13, 6), (13, 6), (1, 0), (10, 0), (13, 6), (13, 6), (1, 0), (10, 0), (13, 6), (13, 6), (1, 0), (10, 0), (13, 6), (13, 6), (1, 0), (10, 0), (13, 6), (13, 6), (1, 0), (10, 0), (13, 6), (13, 6), (1, 0), (10, 0), (13, 6), (13, 6), (1, 0), (10, 0), (13, 6), (13, 6), (1, 0), (10, 0), (13, 6), (13, 6), (1, 0), (10, 0), (13, 6), (13, 6), (1, 0), (10, 0), (13, 6), (13, 6), (1, 0), (10, 0), (13, 6), (13, 6), (1, 0), (10, 0), (13, 6), (13, 6), (1, 0), (10, 0), (13, 6), (13, 6), (17, 2), (13, 2), (6, 0), (13, 1024), (8, 0), (4, 0), (13, 64), (13, 6), (10, 0), (0, 0), (2, 0), (13, 15), (13, 15), (1, 0), (10, 0), (13, 6), (13, 6), (1, 0), (10, 0), (13, 6), (13, 6), (12, 0), (13, 240), (13, 6), (13, 12), (13, 6), (13, 6), (13, 12), (13, 6), (13, 23), (13, 23), (13, 368), (13, 46), (13, 2), (14, 2), (13, 12), (13, 30), (13, 1001), (13, 6), (13, 6), (13, 6)]
theorem KDF_len : KDF.length = 148 := by decide +kernel
theorem KDF_lt {o : Nat} {k : Nat × Nat} (h : KDF[o]? = some k) : o < 148 := KDF_len ▸ (List.getElem?_eq_some_iff.mp h).1
theorem kd_Ev0 : ∀ o, o < 148 → KDF[o]? = some (1, 0) → KDF[o + 1]? = some (10, 0) ∧ KDF[o + 2]? = some (13, 6) ∧ KDF[o + 3]? = some (13, 6) := by decide +kernel
theorem kd_Ev1 {o : Nat} (h : KDF[o]? = some (1, 0)) : KDF[o + 1]? = some (10, 0) := (kd_Ev0 o (KDF_lt h) h).1
theorem kd_Ev2 {o : Nat} (h : KDF[o]? = some (1, 0)) : KDF[o + 2]? = some (13, 6) := (kd_Ev0 o (KDF_lt h) h).2.1
theorem kd_Ev3 {o : Nat} (h : KDF[o]? = some (1, 0)) : KDF[o + 3]? = some (13, 6) := (kd_Ev0 o (KDF_lt h) h).2.2
theorem kd_To0 : ∀ o, o < 148 → KDF[o]? = some (9, 0) → KDF[o + 1]? = some (0, 0) ∧ KDF[o + 2]? = some (15, 12) ∧ KDF[o + 3]? = some (13, 6) ∧ KDF[o + 4]? = some (13, 6) := by decide +kernel
theorem kd_To1 {o : Nat} (h : KDF[o]? = some (9, 0)) : KDF[o + 1]? = some (0, 0) := (kd_To0 o (KDF_lt h) h).1
theorem kd_To2 {o : Nat} (h : KDF[o]? = some (9, 0)) : KDF[o + 2]? = some (15, 12) := (kd_To0 o (KDF_lt h) h).2.1
theorem kd_To3 {o : Nat} (h : KDF[o]? = some (9, 0)) : KDF[o + 3]? = some (13, 6) := (kd_To0 o (KDF_lt h) h).2.2.1
theorem kd_To4 {o : Nat} (h : KDF[o]? = some (9, 0)) : KDF[o + 4]? = some (13, 6) := (kd_To0 o (KDF_lt h) h).2.2.2
def tbN : List Cond := [Cond.methodLinkNest "BellSuitors$Tower" 11 ⟨"BellSuitors$Change", "<init>", "()V"⟩ "BellSuitors", Cond.methodLinkNest "BellSuitors" 21 ⟨"BellSuitors$Text", "<init>", "()V"⟩ "BellSuitors", Cond.methodLinkNest "BellSuitors" 28 ⟨"BellSuitors$Evening", "<init>", "()V"⟩ "BellSuitors", Cond.methodLinkNest "BellSuitors$Evening" 11 ⟨"BellSuitors$Walk", "<init>", "()V"⟩ "BellSuitors", Cond.methodLinkNest "BellSuitors$Past" 15 ⟨"BellSuitors$Evening", "<init>", "()V"⟩ "BellSuitors", Cond.methodLinkNest "BellSuitors" 54 ⟨"BellSuitors$Seen", "<init>", "()V"⟩ "BellSuitors", Cond.methodLinkNest "BellSuitors" 61 ⟨"BellSuitors$Touches", "<init>", "()V"⟩ "BellSuitors", Cond.methodLinkNest "BellSuitors" 68 ⟨"BellSuitors$RopeSharing", "<init>", "()V"⟩ "BellSuitors", Cond.methodLinkNest "BellSuitors" 75 ⟨"BellSuitors$Walk", "<init>", "()V"⟩ "BellSuitors", Cond.methodLinkNest "BellSuitors" 82 ⟨"BellSuitors$Change", "<init>", "()V"⟩ "BellSuitors", Cond.methodLinkNest "BellSuitors" 89 ⟨"BellSuitors$Notebook", "<init>", "()V"⟩ "BellSuitors"]
theorem tbN_in : ∀ w ∈ tbN, w ∈ lw_tbl := by decide +kernel
theorem tbN_on : ∀ w ∈ tbN, w.onTables = true := by decide +kernel
def Nx (U : State) : Prop := (∀ w ∈ tbN, va_Nw w U) ∧ va_AO "BellSuitors$Change" U ∧ va_AO "BellSuitors$Evening" U
theorem Nx_same {s U : State} (e : s.vm = U.vm) (ha : s.vm.Alike U.vm) (h : Nx s) : Nx U := ⟨fun w hw => va_Nw.same (tbN_on w hw) e (h.1 w hw), h.2.1.moved ha, h.2.2.moved ha⟩
theorem Nx_warm {s U : State} (hW : s.WarmedH U.vm) (h : Nx s) : Nx U := by
  refine ⟨?_, h.2.1.moved hW.alike, h.2.2.moved hW.alike⟩
  intro w hw
  have h1 := h.1 w hw
  simp only [tbN, List.mem_cons, List.not_mem_nil, or_false] at hw
  rcases hw with rfl | rfl | rfl | rfl | rfl | rfl | rfl | rfl | rfl | rfl | rfl
  · exact va_Nw.warmM hW h1
  · exact va_Nw.warmM hW h1
  · exact va_Nw.warmM hW h1
  · exact va_Nw.warmM hW h1
  · exact va_Nw.warmM hW h1
  · exact va_Nw.warmM hW h1
  · exact va_Nw.warmM hW h1
  · exact va_Nw.warmM hW h1
  · exact va_Nw.warmM hW h1
  · exact va_Nw.warmM hW h1
  · exact va_Nw.warmM hW h1
