def HrcT (rc : Nat → Nat → Nat → Int32 → Int32 → Int32 → Mm → Option Mm) (dg : Nat) : Prop := ∀ (l : Launch) (D : va_G) (an : An) (b : Nat) (o0 o1 o2 : Nat) (x3 x4 x5 : Int32) (M M' : Mm), KDF[o0]? = some (8, 0) → KDF[o1]? = some (9, 0) → KDF[o2]? = some (6, 0) → rc o0 o1 o2 x3 x4 x5 M = some M' → Ct l D an b 0 yX8_goOn cX8_goOn 9 none dg [.ref (b + o0), .ref (b + o1), .ref (b + o2), .int x3, .int x4, .int x5] KDF M none KDF M'
theorem k0_X8_goOn {x : Cxt} {cc : ByteArray} {nL : Nat} {own : String} {ret : Option FieldType} (X : Ok x cc nL own ret) {d : Nat} (hR : Rm x d KDF) (hN : Nst x) (Z : xz x = 0) {pc : Nat} {lv : List (Nat × Value)} {rest : List Value} {M : Mm} {o0 : Nat} {o1 : Nat} {o2 : Nat} {x3 : Int32} {x4 : Int32} {x5 : Int32} (hk0 : KDF[o0]? = some (8, 0)) (hk1 : KDF[o1]? = some (9, 0)) (hk2 : KDF[o2]? = some (6, 0)) {idx : Nat} (hw : Cond.methodLink own idx yX8_goOn ∈ tbG) {dg : Nat} (hdd : dg + 1 ≤ d) (hrm : (rest.map fun v => v.category).sum ≤ 8) (hd : decode cc pc = .ok (.invokevirtual idx, 3)) {M' : Mm} {rc : Nat → Nat → Nat → Int32 → Int32 → Int32 → Mm → Option Mm} (Hrc : HrcT rc dg) (h : rc o0 o1 o2 x3 x4 x5 M = some M') : StpZ x nL pc lv (.int x5 :: .int x4 :: .int x3 :: .ref (xb x + o2) :: .ref (xb x + o1) :: .ref (xb x + o0) :: rest) KDF M (pc + 3) lv (rest) KDF M' :=
  w_callV (st := []) (As := [.ref (xb x + o1), .ref (xb x + o2), .int x3, .int x4, .int x5]) X hR hN (CtX0 Z (Hrc _ _ _ _ o0 o1 o2 x3 x4 x5 M M' hk0 hk1 hk2 h)) ⟨Nat.le_refl _, Nat.le_refl _⟩ ⟨Nat.le_refl _, Nat.le_refl _⟩ hk0 (ci := 8) (fs := fs_8 o0) (fun _ _ _ => rfl) rfl hw mw_762 mw_16 mw_69 mw_763 (n := 5) (by decide +kernel) rfl hdd (by decide) hrm hd
def f_X8_endLeadQ (rc : Nat → Nat → Nat → Int32 → Int32 → Int32 → Mm → Option Mm) (o0 : Nat) (o1 : Nat) (o2 : Nat) (x3 : Int32) (x4 : Int32) (x5 : Int32) (M : Mm) : Option (Mm) :=
  (if (M o0 2) ≤ (x4 + (1 : Int32)) then (if x3 = (M o0 3) then Lt (((if (M o0 0) = 0 then x5 else (if x5 < (M o0 1) then x5 else (M o0 1)))) : Int32) (fun j3 => Lt (st2 M o0 1 j3) (fun M5 => Lt (st2 M5 o0 0 ((M5 o0 0) + (1 : Int32))) (fun M6 => some M6))) else some M) else Bd (rc o0 o1 o2 x3 (x4 + (1 : Int32)) x5 M) (fun r7 => some r7))

set_option maxRecDepth 100000 in
set_option maxHeartbeats 4000000 in
theorem c_X8_endLeadQ {rc : Nat → Nat → Nat → Int32 → Int32 → Int32 → Mm → Option Mm} {dg : Nat} (Hrc : HrcT rc dg) (hdg : 6 ≤ dg) {l : Launch} {D : va_G} {an : An} {b : Nat} {o0 : Nat} {o1 : Nat} {o2 : Nat} {x3 : Int32} {x4 : Int32} {x5 : Int32} (hk0 : KDF[o0]? = some (8, 0)) (hk1 : KDF[o1]? = some (9, 0)) (hk2 : KDF[o2]? = some (6, 0)) {M : Mm} {M' : Mm} (h : f_X8_endLeadQ rc o0 o1 o2 x3 x4 x5 M = some M') : Ct l D an b 0 yX8_endLead cX8_endLead 6 none (dg + 1) [.ref (b + o0), .ref (b + o1), .ref (b + o2), .int x3, .int x4, .int x5] KDF M none KDF M' := by
  refine CtX.mk (as := fun b => [.ref (b + o0), .ref (b + o1), .ref (b + o2), .int x3, .int x4, .int x5]) (rv := fun b => none) (by decide) (fun b => Nat.le_of_ble_eq_true rfl) ⟨Nat.le_refl _, Nat.le_refl _⟩ (fun x X hR Z hN _ _ => ?_)
  have X : Ok x cX8_endLead 6 RX8 none := X
  have G : Gz x 6 0 [(0, .ref (xb x + o0)), (1, .ref (xb x + o1)), (2, .ref (xb x + o2)), (3, .int x3), (4, .int x4), (5, .int x5)] [] KDF M (f_X8_endLeadQ rc o0 o1 o2 x3 x4 x5 M) (PsM x KDF) := by
    unfold f_X8_endLeadQ
    refine g1 (pc' := 2) (w_iload X dX8_endLead_0 4 rfl) ?_
    refine g1 (pc' := 3) (w_iconst X (1) dX8_endLead_2 (by decide)) ?_
    refine g1 (pc' := 4) (w_iadd X dX8_endLead_3) ?_
    refine g1 (pc' := 5) (w_aload_n X dX8_endLead_4 rfl 0 rfl) ?_
    refine g1 (pc' := 8) (gt_8_2 X hk0 mw_270 dX8_endLead_5) ?_
    refine g_if (pcT := 27) (pcF := 11) (w_icmp_ge (tgt := 27) X dX8_endLead_8 (by decide)) (fun h1 => ?_) (fun h1 => ?_)
    · refine g1 (pc' := 28) (w_iload_n X dX8_endLead_27 rfl 3 rfl) ?_
      refine g1 (pc' := 29) (w_aload_n X dX8_endLead_28 rfl 0 rfl) ?_
      refine g1 (pc' := 32) (gt_8_3 X hk0 mw_271 dX8_endLead_29) ?_
      refine g_if (pcT := 35) (pcF := 70) (w_icmp_ne (tgt := 70) X dX8_endLead_32 (by decide)) (fun h2 => ?_) (fun h2 => ?_)
      · refine g1 (pc' := 36) (w_aload_n X dX8_endLead_35 rfl 0 rfl) ?_
        refine g1 (pc' := 37) (w_aload_n X dX8_endLead_36 rfl 0 rfl) ?_
        refine g1 (pc' := 40) (gt_8_0 X hk0 mw_266 dX8_endLead_37) ?_
        refine g_ltJ (J := 57) (fun j3 => [(0, .ref (xb x + o0))]) (fun j3 => [.int j3, .ref (xb x + o0)]) (fun j3 => M) ?_ (fun j3 => ?_)
        · refine g_ifS (pcT := 43) (pcF := 48) (w_if_ne (tgt := 48) X dX8_endLead_40 (by decide)) (fun h4 => ?_) (fun h4 => ?_)
          · refine g1 (pc' := 45) (w_iload X dX8_endLead_43 5 rfl) ?_
            refine g1 (pc' := 57) (w_goto X dX8_endLead_45 (by decide)) ?_
            exact g_end [0] rfl rfl rfl
          · refine g1 (pc' := 49) (w_aload_n X dX8_endLead_48 rfl 0 rfl) ?_
            refine g1 (pc' := 52) (gt_8_1 X hk0 mw_268 dX8_endLead_49) ?_
            refine g1 (pc' := 54) (w_iload X dX8_endLead_52 5 rfl) ?_
            refine g1 (pc' := 57) (w_mmin X hR mw_757 mw_617 mw_77 mw_618 (by omega) (Nat.le_of_ble_eq_true rfl) ⟨Nat.le_refl _, Nat.le_refl _⟩ dX8_endLead_54) ?_
            exact g_end [0] rfl rfl rfl
        · show Gz x 6 57 [(0, .ref (xb x + o0))] [.int j3, .ref (xb x + o0)] KDF M _ _
          refine g_lt (pc' := 60) (fun M5 => [(0, .ref (xb x + o0))]) (fun M5 => []) (fun M5 => M5) (pt_8_1 X Z hk0 mw_268 dX8_endLead_57) (fun M5 => ?_)
          show Gz x 6 60 [(0, .ref (xb x + o0))] [] KDF M5 _ _
          refine g1 (pc' := 61) (w_aload_n X dX8_endLead_60 rfl 0 rfl) ?_
          refine g1 (pc' := 62) (w_dup X dX8_endLead_61 rfl) ?_
          refine g1 (pc' := 65) (gt_8_0 X hk0 mw_266 dX8_endLead_62) ?_
          refine g1 (pc' := 66) (w_iconst X (1) dX8_endLead_65 (by decide)) ?_
          refine g1 (pc' := 67) (w_iadd X dX8_endLead_66) ?_
          refine g_lt (pc' := 70) (fun M6 => [(0, .ref (xb x + o0))]) (fun M6 => []) (fun M6 => M6) (pt_8_0 X Z hk0 mw_266 dX8_endLead_67) (fun M6 => ?_)
          show Gz x 6 70 [(0, .ref (xb x + o0))] [] KDF M6 _ _
          exact g_rM X dX8_endLead_70
      · exact g_rM X dX8_endLead_70
    · refine g1 (pc' := 12) (w_aload_n X dX8_endLead_11 rfl 0 rfl) ?_
      refine g1 (pc' := 13) (w_aload_n X dX8_endLead_12 rfl 1 rfl) ?_
      refine g1 (pc' := 14) (w_aload_n X dX8_endLead_13 rfl 2 rfl) ?_
      refine g1 (pc' := 15) (w_iload_n X dX8_endLead_14 rfl 3 rfl) ?_
      refine g1 (pc' := 17) (w_iload X dX8_endLead_15 4 rfl) ?_
      refine g1 (pc' := 18) (w_iconst X (1) dX8_endLead_17 (by decide)) ?_
      refine g1 (pc' := 19) (w_iadd X dX8_endLead_18) ?_
      refine g1 (pc' := 21) (w_iload X dX8_endLead_19 5 rfl) ?_
      refine g_bd (pc' := 24) (fun r7 => [(0, .ref (xb x + o0)), (1, .ref (xb x + o1)), (2, .ref (xb x + o2)), (3, .int x3), (4, .int x4), (5, .int x5)]) (fun r7 => []) (fun r7 => r7) (fun r7 h => k0_X8_goOn X hR hN Z hk0 hk1 hk2 mw_760 (Nat.le_refl _) (Nat.le_of_ble_eq_true rfl) dX8_endLead_21 Hrc h) (fun r7 => ?_)
      show Gz x 6 24 [(0, .ref (xb x + o0)), (1, .ref (xb x + o1)), (2, .ref (xb x + o2)), (3, .int x3), (4, .int x4), (5, .int x5)] [] KDF r7 _ _
      refine g1 (pc' := 70) (w_goto X dX8_endLead_24 (by decide)) ?_
      exact g_rM X dX8_endLead_70
  exact G _ h _ rfl

theorem k_X8_endLeadQ {x : Cxt} {cc : ByteArray} {nL : Nat} {own : String} {ret : Option FieldType} (X : Ok x cc nL own ret) {d : Nat} (hR : Rm x d KDF) (hN : Nst x) (Z : xz x = 0) {pc : Nat} {lv : List (Nat × Value)} {rest : List Value} {M : Mm} {o0 : Nat} {o1 : Nat} {o2 : Nat} {x3 : Int32} {x4 : Int32} {x5 : Int32} (hk0 : KDF[o0]? = some (8, 0)) (hk1 : KDF[o1]? = some (9, 0)) (hk2 : KDF[o2]? = some (6, 0)) {idx : Nat} (hw : Cond.methodLink own idx yX8_endLead ∈ tbG) {dg : Nat} (hdg : 6 ≤ dg) (hdd : dg + 1 + 1 ≤ d) (hrm : (rest.map fun v => v.category).sum ≤ 8) (hd : decode cc pc = .ok (.invokevirtual idx, 3)) {M' : Mm} {rc : Nat → Nat → Nat → Int32 → Int32 → Int32 → Mm → Option Mm} (Hrc : HrcT rc dg) (h : f_X8_endLeadQ rc o0 o1 o2 x3 x4 x5 M = some M') : StpZ x nL pc lv (.int x5 :: .int x4 :: .int x3 :: .ref (xb x + o2) :: .ref (xb x + o1) :: .ref (xb x + o0) :: rest) KDF M (pc + 3) lv (rest) KDF M' :=
  w_callV (st := []) (As := [.ref (xb x + o1), .ref (xb x + o2), .int x3, .int x4, .int x5]) X hR hN (CtX0 Z (c_X8_endLeadQ Hrc hdg hk0 hk1 hk2 h)) ⟨Nat.le_refl _, Nat.le_refl _⟩ ⟨Nat.le_refl _, Nat.le_refl _⟩ hk0 (ci := 8) (fs := fs_8 o0) (fun _ _ _ => rfl) rfl hw mw_769 mw_17 mw_69 mw_770 (n := 5) (by decide +kernel) rfl hdd (by decide) hrm hd
def b_X8_goOn_14 (o1 : Nat) (o2 : Nat) (s14 : Int32 × Int32 × Int32 × Mm) : Option ((Int32 × Int32 × Int32 × Mm) ⊕ (Int32 × Int32 × Int32 × Mm)) :=
  (if s14.2.2.1 = 0 then some (.inr (s14.1, s14.2.1, s14.2.2.1, s14.2.2.2)) else (if (s14.2.2.2 o1 1) ≤ (s14.2.1 + (1 : Int32)) then some (.inr (s14.1, s14.2.1, s14.2.2.1, s14.2.2.2)) else Bd (f_X9_changeAt o1 s14.2.1 s14.2.2.2) (fun r4 => Gd (KDF[r4]? = some (0, 0)) (Lt (f_X0_next r4 s14.1 s14.2.2.2) (fun v6 => Lt (s14.2.1 + (1 : Int32)) (fun v7 => Bd (f_X6_add o2 v6 s14.2.2.2) (fun r8 => some (.inl (v6, v7, r8.1, r8.2)))))))))
def f_X8_goOnQ (rc : Nat → Nat → Nat → Int32 → Int32 → Int32 → Mm → Option Mm) (o0 : Nat) (o1 : Nat) (o2 : Nat) (x3 : Int32) (x4 : Int32) (x5 : Int32) (M : Mm) : Option (Mm) :=
  Bd (f_X6_add o2 x3 M) (fun r1 => Bd (Lp (b_X8_goOn_14 o1 o2) 100000 (x3, (0 : Int32), r1.1, r1.2)) (fun e9 => Bd (((if e9.2.2.1 = 0 then some (e9.2.1, e9.2.2.2) else Bd (f_X9_changeAt o1 ((e9.2.2.2 o1 1) - (1 : Int32)) e9.2.2.2) (fun r13 => Gd (KDF[r13]? = some (0, 0)) (Bd (f_X8_endLeadQ rc o0 o1 o2 (f_X0_next r13 e9.1 e9.2.2.2) x4 x5 e9.2.2.2) (fun r15 => Bd (f_X8_endLeadQ rc o0 o1 o2 (f_X0_next (o1 + 1) e9.1 r15) x4 (x5 ||| (sl (1 : Int32) x4)) r15) (fun r16 => Lt (e9.2.1 + (1 : Int32)) (fun v17 => some (v17, r16)))))))) : Option (Int32 × Mm)) (fun j11 => Bd (f_X8_leave o1 o2 x3 j11.1 j11.2) (fun r18 => some r18))))

set_option maxRecDepth 100000 in
set_option maxHeartbeats 4000000 in
theorem c_X8_goOnQ {rc : Nat → Nat → Nat → Int32 → Int32 → Int32 → Mm → Option Mm} {dg : Nat} (Hrc : HrcT rc dg) (hdg : 6 ≤ dg) {l : Launch} {D : va_G} {an : An} {b : Nat} {o0 : Nat} {o1 : Nat} {o2 : Nat} {x3 : Int32} {x4 : Int32} {x5 : Int32} (hk0 : KDF[o0]? = some (8, 0)) (hk1 : KDF[o1]? = some (9, 0)) (hk2 : KDF[o2]? = some (6, 0)) {M : Mm} {M' : Mm} (h : f_X8_goOnQ rc o0 o1 o2 x3 x4 x5 M = some M') : Ct l D an b 0 yX8_goOn cX8_goOn 9 none (dg + 2) [.ref (b + o0), .ref (b + o1), .ref (b + o2), .int x3, .int x4, .int x5] KDF M none KDF M' := by
  refine CtX.mk (as := fun b => [.ref (b + o0), .ref (b + o1), .ref (b + o2), .int x3, .int x4, .int x5]) (rv := fun b => none) (by decide) (fun b => Nat.le_of_ble_eq_true rfl) ⟨Nat.le_refl _, Nat.le_refl _⟩ (fun x X hR Z hN _ _ => ?_)
  have X : Ok x cX8_goOn 9 RX8 none := X
  have G : Gz x 9 0 [(0, .ref (xb x + o0)), (1, .ref (xb x + o1)), (2, .ref (xb x + o2)), (3, .int x3), (4, .int x4), (5, .int x5)] [] KDF M (f_X8_goOnQ rc o0 o1 o2 x3 x4 x5 M) (PsM x KDF) := by
    unfold f_X8_goOnQ
    refine g1 (pc' := 1) (w_iload_n X dX8_goOn_0 rfl 3 rfl) ?_
    refine g1 (pc' := 3) (lv' := [(6, .int x3), (0, .ref (xb x + o0)), (1, .ref (xb x + o1)), (2, .ref (xb x + o2)), (3, .int x3), (4, .int x4), (5, .int x5)]) (w_istore X dX8_goOn_1 (by decide) rfl) ?_
    refine g1 (pc' := 4) (w_iconst X (0) dX8_goOn_3 (by decide)) ?_
    refine g1 (pc' := 6) (lv' := [(7, .int (0 : Int32)), (6, .int x3), (0, .ref (xb x + o0)), (1, .ref (xb x + o1)), (2, .ref (xb x + o2)), (3, .int x3), (4, .int x4), (5, .int x5)]) (w_istore X dX8_goOn_4 (by decide) rfl) ?_
    refine g1 (pc' := 7) (w_aload_n X dX8_goOn_6 rfl 4 rfl) ?_
    refine g1 (pc' := 9) (w_iload X dX8_goOn_7 1 rfl) ?_
    refine g_bd (pc' := 12) (fun r1 => [(7, .int (0 : Int32)), (6, .int x3), (0, .ref (xb x + o0)), (1, .ref (xb x + o1)), (2, .ref (xb x + o2)), (3, .int x3), (4, .int x4), (5, .int x5)]) (fun r1 => [.int r1.1]) (fun r1 => r1.2) (fun r1 h => k_X6_add X hR hN Z hk2 mw_764 (by omega) (Nat.le_of_ble_eq_true rfl) dX8_goOn_9 h) (fun r1 => ?_)
    show Gz x 9 12 [(7, .int (0 : Int32)), (6, .int x3), (0, .ref (xb x + o0)), (1, .ref (xb x + o1)), (2, .ref (xb x + o2)), (3, .int x3), (4, .int x4), (5, .int x5)] [.int r1.1] KDF r1.2 _ _
    refine g1 (pc' := 14) (lv' := [(8, .int r1.1), (7, .int (0 : Int32)), (6, .int x3), (0, .ref (xb x + o0)), (1, .ref (xb x + o1)), (2, .ref (xb x + o2)), (3, .int x3), (4, .int x4), (5, .int x5)]) (w_istore X dX8_goOn_12 (by decide) rfl) ?_
    refine g_pick (lv' := [(0, .ref (xb x + o0)), (1, .ref (xb x + o1)), (2, .ref (xb x + o2)), (3, .int x3), (4, .int x4), (5, .int x5), (6, .int x3), (7, .int (0 : Int32)), (8, .int r1.1)]) [3, 4, 5, 6, 7, 8, 2, 1, 0] rfl ?_
    refine g_bdJ (J := 57) (fun e9 => [(0, .ref (xb x + o0)), (1, .ref (xb x + o1)), (2, .ref (xb x + o2)), (3, .int x3), (4, .int x4), (5, .int x5), (6, .int e9.1), (7, .int e9.2.1), (8, .int e9.2.2.1)]) (fun e9 => []) (fun e9 => e9.2.2.2) (g_lp (fun s14 => [(0, .ref (xb x + o0)), (1, .ref (xb x + o1)), (2, .ref (xb x + o2)), (3, .int x3), (4, .int x4), (5, .int x5), (6, .int s14.1), (7, .int s14.2.1), (8, .int s14.2.2.1)]) (fun s14 => s14.2.2.2) (fun s14 => ?_) 100000 (x3, (0 : Int32), r1.1, r1.2)) (fun e9 => ?_)
    · show Gz x 9 14 [(0, .ref (xb x + o0)), (1, .ref (xb x + o1)), (2, .ref (xb x + o2)), (3, .int x3), (4, .int x4), (5, .int x5), (6, .int s14.1), (7, .int s14.2.1), (8, .int s14.2.2.1)] [] KDF s14.2.2.2 (b_X8_goOn_14 o1 o2 s14) _
      unfold b_X8_goOn_14
      refine g1 (pc' := 16) (w_iload X dX8_goOn_14 8 rfl) ?_
      refine g_if (pcT := 57) (pcF := 19) (w_if_eq (tgt := 57) X dX8_goOn_16 (by decide)) (fun h2 => ?_) (fun h2 => ?_)
      · refine g_inr ?_
        exact g_end [0, 1, 2, 3, 4, 5, 6, 7, 8] rfl rfl rfl
      · refine g1 (pc' := 21) (w_iload X dX8_goOn_19 7 rfl) ?_
        refine g1 (pc' := 22) (w_iconst X (1) dX8_goOn_21 (by decide)) ?_
        refine g1 (pc' := 23) (w_iadd X dX8_goOn_22) ?_
        refine g1 (pc' := 24) (w_aload_n X dX8_goOn_23 rfl 1 rfl) ?_
        refine g1 (pc' := 27) (gt_9_1 X hk1 mw_118 dX8_goOn_24) ?_
        refine g_if (pcT := 57) (pcF := 30) (w_icmp_ge (tgt := 57) X dX8_goOn_27 (by decide)) (fun h3 => ?_) (fun h3 => ?_)
        · refine g_inr ?_
          exact g_end [0, 1, 2, 3, 4, 5, 6, 7, 8] rfl rfl rfl
        · refine g1 (pc' := 31) (w_aload_n X dX8_goOn_30 rfl 1 rfl) ?_
          refine g1 (pc' := 33) (w_iload X dX8_goOn_31 7 rfl) ?_
          refine g_bd (pc' := 36) (fun r4 => [(0, .ref (xb x + o0)), (1, .ref (xb x + o1)), (2, .ref (xb x + o2)), (3, .int x3), (4, .int x4), (5, .int x5), (6, .int s14.1), (7, .int s14.2.1), (8, .int s14.2.2.1)]) (fun r4 => [.ref (xb x + r4)]) (fun r4 => s14.2.2.2) (fun r4 h => k_X9_changeAt X hR hN Z hk1 mw_765 (by omega) (Nat.le_of_ble_eq_true rfl) dX8_goOn_33 h) (fun r4 => ?_)
          show Gz x 9 36 [(0, .ref (xb x + o0)), (1, .ref (xb x + o1)), (2, .ref (xb x + o2)), (3, .int x3), (4, .int x4), (5, .int x5), (6, .int s14.1), (7, .int s14.2.1), (8, .int s14.2.2.1)] [.ref (xb x + r4)] KDF s14.2.2.2 _ _
          refine g_gd (fun h5 => ?_)
          refine g1 (pc' := 38) (w_iload X dX8_goOn_36 6 rfl) ?_
          refine g1 (pc' := 41) (k_X0_next X hR hN Z h5 mw_766 (by omega) (Nat.le_of_ble_eq_true rfl) dX8_goOn_38) ?_
          refine g_lt (pc' := 43) (fun v6 => [(6, .int v6), (0, .ref (xb x + o0)), (1, .ref (xb x + o1)), (2, .ref (xb x + o2)), (3, .int x3), (4, .int x4), (5, .int x5), (7, .int s14.2.1), (8, .int s14.2.2.1)]) (fun v6 => []) (fun v6 => s14.2.2.2) (w_istore X dX8_goOn_41 (by decide) rfl) (fun v6 => ?_)
          show Gz x 9 43 [(6, .int v6), (0, .ref (xb x + o0)), (1, .ref (xb x + o1)), (2, .ref (xb x + o2)), (3, .int x3), (4, .int x4), (5, .int x5), (7, .int s14.2.1), (8, .int s14.2.2.1)] [] KDF s14.2.2.2 _ _
          refine g_lt (pc' := 46) (fun v7 => [(7, .int v7), (6, .int v6), (0, .ref (xb x + o0)), (1, .ref (xb x + o1)), (2, .ref (xb x + o2)), (3, .int x3), (4, .int x4), (5, .int x5), (8, .int s14.2.2.1)]) (fun v7 => []) (fun v7 => s14.2.2.2) (w_iinc X dX8_goOn_43 7 rfl rfl (by decide) rfl) (fun v7 => ?_)
          show Gz x 9 46 [(7, .int v7), (6, .int v6), (0, .ref (xb x + o0)), (1, .ref (xb x + o1)), (2, .ref (xb x + o2)), (3, .int x3), (4, .int x4), (5, .int x5), (8, .int s14.2.2.1)] [] KDF s14.2.2.2 _ _
          refine g1 (pc' := 47) (w_aload_n X dX8_goOn_46 rfl 4 rfl) ?_
          refine g1 (pc' := 49) (w_iload X dX8_goOn_47 1 rfl) ?_
          refine g_bd (pc' := 52) (fun r8 => [(7, .int v7), (6, .int v6), (0, .ref (xb x + o0)), (1, .ref (xb x + o1)), (2, .ref (xb x + o2)), (3, .int x3), (4, .int x4), (5, .int x5), (8, .int s14.2.2.1)]) (fun r8 => [.int r8.1]) (fun r8 => r8.2) (fun r8 h => k_X6_add X hR hN Z hk2 mw_764 (by omega) (Nat.le_of_ble_eq_true rfl) dX8_goOn_49 h) (fun r8 => ?_)
          show Gz x 9 52 [(7, .int v7), (6, .int v6), (0, .ref (xb x + o0)), (1, .ref (xb x + o1)), (2, .ref (xb x + o2)), (3, .int x3), (4, .int x4), (5, .int x5), (8, .int s14.2.2.1)] [.int r8.1] KDF r8.2 _ _
          refine g1 (pc' := 54) (lv' := [(8, .int r8.1), (7, .int v7), (6, .int v6), (0, .ref (xb x + o0)), (1, .ref (xb x + o1)), (2, .ref (xb x + o2)), (3, .int x3), (4, .int x4), (5, .int x5)]) (w_istore X dX8_goOn_52 (by decide) rfl) ?_
          refine g1 (pc' := 14) (w_goto X dX8_goOn_54 (by decide)) ?_
          refine g_inl ?_
          exact g_end [3, 4, 5, 6, 7, 8, 2, 1, 0] rfl rfl rfl
    · show Gz x 9 57 [(0, .ref (xb x + o0)), (1, .ref (xb x + o1)), (2, .ref (xb x + o2)), (3, .int x3), (4, .int x4), (5, .int x5), (6, .int e9.1), (7, .int e9.2.1), (8, .int e9.2.2.1)] [] KDF e9.2.2.2 _ _
      refine g1 (pc' := 59) (w_iload X dX8_goOn_57 8 rfl) ?_
      refine g_bdJ (J := 114) (fun j11 => [(1, .ref (xb x + o1)), (2, .ref (xb x + o2)), (3, .int x3), (7, .int j11.1)]) (fun j11 => []) (fun j11 => j11.2) ?_ (fun j11 => ?_)
      · refine g_if (pcT := 114) (pcF := 62) (w_if_eq (tgt := 114) X dX8_goOn_59 (by decide)) (fun h12 => ?_) (fun h12 => ?_)
        · exact g_end [1, 2, 3, 7] rfl rfl rfl
        · refine g1 (pc' := 63) (w_aload_n X dX8_goOn_62 rfl 0 rfl) ?_
          refine g1 (pc' := 64) (w_aload_n X dX8_goOn_63 rfl 1 rfl) ?_
          refine g1 (pc' := 65) (w_aload_n X dX8_goOn_64 rfl 2 rfl) ?_
          refine g1 (pc' := 66) (w_aload_n X dX8_goOn_65 rfl 1 rfl) ?_
          refine g1 (pc' := 67) (w_aload_n X dX8_goOn_66 rfl 1 rfl) ?_
          refine g1 (pc' := 70) (gt_9_1 X hk1 mw_118 dX8_goOn_67) ?_
          refine g1 (pc' := 71) (w_iconst X (1) dX8_goOn_70 (by decide)) ?_
          refine g1 (pc' := 72) (w_isub X dX8_goOn_71) ?_
          refine g_bd (pc' := 75) (fun r13 => [(0, .ref (xb x + o0)), (1, .ref (xb x + o1)), (2, .ref (xb x + o2)), (3, .int x3), (4, .int x4), (5, .int x5), (6, .int e9.1), (7, .int e9.2.1), (8, .int e9.2.2.1)]) (fun r13 => [.ref (xb x + r13), .ref (xb x + o2), .ref (xb x + o1), .ref (xb x + o0)]) (fun r13 => e9.2.2.2) (fun r13 h => k_X9_changeAt X hR hN Z hk1 mw_765 (by omega) (Nat.le_of_ble_eq_true rfl) dX8_goOn_72 h) (fun r13 => ?_)
          show Gz x 9 75 [(0, .ref (xb x + o0)), (1, .ref (xb x + o1)), (2, .ref (xb x + o2)), (3, .int x3), (4, .int x4), (5, .int x5), (6, .int e9.1), (7, .int e9.2.1), (8, .int e9.2.2.1)] [.ref (xb x + r13), .ref (xb x + o2), .ref (xb x + o1), .ref (xb x + o0)] KDF e9.2.2.2 _ _
          refine g_gd (fun h14 => ?_)
          refine g1 (pc' := 77) (w_iload X dX8_goOn_75 6 rfl) ?_
          refine g1 (pc' := 80) (k_X0_next X hR hN Z h14 mw_766 (by omega) (Nat.le_of_ble_eq_true rfl) dX8_goOn_77) ?_
          refine g1 (pc' := 82) (w_iload X dX8_goOn_80 4 rfl) ?_
          refine g1 (pc' := 84) (w_iload X dX8_goOn_82 5 rfl) ?_
          refine g_bd (pc' := 87) (fun r15 => [(0, .ref (xb x + o0)), (1, .ref (xb x + o1)), (2, .ref (xb x + o2)), (3, .int x3), (4, .int x4), (5, .int x5), (6, .int e9.1), (7, .int e9.2.1), (8, .int e9.2.2.1)]) (fun r15 => []) (fun r15 => r15) (fun r15 h => k_X8_endLeadQ X hR hN Z hk0 hk1 hk2 mw_767 hdg (by omega) (Nat.le_of_ble_eq_true rfl) dX8_goOn_84 Hrc h) (fun r15 => ?_)
          show Gz x 9 87 [(0, .ref (xb x + o0)), (1, .ref (xb x + o1)), (2, .ref (xb x + o2)), (3, .int x3), (4, .int x4), (5, .int x5), (6, .int e9.1), (7, .int e9.2.1), (8, .int e9.2.2.1)] [] KDF r15 _ _
          refine g1 (pc' := 88) (w_aload_n X dX8_goOn_87 rfl 0 rfl) ?_
          refine g1 (pc' := 89) (w_aload_n X dX8_goOn_88 rfl 1 rfl) ?_
          refine g1 (pc' := 90) (w_aload_n X dX8_goOn_89 rfl 2 rfl) ?_
          refine g1 (pc' := 91) (w_aload_n X dX8_goOn_90 rfl 1 rfl) ?_
          refine g1 (pc' := 94) (gt_9_4 X hk1 mw_130 dX8_goOn_91) ?_
          refine g1 (pc' := 96) (w_iload X dX8_goOn_94 6 rfl) ?_
          refine g1 (pc' := 99) (k_X0_next X hR hN Z (kd_To1 hk1) mw_766 (by omega) (Nat.le_of_ble_eq_true rfl) dX8_goOn_96) ?_
          refine g1 (pc' := 101) (w_iload X dX8_goOn_99 4 rfl) ?_
          refine g1 (pc' := 103) (w_iload X dX8_goOn_101 5 rfl) ?_
          refine g1 (pc' := 104) (w_iconst X (1) dX8_goOn_103 (by decide)) ?_
          refine g1 (pc' := 106) (w_iload X dX8_goOn_104 4 rfl) ?_
          refine g1 (pc' := 107) (w_ishl X dX8_goOn_106) ?_
          refine g1 (pc' := 108) (w_ior X dX8_goOn_107) ?_
          refine g_bd (pc' := 111) (fun r16 => [(0, .ref (xb x + o0)), (1, .ref (xb x + o1)), (2, .ref (xb x + o2)), (3, .int x3), (4, .int x4), (5, .int x5), (6, .int e9.1), (7, .int e9.2.1), (8, .int e9.2.2.1)]) (fun r16 => []) (fun r16 => r16) (fun r16 h => k_X8_endLeadQ X hR hN Z hk0 hk1 hk2 mw_767 hdg (by omega) (Nat.le_of_ble_eq_true rfl) dX8_goOn_108 Hrc h) (fun r16 => ?_)
          show Gz x 9 111 [(0, .ref (xb x + o0)), (1, .ref (xb x + o1)), (2, .ref (xb x + o2)), (3, .int x3), (4, .int x4), (5, .int x5), (6, .int e9.1), (7, .int e9.2.1), (8, .int e9.2.2.1)] [] KDF r16 _ _
          refine g_lt (pc' := 114) (fun v17 => [(7, .int v17), (0, .ref (xb x + o0)), (1, .ref (xb x + o1)), (2, .ref (xb x + o2)), (3, .int x3), (4, .int x4), (5, .int x5), (6, .int e9.1), (8, .int e9.2.2.1)]) (fun v17 => []) (fun v17 => r16) (w_iinc X dX8_goOn_111 7 rfl rfl (by decide) rfl) (fun v17 => ?_)
          show Gz x 9 114 [(7, .int v17), (0, .ref (xb x + o0)), (1, .ref (xb x + o1)), (2, .ref (xb x + o2)), (3, .int x3), (4, .int x4), (5, .int x5), (6, .int e9.1), (8, .int e9.2.2.1)] [] KDF r16 _ _
          exact g_end [2, 3, 4, 0] rfl rfl rfl
      · show Gz x 9 114 [(1, .ref (xb x + o1)), (2, .ref (xb x + o2)), (3, .int x3), (7, .int j11.1)] [] KDF j11.2 _ _
        refine g1 (pc' := 115) (w_aload_n X dX8_goOn_114 rfl 0 rfl) ?_
        refine g1 (pc' := 116) (w_aload_n X dX8_goOn_115 rfl 1 rfl) ?_
        refine g1 (pc' := 117) (w_iload_n X dX8_goOn_116 rfl 2 rfl) ?_
        refine g1 (pc' := 119) (w_iload X dX8_goOn_117 3 rfl) ?_
        refine g_bd (pc' := 122) (fun r18 => [(1, .ref (xb x + o1)), (2, .ref (xb x + o2)), (3, .int x3), (7, .int j11.1)]) (fun r18 => []) (fun r18 => r18) (fun r18 h => k_X8_leave X hR hN Z hk1 hk2 mw_771 (by omega) (Nat.le_of_ble_eq_true rfl) dX8_goOn_119 h) (fun r18 => ?_)
        show Gz x 9 122 [(1, .ref (xb x + o1)), (2, .ref (xb x + o2)), (3, .int x3), (7, .int j11.1)] [] KDF r18 _ _
        exact g_rM X dX8_goOn_122
  exact G _ h _ rfl

def f_X8_goOn : Nat → Nat → Nat → Nat → Int32 → Int32 → Int32 → Mm → Option Mm
  | 0 => fun _ _ _ _ _ _ _ => none
  | n + 1 => f_X8_goOnQ (f_X8_goOn n)
theorem c_X8_goOnN : ∀ n, HrcT (f_X8_goOn n) (6 + 2 * n)
  | 0 => fun _ _ _ _ _ _ _ _ _ _ _ _ _ _ _ h => by cases h
  | n + 1 => fun _ _ _ _ _ _ _ _ _ _ _ _ hk hk1 hk2 h => c_X8_goOnQ (c_X8_goOnN n) (by omega) hk hk1 hk2 h
theorem k_X8_goOn {x : Cxt} {cc : ByteArray} {nL : Nat} {own : String} {ret : Option FieldType} (X : Ok x cc nL own ret) {d : Nat} (hR : Rm x d KDF) (hN : Nst x) (Z : xz x = 0) {pc : Nat} {lv : List (Nat × Value)} {rest : List Value} {M : Mm} {o0 : Nat} {o1 : Nat} {o2 : Nat} {x3 : Int32} {x4 : Int32} {x5 : Int32} (hk0 : KDF[o0]? = some (8, 0)) (hk1 : KDF[o1]? = some (9, 0)) (hk2 : KDF[o2]? = some (6, 0)) {idx : Nat} (hw : Cond.methodLink own idx yX8_goOn ∈ tbG) (hdd : 24 + 1 ≤ d) (hrm : (rest.map fun v => v.category).sum ≤ 8) (hd : decode cc pc = .ok (.invokevirtual idx, 3)) {M' : Mm} (h : f_X8_goOn 9 o0 o1 o2 x3 x4 x5 M = some M') : StpZ x nL pc lv (.int x5 :: .int x4 :: .int x3 :: .ref (xb x + o2) :: .ref (xb x + o1) :: .ref (xb x + o0) :: rest) KDF M (pc + 3) lv (rest) KDF M' :=
  w_callV (st := []) (As := [.ref (xb x + o1), .ref (xb x + o2), .int x3, .int x4, .int x5]) X hR hN (CtX0 Z (c_X8_goOnN 9 _ _ _ _ o0 o1 o2 x3 x4 x5 M M' hk0 hk1 hk2 h)) ⟨Nat.le_refl _, Nat.le_refl _⟩ ⟨Nat.le_refl _, Nat.le_refl _⟩ hk0 (ci := 8) (fs := fs_8 o0) (fun _ _ _ => rfl) rfl hw mw_762 mw_16 mw_69 mw_763 (n := 5) (by decide +kernel) rfl hdd (by decide) hrm hd
def f_X8_search (o0 : Nat) (o1 : Nat) (o2 : Nat) (x3 : Int32) (M : Mm) : Option (Mm) :=
  Lt (st2 M o0 2 (if (8 : Int32) < x3 then (8 : Int32) else x3)) (fun M1 => Bd (f_X5_rounds (M1 o1 0)) (fun r2 => Lt (st2 M1 o0 3 r2) (fun M3 => Lt (st2 M3 o0 0 (0 : Int32)) (fun M4 => Lt (st2 M4 o0 1 (-1 : Int32)) (fun M5 => Bd (f_X6_clear o2 M5) (fun r6 => Bd (f_X8_goOn 9 o0 o1 o2 (r6 o0 3) (0 : Int32) (0 : Int32) r6) (fun r7 => some r7)))))))
set_option maxRecDepth 100000 in
set_option maxHeartbeats 4000000 in
theorem c_X8_search {l : Launch} {D : va_G} {an : An} {b : Nat} {o0 : Nat} {o1 : Nat} {o2 : Nat} {x3 : Int32} (hk0 : KDF[o0]? = some (8, 0)) (hk1 : KDF[o1]? = some (9, 0)) (hk2 : KDF[o2]? = some (6, 0)) {M : Mm} {M' : Mm} (h : f_X8_search o0 o1 o2 x3 M = some M') : Ct l D an b 0 yX8_search cX8_search 4 none 25 [.ref (b + o0), .ref (b + o1), .ref (b + o2), .int x3] KDF M none KDF M' := by
  refine CtX.mk (as := fun b => [.ref (b + o0), .ref (b + o1), .ref (b + o2), .int x3]) (rv := fun b => none) (by decide) (fun b => Nat.le_of_ble_eq_true rfl) ⟨Nat.le_refl _, Nat.le_refl _⟩ (fun x X hR Z hN _ _ => ?_)
  have X : Ok x cX8_search 4 RX8 none := X
  have G : Gz x 4 0 [(0, .ref (xb x + o0)), (1, .ref (xb x + o1)), (2, .ref (xb x + o2)), (3, .int x3)] [] KDF M (f_X8_search o0 o1 o2 x3 M) (PsM x KDF) := by
    unfold f_X8_search
    refine g1 (pc' := 1) (w_aload_n X dX8_search_0 rfl 0 rfl) ?_
    refine g1 (pc' := 2) (w_iload_n X dX8_search_1 rfl 3 rfl) ?_
    refine g1 (pc' := 4) (w_bipush X (8) dX8_search_2 (by decide)) ?_
    refine g1 (pc' := 7) (w_mmin X hR mw_757 mw_617 mw_77 mw_618 (by decide) (Nat.le_of_ble_eq_true rfl) ⟨Nat.le_refl _, Nat.le_refl _⟩ dX8_search_4) ?_
    refine g_lt (pc' := 10) (fun M1 => [(0, .ref (xb x + o0)), (1, .ref (xb x + o1)), (2, .ref (xb x + o2)), (3, .int x3)]) (fun M1 => []) (fun M1 => M1) (pt_8_2 X Z hk0 mw_270 dX8_search_7) (fun M1 => ?_)
    show Gz x 4 10 [(0, .ref (xb x + o0)), (1, .ref (xb x + o1)), (2, .ref (xb x + o2)), (3, .int x3)] [] KDF M1 _ _
    refine g1 (pc' := 11) (w_aload_n X dX8_search_10 rfl 0 rfl) ?_
    refine g1 (pc' := 12) (w_aload_n X dX8_search_11 rfl 1 rfl) ?_
    refine g1 (pc' := 15) (gt_9_0 X hk1 mw_112 dX8_search_12) ?_
    refine g_bd (pc' := 18) (fun r2 => [(0, .ref (xb x + o0)), (1, .ref (xb x + o1)), (2, .ref (xb x + o2)), (3, .int x3)]) (fun r2 => [.int r2, .ref (xb x + o0)]) (fun r2 => M1) (fun r2 h => k_X5_rounds X hR hN Z  mw_758 (by decide) (Nat.le_of_ble_eq_true rfl) dX8_search_15 h) (fun r2 => ?_)
    show Gz x 4 18 [(0, .ref (xb x + o0)), (1, .ref (xb x + o1)), (2, .ref (xb x + o2)), (3, .int x3)] [.int r2, .ref (xb x + o0)] KDF M1 _ _
    refine g_lt (pc' := 21) (fun M3 => [(0, .ref (xb x + o0)), (1, .ref (xb x + o1)), (2, .ref (xb x + o2)), (3, .int x3)]) (fun M3 => []) (fun M3 => M3) (pt_8_3 X Z hk0 mw_271 dX8_search_18) (fun M3 => ?_)
    show Gz x 4 21 [(0, .ref (xb x + o0)), (1, .ref (xb x + o1)), (2, .ref (xb x + o2)), (3, .int x3)] [] KDF M3 _ _
    refine g1 (pc' := 22) (w_aload_n X dX8_search_21 rfl 0 rfl) ?_
    refine g1 (pc' := 23) (w_iconst X (0) dX8_search_22 (by decide)) ?_
    refine g_lt (pc' := 26) (fun M4 => [(0, .ref (xb x + o0)), (1, .ref (xb x + o1)), (2, .ref (xb x + o2)), (3, .int x3)]) (fun M4 => []) (fun M4 => M4) (pt_8_0 X Z hk0 mw_266 dX8_search_23) (fun M4 => ?_)
    show Gz x 4 26 [(0, .ref (xb x + o0)), (1, .ref (xb x + o1)), (2, .ref (xb x + o2)), (3, .int x3)] [] KDF M4 _ _
    refine g1 (pc' := 27) (w_aload_n X dX8_search_26 rfl 0 rfl) ?_
    refine g1 (pc' := 28) (w_iconst X (-1) dX8_search_27 (by decide)) ?_
    refine g_lt (pc' := 31) (fun M5 => [(0, .ref (xb x + o0)), (1, .ref (xb x + o1)), (2, .ref (xb x + o2)), (3, .int x3)]) (fun M5 => []) (fun M5 => M5) (pt_8_1 X Z hk0 mw_268 dX8_search_28) (fun M5 => ?_)
    show Gz x 4 31 [(0, .ref (xb x + o0)), (1, .ref (xb x + o1)), (2, .ref (xb x + o2)), (3, .int x3)] [] KDF M5 _ _
    refine g1 (pc' := 32) (w_aload_n X dX8_search_31 rfl 2 rfl) ?_
    refine g_bd (pc' := 35) (fun r6 => [(0, .ref (xb x + o0)), (1, .ref (xb x + o1)), (2, .ref (xb x + o2)), (3, .int x3)]) (fun r6 => []) (fun r6 => r6) (fun r6 h => k_X6_clear X hR hN Z hk2 mw_759 (by decide) (Nat.le_of_ble_eq_true rfl) dX8_search_32 h) (fun r6 => ?_)
    show Gz x 4 35 [(0, .ref (xb x + o0)), (1, .ref (xb x + o1)), (2, .ref (xb x + o2)), (3, .int x3)] [] KDF r6 _ _
    refine g1 (pc' := 36) (w_aload_n X dX8_search_35 rfl 0 rfl) ?_
    refine g1 (pc' := 37) (w_aload_n X dX8_search_36 rfl 1 rfl) ?_
    refine g1 (pc' := 38) (w_aload_n X dX8_search_37 rfl 2 rfl) ?_
    refine g1 (pc' := 39) (w_aload_n X dX8_search_38 rfl 0 rfl) ?_
    refine g1 (pc' := 42) (gt_8_3 X hk0 mw_271 dX8_search_39) ?_
    refine g1 (pc' := 43) (w_iconst X (0) dX8_search_42 (by decide)) ?_
    refine g1 (pc' := 44) (w_iconst X (0) dX8_search_43 (by decide)) ?_
    refine g_bd (pc' := 47) (fun r7 => [(0, .ref (xb x + o0)), (1, .ref (xb x + o1)), (2, .ref (xb x + o2)), (3, .int x3)]) (fun r7 => []) (fun r7 => r7) (fun r7 h => k_X8_goOn X hR hN Z hk0 hk1 hk2 mw_760 (by decide) (Nat.le_of_ble_eq_true rfl) dX8_search_44 h) (fun r7 => ?_)
    show Gz x 4 47 [(0, .ref (xb x + o0)), (1, .ref (xb x + o1)), (2, .ref (xb x + o2)), (3, .int x3)] [] KDF r7 _ _
    exact g_rM X dX8_search_47
  exact G _ h _ rfl
theorem k_X8_search {x : Cxt} {cc : ByteArray} {nL : Nat} {own : String} {ret : Option FieldType} (X : Ok x cc nL own ret) {d : Nat} (hR : Rm x d KDF) (hN : Nst x) (Z : xz x = 0) {pc : Nat} {lv : List (Nat × Value)} {rest : List Value} {M : Mm} {o0 : Nat} {o1 : Nat} {o2 : Nat} {x3 : Int32} (hk0 : KDF[o0]? = some (8, 0)) (hk1 : KDF[o1]? = some (9, 0)) (hk2 : KDF[o2]? = some (6, 0)) {idx : Nat} (hw : Cond.methodLink own idx yX8_search ∈ tbG) (hdd : 25 + 1 ≤ d) (hrm : (rest.map fun v => v.category).sum ≤ 8) (hd : decode cc pc = .ok (.invokevirtual idx, 3)) {M' : Mm} (h : f_X8_search o0 o1 o2 x3 M = some M') : StpZ x nL pc lv (.int x3 :: .ref (xb x + o2) :: .ref (xb x + o1) :: .ref (xb x + o0) :: rest) KDF M (pc + 3) lv (rest) KDF M' :=
  w_callV (st := []) (As := [.ref (xb x + o1), .ref (xb x + o2), .int x3]) X hR hN (CtX0 Z (c_X8_search hk0 hk1 hk2 h)) ⟨Nat.le_refl _, Nat.le_refl _⟩ ⟨Nat.le_refl _, Nat.le_refl _⟩ hk0 (ci := 8) (fs := fs_8 o0) (fun _ _ _ => rfl) rfl hw mw_754 mw_755 mw_69 mw_756 (n := 3) (by decide +kernel) rfl hdd (by decide) hrm hd
def f_X11_touch (o0 : Nat) (x1 : Int32) (x2 : Int32) (M : Mm) : Option (Int32 × Mm) :=
  (if x1 < (1 : Int32) then some ((-1000000002 : Int32), M) else (if (8 : Int32) < x1 then some ((-1000000002 : Int32), M) else (if x2 < 0 then some ((-1000000002 : Int32), M) else (if x2 ≤ (1 : Int32) then Gd (KDF[(M o0 0).toNatClampNeg]? = some (9, 0)) ((if (f_X9_stands (M o0 0).toNatClampNeg M) = 0 then some ((-1000000003 : Int32), M) else Gd (KDF[(M o0 0).toNatClampNeg]? = some (9, 0)) (Bd (f_X8_search 111 (M o0 0).toNatClampNeg 109 x1 M) (fun r8 => (if x2 = 0 then some ((r8 111 0), r8) else some ((r8 111 1), r8)))))) else some ((-1000000002 : Int32), M)))))
set_option maxRecDepth 100000 in
set_option maxHeartbeats 4000000 in
theorem c_X11_touch {l : Launch} {D : va_G} {an : An} {b : Nat} {o0 : Nat} {x1 : Int32} {x2 : Int32} (hk0 : KDF[o0]? = some (11, 0)) {M : Mm} {r : Int32} {M' : Mm} (h : f_X11_touch o0 x1 x2 M = some (r, M')) : Ct l D an b 0 yX11_touch cX11_touch 3 (some .int) 26 [.ref (b + o0), .int x1, .int x2] KDF M (some (.int r)) KDF M' := by
  refine CtX.mk (as := fun b => [.ref (b + o0), .int x1, .int x2]) (rv := fun b => (some (.int r))) (by decide) (fun b => Nat.le_of_ble_eq_true rfl) ⟨Nat.le_refl _, Nat.le_refl _⟩ (fun x X hR Z hN _ _ => ?_)
  have X : Ok x cX11_touch 3 RX11 (some .int) := X
  have G : Gz x 3 0 [(0, .ref (xb x + o0)), (1, .int x1), (2, .int x2)] [] KDF M (f_X11_touch o0 x1 x2 M) (PsI2 x KDF) := by
    unfold f_X11_touch
    refine g1 (pc' := 1) (w_iload_n X dX11_touch_0 rfl 1 rfl) ?_
    refine g1 (pc' := 2) (w_iconst X (1) dX11_touch_1 (by decide)) ?_
    refine g_if (pcT := 20) (pcF := 5) (w_icmp_lt (tgt := 20) X dX11_touch_2 (by decide)) (fun h1 => ?_) (fun h1 => ?_)
    · refine g1 (pc' := 22) (w_ldc (v := -1000000002) X dX11_touch_20 mw_376) ?_
      exact g_rI2 X dX11_touch_22
    · refine g1 (pc' := 6) (w_iload_n X dX11_touch_5 rfl 1 rfl) ?_
      refine g1 (pc' := 8) (w_bipush X (8) dX11_touch_6 (by decide)) ?_
      refine g_if (pcT := 20) (pcF := 11) (w_icmp_gt (tgt := 20) X dX11_touch_8 (by decide)) (fun h2 => ?_) (fun h2 => ?_)
      · refine g1 (pc' := 22) (w_ldc (v := -1000000002) X dX11_touch_20 mw_376) ?_
        exact g_rI2 X dX11_touch_22
      · refine g1 (pc' := 12) (w_iload_n X dX11_touch_11 rfl 2 rfl) ?_
        refine g_if (pcT := 20) (pcF := 15) (w_if_lt (tgt := 20) X dX11_touch_12 (by decide)) (fun h3 => ?_) (fun h3 => ?_)
        · refine g1 (pc' := 22) (w_ldc (v := -1000000002) X dX11_touch_20 mw_376) ?_
          exact g_rI2 X dX11_touch_22
        · refine g1 (pc' := 16) (w_iload_n X dX11_touch_15 rfl 2 rfl) ?_
          refine g1 (pc' := 17) (w_iconst X (1) dX11_touch_16 (by decide)) ?_
          refine g_if (pcT := 23) (pcF := 20) (w_icmp_le (tgt := 23) X dX11_touch_17 (by decide)) (fun h4 => ?_) (fun h4 => ?_)
          · refine g1 (pc' := 24) (w_aload_n X dX11_touch_23 rfl 0 rfl) ?_
            refine g1 (pc' := 27) (gt_11_0 X hk0 mw_323 dX11_touch_24) ?_
            refine g_gd (fun h5 => ?_)
            refine g1 (pc' := 30) (k_X9_stands X hR hN Z h5 mw_540 (by decide) (Nat.le_of_ble_eq_true rfl) dX11_touch_27) ?_
            refine g_if (pcT := 33) (pcF := 36) (w_if_ne (tgt := 36) X dX11_touch_30 (by decide)) (fun h6 => ?_) (fun h6 => ?_)
            · refine g1 (pc' := 35) (w_ldc (v := -1000000003) X dX11_touch_33 mw_541) ?_
              exact g_rI2 X dX11_touch_35
            · refine g1 (pc' := 37) (w_aload_n X dX11_touch_36 rfl 0 rfl) ?_
              refine g1 (pc' := 40) (gt_11_9 X hk0 mw_332 dX11_touch_37) ?_
              refine g1 (pc' := 41) (w_aload_n X dX11_touch_40 rfl 0 rfl) ?_
              refine g1 (pc' := 44) (gt_11_0 X hk0 mw_323 dX11_touch_41) ?_
              refine g_gd (fun h7 => ?_)
              refine g1 (pc' := 45) (w_aload_n X dX11_touch_44 rfl 0 rfl) ?_
              refine g1 (pc' := 48) (gt_11_8 X hk0 mw_331 dX11_touch_45) ?_
              refine g1 (pc' := 49) (w_iload_n X dX11_touch_48 rfl 1 rfl) ?_
              refine g_bd (pc' := 52) (fun r8 => [(0, .ref (xb x + o0)), (1, .int x1), (2, .int x2)]) (fun r8 => []) (fun r8 => r8) (fun r8 h => k_X8_search X hR hN Z kd_111 h7 kd_109 mw_753 (by decide) (Nat.le_of_ble_eq_true rfl) dX11_touch_49 h) (fun r8 => ?_)
              show Gz x 3 52 [(0, .ref (xb x + o0)), (1, .int x1), (2, .int x2)] [] KDF r8 _ _
              refine g1 (pc' := 53) (w_iload_n X dX11_touch_52 rfl 2 rfl) ?_
              refine g_if (pcT := 56) (pcF := 66) (w_if_ne (tgt := 66) X dX11_touch_53 (by decide)) (fun h9 => ?_) (fun h9 => ?_)
              · refine g1 (pc' := 57) (w_aload_n X dX11_touch_56 rfl 0 rfl) ?_
                refine g1 (pc' := 60) (gt_11_9 X hk0 mw_332 dX11_touch_57) ?_
                refine g1 (pc' := 63) (gt_8_0 X kd_111 mw_267 dX11_touch_60) ?_
                refine g1 (pc' := 73) (w_goto X dX11_touch_63 (by decide)) ?_
                exact g_rI2 X dX11_touch_73
              · refine g1 (pc' := 67) (w_aload_n X dX11_touch_66 rfl 0 rfl) ?_
                refine g1 (pc' := 70) (gt_11_9 X hk0 mw_332 dX11_touch_67) ?_
                refine g1 (pc' := 73) (gt_8_1 X kd_111 mw_269 dX11_touch_70) ?_
                exact g_rI2 X dX11_touch_73
          · refine g1 (pc' := 22) (w_ldc (v := -1000000002) X dX11_touch_20 mw_376) ?_
            exact g_rI2 X dX11_touch_22
  exact G _ h _ rfl
theorem k_X11_touch {x : Cxt} {cc : ByteArray} {nL : Nat} {own : String} {ret : Option FieldType} (X : Ok x cc nL own ret) {d : Nat} (hR : Rm x d KDF) (hN : Nst x) (Z : xz x = 0) {pc : Nat} {lv : List (Nat × Value)} {rest : List Value} {M : Mm} {o0 : Nat} {x1 : Int32} {x2 : Int32} (hk0 : KDF[o0]? = some (11, 0)) {idx : Nat} (hw : Cond.methodLink own idx yX11_touch ∈ tbG) (hdd : 26 + 1 ≤ d) (hrm : (rest.map fun v => v.category).sum ≤ 8) (hd : decode cc pc = .ok (.invokevirtual idx, 3)) {r : Int32} {M' : Mm} (h : f_X11_touch o0 x1 x2 M = some (r, M')) : StpZ x nL pc lv (.int x2 :: .int x1 :: .ref (xb x + o0) :: rest) KDF M (pc + 3) lv (.int r :: rest) KDF M' :=
  w_callV (st := []) (As := [.int x1, .int x2]) X hR hN (CtX0 Z (c_X11_touch hk0 h)) ⟨Nat.le_refl _, Nat.le_refl _⟩ ⟨Nat.le_refl _, Nat.le_refl _⟩ hk0 (ci := 11) (fs := fs_11 o0) (fun _ _ _ => rfl) rfl hw mw_750 mw_751 mw_61 mw_752 (n := 2) (by decide +kernel) rfl hdd (by decide) hrm hd
