def HrcT (rc : Nat → Int32 → Int32 → Int32 → Mm → Option Mm) (dg : Nat) : Prop := ∀ (l : Launch) (D : va_G) (an : An) (b : Nat) (o0 : Nat) (x1 x2 x3 : Int32) (M M' : Mm), KDF[o0]? = some (8, 0) → rc o0 x1 x2 x3 M = some M' → Ct l D an b 0 yX8_goOn cX8_goOn 7 none dg [.ref (b + o0), .int x1, .int x2, .int x3] KDF M none KDF M'
theorem k0_X8_goOn {x : Cxt} {cc : ByteArray} {nL : Nat} {own : String} {ret : Option FieldType} (X : Ok x cc nL own ret) {d : Nat} (hR : Rm x d KDF) (hN : Nst x) (Z : xz x = 0) {pc : Nat} {lv : List (Nat × Value)} {rest : List Value} {M : Mm} {o0 : Nat} {x1 : Int32} {x2 : Int32} {x3 : Int32} (hk0 : KDF[o0]? = some (8, 0)) {idx : Nat} (hw : Cond.methodLink own idx yX8_goOn ∈ tbG) {dg : Nat} (hdd : dg + 1 ≤ d) (hrm : (rest.map fun v => v.category).sum ≤ 8) (hd : decode cc pc = .ok (.invokevirtual idx, 3)) {M' : Mm} {rc : Nat → Int32 → Int32 → Int32 → Mm → Option Mm} (Hrc : HrcT rc dg) (h : rc o0 x1 x2 x3 M = some M') : StpZ x nL pc lv (.int x3 :: .int x2 :: .int x1 :: .ref (xb x + o0) :: rest) KDF M (pc + 3) lv (rest) KDF M' :=
  w_callV (st := []) (As := [.int x1, .int x2, .int x3]) X hR hN (CtX0 Z (Hrc _ _ _ _ o0 x1 x2 x3 M M' hk0 h)) ⟨Nat.le_refl _, Nat.le_refl _⟩ ⟨Nat.le_refl _, Nat.le_refl _⟩ hk0 (ci := 8) (fs := fs_8 o0) (fun _ _ _ => rfl) rfl hw mw_780 mw_19 mw_72 mw_781 (n := 3) (by decide +kernel) rfl hdd (by decide) hrm hd
def f_X8_endLeadQ (rc : Nat → Int32 → Int32 → Int32 → Mm → Option Mm) (o0 : Nat) (x1 : Int32) (x2 : Int32) (x3 : Int32) (M : Mm) : Option (Mm) :=
  (if (M o0 4) ≤ (x2 + (1 : Int32)) then (if x1 = (M o0 5) then Lt (((if (M o0 0) = 0 then x3 else (if x3 < (M o0 1) then x3 else (M o0 1)))) : Int32) (fun j3 => Lt (st2 M o0 1 j3) (fun M5 => Lt (st2 M5 o0 0 ((M5 o0 0) + (1 : Int32))) (fun M6 => some M6))) else some M) else Bd (rc o0 x1 (x2 + (1 : Int32)) x3 M) (fun r7 => some r7))

set_option maxRecDepth 100000 in
set_option maxHeartbeats 4000000 in
theorem c_X8_endLeadQ {rc : Nat → Int32 → Int32 → Int32 → Mm → Option Mm} {dg : Nat} (Hrc : HrcT rc dg) (hdg : 6 ≤ dg) {l : Launch} {D : va_G} {an : An} {b : Nat} {o0 : Nat} {x1 : Int32} {x2 : Int32} {x3 : Int32} (hk0 : KDF[o0]? = some (8, 0)) {M : Mm} {M' : Mm} (h : f_X8_endLeadQ rc o0 x1 x2 x3 M = some M') : Ct l D an b 0 yX8_endLead cX8_endLead 4 none (dg + 1) [.ref (b + o0), .int x1, .int x2, .int x3] KDF M none KDF M' := by
  refine CtX.mk (as := fun b => [.ref (b + o0), .int x1, .int x2, .int x3]) (rv := fun b => none) (by decide) (fun b => Nat.le_of_ble_eq_true rfl) ⟨Nat.le_refl _, Nat.le_refl _⟩ (fun x X hR Z hN _ _ => ?_)
  have X : Ok x cX8_endLead 4 RX8 none := X
  have G : Gz x 4 0 [(0, .ref (xb x + o0)), (1, .int x1), (2, .int x2), (3, .int x3)] [] KDF M (f_X8_endLeadQ rc o0 x1 x2 x3 M) (PsM x KDF) := by
    unfold f_X8_endLeadQ
    refine g1 (pc' := 1) (w_iload_n X dX8_endLead_0 rfl 2 rfl) ?_
    refine g1 (pc' := 2) (w_iconst X (1) dX8_endLead_1 (by decide)) ?_
    refine g1 (pc' := 3) (w_iadd X dX8_endLead_2) ?_
    refine g1 (pc' := 4) (w_aload_n X dX8_endLead_3 rfl 0 rfl) ?_
    refine g1 (pc' := 7) (gt_8_4 X hk0 mw_278 dX8_endLead_4) ?_
    refine g_if (pcT := 22) (pcF := 10) (w_icmp_ge (tgt := 22) X dX8_endLead_7 (by decide)) (fun h1 => ?_) (fun h1 => ?_)
    · refine g1 (pc' := 23) (w_iload_n X dX8_endLead_22 rfl 1 rfl) ?_
      refine g1 (pc' := 24) (w_aload_n X dX8_endLead_23 rfl 0 rfl) ?_
      refine g1 (pc' := 27) (gt_8_5 X hk0 mw_279 dX8_endLead_24) ?_
      refine g_if (pcT := 30) (pcF := 63) (w_icmp_ne (tgt := 63) X dX8_endLead_27 (by decide)) (fun h2 => ?_) (fun h2 => ?_)
      · refine g1 (pc' := 31) (w_aload_n X dX8_endLead_30 rfl 0 rfl) ?_
        refine g1 (pc' := 32) (w_aload_n X dX8_endLead_31 rfl 0 rfl) ?_
        refine g1 (pc' := 35) (gt_8_0 X hk0 mw_272 dX8_endLead_32) ?_
        refine g_ltJ (J := 50) (fun j3 => [(0, .ref (xb x + o0))]) (fun j3 => [.int j3, .ref (xb x + o0)]) (fun j3 => M) ?_ (fun j3 => ?_)
        · refine g_ifS (pcT := 38) (pcF := 42) (w_if_ne (tgt := 42) X dX8_endLead_35 (by decide)) (fun h4 => ?_) (fun h4 => ?_)
          · refine g1 (pc' := 39) (w_iload_n X dX8_endLead_38 rfl 3 rfl) ?_
            refine g1 (pc' := 50) (w_goto X dX8_endLead_39 (by decide)) ?_
            exact g_end [0] rfl rfl rfl
          · refine g1 (pc' := 43) (w_aload_n X dX8_endLead_42 rfl 0 rfl) ?_
            refine g1 (pc' := 46) (gt_8_1 X hk0 mw_274 dX8_endLead_43) ?_
            refine g1 (pc' := 47) (w_iload_n X dX8_endLead_46 rfl 3 rfl) ?_
            refine g1 (pc' := 50) (w_mmin X hR mw_775 mw_635 mw_80 mw_636 (by omega) (Nat.le_of_ble_eq_true rfl) ⟨Nat.le_refl _, Nat.le_refl _⟩ dX8_endLead_47) ?_
            exact g_end [0] rfl rfl rfl
        · show Gz x 4 50 [(0, .ref (xb x + o0))] [.int j3, .ref (xb x + o0)] KDF M _ _
          refine g_lt (pc' := 53) (fun M5 => [(0, .ref (xb x + o0))]) (fun M5 => []) (fun M5 => M5) (pt_8_1 X Z hk0 mw_274 dX8_endLead_50) (fun M5 => ?_)
          show Gz x 4 53 [(0, .ref (xb x + o0))] [] KDF M5 _ _
          refine g1 (pc' := 54) (w_aload_n X dX8_endLead_53 rfl 0 rfl) ?_
          refine g1 (pc' := 55) (w_dup X dX8_endLead_54 rfl) ?_
          refine g1 (pc' := 58) (gt_8_0 X hk0 mw_272 dX8_endLead_55) ?_
          refine g1 (pc' := 59) (w_iconst X (1) dX8_endLead_58 (by decide)) ?_
          refine g1 (pc' := 60) (w_iadd X dX8_endLead_59) ?_
          refine g_lt (pc' := 63) (fun M6 => [(0, .ref (xb x + o0))]) (fun M6 => []) (fun M6 => M6) (pt_8_0 X Z hk0 mw_272 dX8_endLead_60) (fun M6 => ?_)
          show Gz x 4 63 [(0, .ref (xb x + o0))] [] KDF M6 _ _
          exact g_rM X dX8_endLead_63
      · exact g_rM X dX8_endLead_63
    · refine g1 (pc' := 11) (w_aload_n X dX8_endLead_10 rfl 0 rfl) ?_
      refine g1 (pc' := 12) (w_iload_n X dX8_endLead_11 rfl 1 rfl) ?_
      refine g1 (pc' := 13) (w_iload_n X dX8_endLead_12 rfl 2 rfl) ?_
      refine g1 (pc' := 14) (w_iconst X (1) dX8_endLead_13 (by decide)) ?_
      refine g1 (pc' := 15) (w_iadd X dX8_endLead_14) ?_
      refine g1 (pc' := 16) (w_iload_n X dX8_endLead_15 rfl 3 rfl) ?_
      refine g_bd (pc' := 19) (fun r7 => [(0, .ref (xb x + o0)), (1, .int x1), (2, .int x2), (3, .int x3)]) (fun r7 => []) (fun r7 => r7) (fun r7 h => k0_X8_goOn X hR hN Z hk0 mw_778 (Nat.le_refl _) (Nat.le_of_ble_eq_true rfl) dX8_endLead_16 Hrc h) (fun r7 => ?_)
      show Gz x 4 19 [(0, .ref (xb x + o0)), (1, .int x1), (2, .int x2), (3, .int x3)] [] KDF r7 _ _
      refine g1 (pc' := 63) (w_goto X dX8_endLead_19 (by decide)) ?_
      exact g_rM X dX8_endLead_63
  exact G _ h _ rfl

theorem k_X8_endLeadQ {x : Cxt} {cc : ByteArray} {nL : Nat} {own : String} {ret : Option FieldType} (X : Ok x cc nL own ret) {d : Nat} (hR : Rm x d KDF) (hN : Nst x) (Z : xz x = 0) {pc : Nat} {lv : List (Nat × Value)} {rest : List Value} {M : Mm} {o0 : Nat} {x1 : Int32} {x2 : Int32} {x3 : Int32} (hk0 : KDF[o0]? = some (8, 0)) {idx : Nat} (hw : Cond.methodLink own idx yX8_endLead ∈ tbG) {dg : Nat} (hdg : 6 ≤ dg) (hdd : dg + 1 + 1 ≤ d) (hrm : (rest.map fun v => v.category).sum ≤ 8) (hd : decode cc pc = .ok (.invokevirtual idx, 3)) {M' : Mm} {rc : Nat → Int32 → Int32 → Int32 → Mm → Option Mm} (Hrc : HrcT rc dg) (h : f_X8_endLeadQ rc o0 x1 x2 x3 M = some M') : StpZ x nL pc lv (.int x3 :: .int x2 :: .int x1 :: .ref (xb x + o0) :: rest) KDF M (pc + 3) lv (rest) KDF M' :=
  w_callV (st := []) (As := [.int x1, .int x2, .int x3]) X hR hN (CtX0 Z (c_X8_endLeadQ Hrc hdg hk0 h)) ⟨Nat.le_refl _, Nat.le_refl _⟩ ⟨Nat.le_refl _, Nat.le_refl _⟩ hk0 (ci := 8) (fs := fs_8 o0) (fun _ _ _ => rfl) rfl hw mw_787 mw_20 mw_72 mw_788 (n := 3) (by decide +kernel) rfl hdd (by decide) hrm hd
def b_X8_goOn_17 (o0 : Nat) (s17 : Int32 × Int32 × Int32 × Mm) : Option ((Int32 × Int32 × Int32 × Mm) ⊕ (Int32 × Int32 × Int32 × Mm)) :=
  (if s17.2.2.1 = 0 then some (.inr (s17.1, s17.2.1, s17.2.2.1, s17.2.2.2)) else Gd (KDF[(s17.2.2.2 o0 3).toNatClampNeg]? = some (9, 0)) ((if (s17.2.2.2 (s17.2.2.2 o0 3).toNatClampNeg 1) ≤ (s17.2.1 + (1 : Int32)) then some (.inr (s17.1, s17.2.1, s17.2.2.1, s17.2.2.2)) else Gd (KDF[(s17.2.2.2 o0 3).toNatClampNeg]? = some (9, 0)) (Bd (f_X9_changeAt (s17.2.2.2 o0 3).toNatClampNeg s17.2.1 s17.2.2.2) (fun r6 => Gd (KDF[r6]? = some (0, 0)) (Lt (f_X0_next r6 s17.1 s17.2.2.2) (fun v8 => Lt (s17.2.1 + (1 : Int32)) (fun v9 => Bd (f_X6_add 109 v8 s17.2.2.2) (fun r10 => some (.inl (v8, v9, r10.1, r10.2)))))))))))
def f_X8_goOnQ (rc : Nat → Int32 → Int32 → Int32 → Mm → Option Mm) (o0 : Nat) (x1 : Int32) (x2 : Int32) (x3 : Int32) (M : Mm) : Option (Mm) :=
  Bd (f_X6_add 109 x1 M) (fun r1 => Bd (Lp (b_X8_goOn_17 o0) 100000 (x1, (0 : Int32), r1.1, r1.2)) (fun e11 => Bd (((if e11.2.2.1 = 0 then some (e11.2.1, e11.2.2.2) else Gd (KDF[(e11.2.2.2 o0 3).toNatClampNeg]? = some (9, 0)) (Gd (KDF[(e11.2.2.2 o0 3).toNatClampNeg]? = some (9, 0)) (Bd (f_X9_changeAt (e11.2.2.2 o0 3).toNatClampNeg ((e11.2.2.2 (e11.2.2.2 o0 3).toNatClampNeg 1) - (1 : Int32)) e11.2.2.2) (fun r17 => Gd (KDF[r17]? = some (0, 0)) (Bd (f_X8_endLeadQ rc o0 (f_X0_next r17 e11.1 e11.2.2.2) x2 x3 e11.2.2.2) (fun r19 => Gd (KDF[(r19 o0 3).toNatClampNeg]? = some (9, 0)) (Bd (f_X8_endLeadQ rc o0 (f_X0_next ((r19 o0 3).toNatClampNeg + 1) e11.1 r19) x2 (x3 ||| (sl (1 : Int32) x2)) r19) (fun r21 => Lt (e11.2.1 + (1 : Int32)) (fun v22 => some (v22, r21))))))))))) : Option (Int32 × Mm)) (fun j13 => Bd (f_X8_leave o0 x1 j13.1 j13.2) (fun r23 => some r23))))

set_option maxRecDepth 100000 in
set_option maxHeartbeats 4000000 in
theorem c_X8_goOnQ {rc : Nat → Int32 → Int32 → Int32 → Mm → Option Mm} {dg : Nat} (Hrc : HrcT rc dg) (hdg : 6 ≤ dg) {l : Launch} {D : va_G} {an : An} {b : Nat} {o0 : Nat} {x1 : Int32} {x2 : Int32} {x3 : Int32} (hk0 : KDF[o0]? = some (8, 0)) {M : Mm} {M' : Mm} (h : f_X8_goOnQ rc o0 x1 x2 x3 M = some M') : Ct l D an b 0 yX8_goOn cX8_goOn 7 none (dg + 2) [.ref (b + o0), .int x1, .int x2, .int x3] KDF M none KDF M' := by
  refine CtX.mk (as := fun b => [.ref (b + o0), .int x1, .int x2, .int x3]) (rv := fun b => none) (by decide) (fun b => Nat.le_of_ble_eq_true rfl) ⟨Nat.le_refl _, Nat.le_refl _⟩ (fun x X hR Z hN _ _ => ?_)
  have X : Ok x cX8_goOn 7 RX8 none := X
  have G : Gz x 7 0 [(0, .ref (xb x + o0)), (1, .int x1), (2, .int x2), (3, .int x3)] [] KDF M (f_X8_goOnQ rc o0 x1 x2 x3 M) (PsM x KDF) := by
    unfold f_X8_goOnQ
    refine g1 (pc' := 1) (w_iload_n X dX8_goOn_0 rfl 1 rfl) ?_
    refine g1 (pc' := 3) (lv' := [(4, .int x1), (0, .ref (xb x + o0)), (1, .int x1), (2, .int x2), (3, .int x3)]) (w_istore X dX8_goOn_1 (by decide) rfl) ?_
    refine g1 (pc' := 4) (w_iconst X (0) dX8_goOn_3 (by decide)) ?_
    refine g1 (pc' := 6) (lv' := [(5, .int (0 : Int32)), (4, .int x1), (0, .ref (xb x + o0)), (1, .int x1), (2, .int x2), (3, .int x3)]) (w_istore X dX8_goOn_4 (by decide) rfl) ?_
    refine g1 (pc' := 7) (w_aload_n X dX8_goOn_6 rfl 2 rfl) ?_
    refine g1 (pc' := 10) (gt_8_2 X hk0 mw_276 dX8_goOn_7) ?_
    refine g1 (pc' := 12) (w_iload X dX8_goOn_10 1 rfl) ?_
    refine g_bd (pc' := 15) (fun r1 => [(5, .int (0 : Int32)), (4, .int x1), (0, .ref (xb x + o0)), (1, .int x1), (2, .int x2), (3, .int x3)]) (fun r1 => [.int r1.1]) (fun r1 => r1.2) (fun r1 h => k_X6_add X hR hN Z kd_109 mw_782 (by omega) (Nat.le_of_ble_eq_true rfl) dX8_goOn_12 h) (fun r1 => ?_)
    show Gz x 7 15 [(5, .int (0 : Int32)), (4, .int x1), (0, .ref (xb x + o0)), (1, .int x1), (2, .int x2), (3, .int x3)] [.int r1.1] KDF r1.2 _ _
    refine g1 (pc' := 17) (lv' := [(6, .int r1.1), (5, .int (0 : Int32)), (4, .int x1), (0, .ref (xb x + o0)), (1, .int x1), (2, .int x2), (3, .int x3)]) (w_istore X dX8_goOn_15 (by decide) rfl) ?_
    refine g_pick (lv' := [(0, .ref (xb x + o0)), (1, .int x1), (2, .int x2), (3, .int x3), (4, .int x1), (5, .int (0 : Int32)), (6, .int r1.1)]) [3, 4, 5, 6, 2, 1, 0] rfl ?_
    refine g_bdJ (J := 69) (fun e11 => [(0, .ref (xb x + o0)), (1, .int x1), (2, .int x2), (3, .int x3), (4, .int e11.1), (5, .int e11.2.1), (6, .int e11.2.2.1)]) (fun e11 => []) (fun e11 => e11.2.2.2) (g_lp (fun s17 => [(0, .ref (xb x + o0)), (1, .int x1), (2, .int x2), (3, .int x3), (4, .int s17.1), (5, .int s17.2.1), (6, .int s17.2.2.1)]) (fun s17 => s17.2.2.2) (fun s17 => ?_) 100000 (x1, (0 : Int32), r1.1, r1.2)) (fun e11 => ?_)
    · show Gz x 7 17 [(0, .ref (xb x + o0)), (1, .int x1), (2, .int x2), (3, .int x3), (4, .int s17.1), (5, .int s17.2.1), (6, .int s17.2.2.1)] [] KDF s17.2.2.2 (b_X8_goOn_17 o0 s17) _
      unfold b_X8_goOn_17
      refine g1 (pc' := 19) (w_iload X dX8_goOn_17 6 rfl) ?_
      refine g_if (pcT := 69) (pcF := 22) (w_if_eq (tgt := 69) X dX8_goOn_19 (by decide)) (fun h2 => ?_) (fun h2 => ?_)
      · refine g_inr ?_
        exact g_end [0, 1, 2, 3, 4, 5, 6] rfl rfl rfl
      · refine g1 (pc' := 24) (w_iload X dX8_goOn_22 5 rfl) ?_
        refine g1 (pc' := 25) (w_iconst X (1) dX8_goOn_24 (by decide)) ?_
        refine g1 (pc' := 26) (w_iadd X dX8_goOn_25) ?_
        refine g1 (pc' := 27) (w_aload_n X dX8_goOn_26 rfl 0 rfl) ?_
        refine g1 (pc' := 30) (gt_8_3 X hk0 mw_277 dX8_goOn_27) ?_
        refine g_gd (fun h3 => ?_)
        refine g1 (pc' := 33) (gt_9_1 X h3 mw_121 dX8_goOn_30) ?_
        refine g_if (pcT := 69) (pcF := 36) (w_icmp_ge (tgt := 69) X dX8_goOn_33 (by decide)) (fun h4 => ?_) (fun h4 => ?_)
        · refine g_inr ?_
          exact g_end [0, 1, 2, 3, 4, 5, 6] rfl rfl rfl
        · refine g1 (pc' := 37) (w_aload_n X dX8_goOn_36 rfl 0 rfl) ?_
          refine g1 (pc' := 40) (gt_8_3 X hk0 mw_277 dX8_goOn_37) ?_
          refine g_gd (fun h5 => ?_)
          refine g1 (pc' := 42) (w_iload X dX8_goOn_40 5 rfl) ?_
          refine g_bd (pc' := 45) (fun r6 => [(0, .ref (xb x + o0)), (1, .int x1), (2, .int x2), (3, .int x3), (4, .int s17.1), (5, .int s17.2.1), (6, .int s17.2.2.1)]) (fun r6 => [.ref (xb x + r6)]) (fun r6 => s17.2.2.2) (fun r6 h => k_X9_changeAt X hR hN Z h5 mw_783 (by omega) (Nat.le_of_ble_eq_true rfl) dX8_goOn_42 h) (fun r6 => ?_)
          show Gz x 7 45 [(0, .ref (xb x + o0)), (1, .int x1), (2, .int x2), (3, .int x3), (4, .int s17.1), (5, .int s17.2.1), (6, .int s17.2.2.1)] [.ref (xb x + r6)] KDF s17.2.2.2 _ _
          refine g_gd (fun h7 => ?_)
          refine g1 (pc' := 47) (w_iload X dX8_goOn_45 4 rfl) ?_
          refine g1 (pc' := 50) (k_X0_next X hR hN Z h7 mw_784 (by omega) (Nat.le_of_ble_eq_true rfl) dX8_goOn_47) ?_
          refine g_lt (pc' := 52) (fun v8 => [(4, .int v8), (0, .ref (xb x + o0)), (1, .int x1), (2, .int x2), (3, .int x3), (5, .int s17.2.1), (6, .int s17.2.2.1)]) (fun v8 => []) (fun v8 => s17.2.2.2) (w_istore X dX8_goOn_50 (by decide) rfl) (fun v8 => ?_)
          show Gz x 7 52 [(4, .int v8), (0, .ref (xb x + o0)), (1, .int x1), (2, .int x2), (3, .int x3), (5, .int s17.2.1), (6, .int s17.2.2.1)] [] KDF s17.2.2.2 _ _
          refine g_lt (pc' := 55) (fun v9 => [(5, .int v9), (4, .int v8), (0, .ref (xb x + o0)), (1, .int x1), (2, .int x2), (3, .int x3), (6, .int s17.2.2.1)]) (fun v9 => []) (fun v9 => s17.2.2.2) (w_iinc X dX8_goOn_52 5 rfl rfl (by decide) rfl) (fun v9 => ?_)
          show Gz x 7 55 [(5, .int v9), (4, .int v8), (0, .ref (xb x + o0)), (1, .int x1), (2, .int x2), (3, .int x3), (6, .int s17.2.2.1)] [] KDF s17.2.2.2 _ _
          refine g1 (pc' := 56) (w_aload_n X dX8_goOn_55 rfl 2 rfl) ?_
          refine g1 (pc' := 59) (gt_8_2 X hk0 mw_276 dX8_goOn_56) ?_
          refine g1 (pc' := 61) (w_iload X dX8_goOn_59 1 rfl) ?_
          refine g_bd (pc' := 64) (fun r10 => [(5, .int v9), (4, .int v8), (0, .ref (xb x + o0)), (1, .int x1), (2, .int x2), (3, .int x3), (6, .int s17.2.2.1)]) (fun r10 => [.int r10.1]) (fun r10 => r10.2) (fun r10 h => k_X6_add X hR hN Z kd_109 mw_782 (by omega) (Nat.le_of_ble_eq_true rfl) dX8_goOn_61 h) (fun r10 => ?_)
          show Gz x 7 64 [(5, .int v9), (4, .int v8), (0, .ref (xb x + o0)), (1, .int x1), (2, .int x2), (3, .int x3), (6, .int s17.2.2.1)] [.int r10.1] KDF r10.2 _ _
          refine g1 (pc' := 66) (lv' := [(6, .int r10.1), (5, .int v9), (4, .int v8), (0, .ref (xb x + o0)), (1, .int x1), (2, .int x2), (3, .int x3)]) (w_istore X dX8_goOn_64 (by decide) rfl) ?_
          refine g1 (pc' := 17) (w_goto X dX8_goOn_66 (by decide)) ?_
          refine g_inl ?_
          exact g_end [3, 4, 5, 6, 2, 1, 0] rfl rfl rfl
    · show Gz x 7 69 [(0, .ref (xb x + o0)), (1, .int x1), (2, .int x2), (3, .int x3), (4, .int e11.1), (5, .int e11.2.1), (6, .int e11.2.2.1)] [] KDF e11.2.2.2 _ _
      refine g1 (pc' := 71) (w_iload X dX8_goOn_69 6 rfl) ?_
      refine g_bdJ (J := 126) (fun j13 => [(0, .ref (xb x + o0)), (1, .int x1), (5, .int j13.1)]) (fun j13 => []) (fun j13 => j13.2) ?_ (fun j13 => ?_)
      · refine g_if (pcT := 126) (pcF := 74) (w_if_eq (tgt := 126) X dX8_goOn_71 (by decide)) (fun h14 => ?_) (fun h14 => ?_)
        · exact g_end [0, 1, 5] rfl rfl rfl
        · refine g1 (pc' := 75) (w_aload_n X dX8_goOn_74 rfl 0 rfl) ?_
          refine g1 (pc' := 76) (w_aload_n X dX8_goOn_75 rfl 0 rfl) ?_
          refine g1 (pc' := 79) (gt_8_3 X hk0 mw_277 dX8_goOn_76) ?_
          refine g_gd (fun h15 => ?_)
          refine g1 (pc' := 80) (w_aload_n X dX8_goOn_79 rfl 0 rfl) ?_
          refine g1 (pc' := 83) (gt_8_3 X hk0 mw_277 dX8_goOn_80) ?_
          refine g_gd (fun h16 => ?_)
          refine g1 (pc' := 86) (gt_9_1 X h16 mw_121 dX8_goOn_83) ?_
          refine g1 (pc' := 87) (w_iconst X (1) dX8_goOn_86 (by decide)) ?_
          refine g1 (pc' := 88) (w_isub X dX8_goOn_87) ?_
          refine g_bd (pc' := 91) (fun r17 => [(0, .ref (xb x + o0)), (1, .int x1), (2, .int x2), (3, .int x3), (4, .int e11.1), (5, .int e11.2.1), (6, .int e11.2.2.1)]) (fun r17 => [.ref (xb x + r17), .ref (xb x + o0)]) (fun r17 => e11.2.2.2) (fun r17 h => k_X9_changeAt X hR hN Z h15 mw_783 (by omega) (Nat.le_of_ble_eq_true rfl) dX8_goOn_88 h) (fun r17 => ?_)
          show Gz x 7 91 [(0, .ref (xb x + o0)), (1, .int x1), (2, .int x2), (3, .int x3), (4, .int e11.1), (5, .int e11.2.1), (6, .int e11.2.2.1)] [.ref (xb x + r17), .ref (xb x + o0)] KDF e11.2.2.2 _ _
          refine g_gd (fun h18 => ?_)
          refine g1 (pc' := 93) (w_iload X dX8_goOn_91 4 rfl) ?_
          refine g1 (pc' := 96) (k_X0_next X hR hN Z h18 mw_784 (by omega) (Nat.le_of_ble_eq_true rfl) dX8_goOn_93) ?_
          refine g1 (pc' := 97) (w_iload_n X dX8_goOn_96 rfl 2 rfl) ?_
          refine g1 (pc' := 98) (w_iload_n X dX8_goOn_97 rfl 3 rfl) ?_
          refine g_bd (pc' := 101) (fun r19 => [(0, .ref (xb x + o0)), (1, .int x1), (2, .int x2), (3, .int x3), (4, .int e11.1), (5, .int e11.2.1), (6, .int e11.2.2.1)]) (fun r19 => []) (fun r19 => r19) (fun r19 h => k_X8_endLeadQ X hR hN Z hk0 mw_785 hdg (by omega) (Nat.le_of_ble_eq_true rfl) dX8_goOn_98 Hrc h) (fun r19 => ?_)
          show Gz x 7 101 [(0, .ref (xb x + o0)), (1, .int x1), (2, .int x2), (3, .int x3), (4, .int e11.1), (5, .int e11.2.1), (6, .int e11.2.2.1)] [] KDF r19 _ _
          refine g1 (pc' := 102) (w_aload_n X dX8_goOn_101 rfl 0 rfl) ?_
          refine g1 (pc' := 103) (w_aload_n X dX8_goOn_102 rfl 0 rfl) ?_
          refine g1 (pc' := 106) (gt_8_3 X hk0 mw_277 dX8_goOn_103) ?_
          refine g_gd (fun h20 => ?_)
          refine g1 (pc' := 109) (gt_9_4 X h20 mw_133 dX8_goOn_106) ?_
          refine g1 (pc' := 111) (w_iload X dX8_goOn_109 4 rfl) ?_
          refine g1 (pc' := 114) (k_X0_next X hR hN Z (kd_To1 h20) mw_784 (by omega) (Nat.le_of_ble_eq_true rfl) dX8_goOn_111) ?_
          refine g1 (pc' := 115) (w_iload_n X dX8_goOn_114 rfl 2 rfl) ?_
          refine g1 (pc' := 116) (w_iload_n X dX8_goOn_115 rfl 3 rfl) ?_
          refine g1 (pc' := 117) (w_iconst X (1) dX8_goOn_116 (by decide)) ?_
          refine g1 (pc' := 118) (w_iload_n X dX8_goOn_117 rfl 2 rfl) ?_
          refine g1 (pc' := 119) (w_ishl X dX8_goOn_118) ?_
          refine g1 (pc' := 120) (w_ior X dX8_goOn_119) ?_
          refine g_bd (pc' := 123) (fun r21 => [(0, .ref (xb x + o0)), (1, .int x1), (2, .int x2), (3, .int x3), (4, .int e11.1), (5, .int e11.2.1), (6, .int e11.2.2.1)]) (fun r21 => []) (fun r21 => r21) (fun r21 h => k_X8_endLeadQ X hR hN Z hk0 mw_785 hdg (by omega) (Nat.le_of_ble_eq_true rfl) dX8_goOn_120 Hrc h) (fun r21 => ?_)
          show Gz x 7 123 [(0, .ref (xb x + o0)), (1, .int x1), (2, .int x2), (3, .int x3), (4, .int e11.1), (5, .int e11.2.1), (6, .int e11.2.2.1)] [] KDF r21 _ _
          refine g_lt (pc' := 126) (fun v22 => [(5, .int v22), (0, .ref (xb x + o0)), (1, .int x1), (2, .int x2), (3, .int x3), (4, .int e11.1), (6, .int e11.2.2.1)]) (fun v22 => []) (fun v22 => r21) (w_iinc X dX8_goOn_123 5 rfl rfl (by decide) rfl) (fun v22 => ?_)
          show Gz x 7 126 [(5, .int v22), (0, .ref (xb x + o0)), (1, .int x1), (2, .int x2), (3, .int x3), (4, .int e11.1), (6, .int e11.2.2.1)] [] KDF r21 _ _
          exact g_end [1, 2, 0] rfl rfl rfl
      · show Gz x 7 126 [(0, .ref (xb x + o0)), (1, .int x1), (5, .int j13.1)] [] KDF j13.2 _ _
        refine g1 (pc' := 127) (w_aload_n X dX8_goOn_126 rfl 0 rfl) ?_
        refine g1 (pc' := 128) (w_iload_n X dX8_goOn_127 rfl 1 rfl) ?_
        refine g1 (pc' := 130) (w_iload X dX8_goOn_128 2 rfl) ?_
        refine g_bd (pc' := 133) (fun r23 => [(0, .ref (xb x + o0)), (1, .int x1), (5, .int j13.1)]) (fun r23 => []) (fun r23 => r23) (fun r23 h => k_X8_leave X hR hN Z hk0 mw_789 (by omega) (Nat.le_of_ble_eq_true rfl) dX8_goOn_130 h) (fun r23 => ?_)
        show Gz x 7 133 [(0, .ref (xb x + o0)), (1, .int x1), (5, .int j13.1)] [] KDF r23 _ _
        exact g_rM X dX8_goOn_133
  exact G _ h _ rfl

def f_X8_goOn : Nat → Nat → Int32 → Int32 → Int32 → Mm → Option Mm
  | 0 => fun _ _ _ _ _ => none
  | n + 1 => f_X8_goOnQ (f_X8_goOn n)
theorem c_X8_goOnN : ∀ n, HrcT (f_X8_goOn n) (6 + 2 * n)
  | 0 => fun _ _ _ _ _ _ _ _ _ _ _ h => by cases h
  | n + 1 => fun _ _ _ _ _ _ _ _ _ _ hk h => c_X8_goOnQ (c_X8_goOnN n) (by omega) hk h
theorem k_X8_goOn {x : Cxt} {cc : ByteArray} {nL : Nat} {own : String} {ret : Option FieldType} (X : Ok x cc nL own ret) {d : Nat} (hR : Rm x d KDF) (hN : Nst x) (Z : xz x = 0) {pc : Nat} {lv : List (Nat × Value)} {rest : List Value} {M : Mm} {o0 : Nat} {x1 : Int32} {x2 : Int32} {x3 : Int32} (hk0 : KDF[o0]? = some (8, 0)) {idx : Nat} (hw : Cond.methodLink own idx yX8_goOn ∈ tbG) (hdd : 24 + 1 ≤ d) (hrm : (rest.map fun v => v.category).sum ≤ 8) (hd : decode cc pc = .ok (.invokevirtual idx, 3)) {M' : Mm} (h : f_X8_goOn 9 o0 x1 x2 x3 M = some M') : StpZ x nL pc lv (.int x3 :: .int x2 :: .int x1 :: .ref (xb x + o0) :: rest) KDF M (pc + 3) lv (rest) KDF M' :=
  w_callV (st := []) (As := [.int x1, .int x2, .int x3]) X hR hN (CtX0 Z (c_X8_goOnN 9 _ _ _ _ o0 x1 x2 x3 M M' hk0 h)) ⟨Nat.le_refl _, Nat.le_refl _⟩ ⟨Nat.le_refl _, Nat.le_refl _⟩ hk0 (ci := 8) (fs := fs_8 o0) (fun _ _ _ => rfl) rfl hw mw_780 mw_19 mw_72 mw_781 (n := 3) (by decide +kernel) rfl hdd (by decide) hrm hd
def f_X8_search (o0 : Nat) (o1 : Nat) (x2 : Int32) (M : Mm) : Option (Mm) :=
  Lt (st2 M o0 3 (nI o1)) (fun M1 => Lt (st2 M1 o0 4 (if (8 : Int32) < x2 then (8 : Int32) else x2)) (fun M2 => Gd (KDF[(M2 o0 3).toNatClampNeg]? = some (9, 0)) (Bd (f_X5_rounds (M2 (M2 o0 3).toNatClampNeg 0)) (fun r4 => Lt (st2 M2 o0 5 r4) (fun M5 => Lt (st2 M5 o0 0 (0 : Int32)) (fun M6 => Lt (st2 M6 o0 1 (-1 : Int32)) (fun M7 => Bd (f_X6_clear 109 M7) (fun r8 => Bd (f_X8_goOn 9 o0 (r8 o0 5) (0 : Int32) (0 : Int32) r8) (fun r9 => some r9)))))))))
set_option maxRecDepth 100000 in
set_option maxHeartbeats 4000000 in
theorem c_X8_search {l : Launch} {D : va_G} {an : An} {b : Nat} {o0 : Nat} {o1 : Nat} {x2 : Int32} (hk0 : KDF[o0]? = some (8, 0)) (hk1 : KDF[o1]? = some (9, 0)) {M : Mm} {M' : Mm} (h : f_X8_search o0 o1 x2 M = some M') : Ct l D an b 0 yX8_search cX8_search 3 none 25 [.ref (b + o0), .ref (b + o1), .int x2] KDF M none KDF M' := by
  refine CtX.mk (as := fun b => [.ref (b + o0), .ref (b + o1), .int x2]) (rv := fun b => none) (by decide) (fun b => Nat.le_of_ble_eq_true rfl) ⟨Nat.le_refl _, Nat.le_refl _⟩ (fun x X hR Z hN _ _ => ?_)
  have X : Ok x cX8_search 3 RX8 none := X
  have G : Gz x 3 0 [(0, .ref (xb x + o0)), (1, .ref (xb x + o1)), (2, .int x2)] [] KDF M (f_X8_search o0 o1 x2 M) (PsM x KDF) := by
    unfold f_X8_search
    refine g1 (pc' := 1) (w_aload_n X dX8_search_0 rfl 0 rfl) ?_
    refine g1 (pc' := 2) (w_aload_n X dX8_search_1 rfl 1 rfl) ?_
    refine g_lt (pc' := 5) (fun M1 => [(0, .ref (xb x + o0)), (1, .ref (xb x + o1)), (2, .int x2)]) (fun M1 => []) (fun M1 => M1) (pt_8_3 X Z hk0 hk1 mw_277 dX8_search_2) (fun M1 => ?_)
    show Gz x 3 5 [(0, .ref (xb x + o0)), (1, .ref (xb x + o1)), (2, .int x2)] [] KDF M1 _ _
    refine g1 (pc' := 6) (w_aload_n X dX8_search_5 rfl 0 rfl) ?_
    refine g1 (pc' := 7) (w_iload_n X dX8_search_6 rfl 2 rfl) ?_
    refine g1 (pc' := 9) (w_bipush X (8) dX8_search_7 (by decide)) ?_
    refine g1 (pc' := 12) (w_mmin X hR mw_775 mw_635 mw_80 mw_636 (by decide) (Nat.le_of_ble_eq_true rfl) ⟨Nat.le_refl _, Nat.le_refl _⟩ dX8_search_9) ?_
    refine g_lt (pc' := 15) (fun M2 => [(0, .ref (xb x + o0)), (1, .ref (xb x + o1)), (2, .int x2)]) (fun M2 => []) (fun M2 => M2) (pt_8_4 X Z hk0 mw_278 dX8_search_12) (fun M2 => ?_)
    show Gz x 3 15 [(0, .ref (xb x + o0)), (1, .ref (xb x + o1)), (2, .int x2)] [] KDF M2 _ _
    refine g1 (pc' := 16) (w_aload_n X dX8_search_15 rfl 0 rfl) ?_
    refine g1 (pc' := 17) (w_aload_n X dX8_search_16 rfl 0 rfl) ?_
    refine g1 (pc' := 20) (gt_8_3 X hk0 mw_277 dX8_search_17) ?_
    refine g_gd (fun h3 => ?_)
    refine g1 (pc' := 23) (gt_9_0 X h3 mw_115 dX8_search_20) ?_
    refine g_bd (pc' := 26) (fun r4 => [(0, .ref (xb x + o0)), (1, .ref (xb x + o1)), (2, .int x2)]) (fun r4 => [.int r4, .ref (xb x + o0)]) (fun r4 => M2) (fun r4 h => k_X5_rounds X hR hN Z  mw_776 (by decide) (Nat.le_of_ble_eq_true rfl) dX8_search_23 h) (fun r4 => ?_)
    show Gz x 3 26 [(0, .ref (xb x + o0)), (1, .ref (xb x + o1)), (2, .int x2)] [.int r4, .ref (xb x + o0)] KDF M2 _ _
    refine g_lt (pc' := 29) (fun M5 => [(0, .ref (xb x + o0)), (1, .ref (xb x + o1)), (2, .int x2)]) (fun M5 => []) (fun M5 => M5) (pt_8_5 X Z hk0 mw_279 dX8_search_26) (fun M5 => ?_)
    show Gz x 3 29 [(0, .ref (xb x + o0)), (1, .ref (xb x + o1)), (2, .int x2)] [] KDF M5 _ _
    refine g1 (pc' := 30) (w_aload_n X dX8_search_29 rfl 0 rfl) ?_
    refine g1 (pc' := 31) (w_iconst X (0) dX8_search_30 (by decide)) ?_
    refine g_lt (pc' := 34) (fun M6 => [(0, .ref (xb x + o0)), (1, .ref (xb x + o1)), (2, .int x2)]) (fun M6 => []) (fun M6 => M6) (pt_8_0 X Z hk0 mw_272 dX8_search_31) (fun M6 => ?_)
    show Gz x 3 34 [(0, .ref (xb x + o0)), (1, .ref (xb x + o1)), (2, .int x2)] [] KDF M6 _ _
    refine g1 (pc' := 35) (w_aload_n X dX8_search_34 rfl 0 rfl) ?_
    refine g1 (pc' := 36) (w_iconst X (-1) dX8_search_35 (by decide)) ?_
    refine g_lt (pc' := 39) (fun M7 => [(0, .ref (xb x + o0)), (1, .ref (xb x + o1)), (2, .int x2)]) (fun M7 => []) (fun M7 => M7) (pt_8_1 X Z hk0 mw_274 dX8_search_36) (fun M7 => ?_)
    show Gz x 3 39 [(0, .ref (xb x + o0)), (1, .ref (xb x + o1)), (2, .int x2)] [] KDF M7 _ _
    refine g1 (pc' := 40) (w_aload_n X dX8_search_39 rfl 0 rfl) ?_
    refine g1 (pc' := 43) (gt_8_2 X hk0 mw_276 dX8_search_40) ?_
    refine g_bd (pc' := 46) (fun r8 => [(0, .ref (xb x + o0)), (1, .ref (xb x + o1)), (2, .int x2)]) (fun r8 => []) (fun r8 => r8) (fun r8 h => k_X6_clear X hR hN Z kd_109 mw_777 (by decide) (Nat.le_of_ble_eq_true rfl) dX8_search_43 h) (fun r8 => ?_)
    show Gz x 3 46 [(0, .ref (xb x + o0)), (1, .ref (xb x + o1)), (2, .int x2)] [] KDF r8 _ _
    refine g1 (pc' := 47) (w_aload_n X dX8_search_46 rfl 0 rfl) ?_
    refine g1 (pc' := 48) (w_aload_n X dX8_search_47 rfl 0 rfl) ?_
    refine g1 (pc' := 51) (gt_8_5 X hk0 mw_279 dX8_search_48) ?_
    refine g1 (pc' := 52) (w_iconst X (0) dX8_search_51 (by decide)) ?_
    refine g1 (pc' := 53) (w_iconst X (0) dX8_search_52 (by decide)) ?_
    refine g_bd (pc' := 56) (fun r9 => [(0, .ref (xb x + o0)), (1, .ref (xb x + o1)), (2, .int x2)]) (fun r9 => []) (fun r9 => r9) (fun r9 h => k_X8_goOn X hR hN Z hk0 mw_778 (by decide) (Nat.le_of_ble_eq_true rfl) dX8_search_53 h) (fun r9 => ?_)
    show Gz x 3 56 [(0, .ref (xb x + o0)), (1, .ref (xb x + o1)), (2, .int x2)] [] KDF r9 _ _
    exact g_rM X dX8_search_56
  exact G _ h _ rfl
theorem k_X8_search {x : Cxt} {cc : ByteArray} {nL : Nat} {own : String} {ret : Option FieldType} (X : Ok x cc nL own ret) {d : Nat} (hR : Rm x d KDF) (hN : Nst x) (Z : xz x = 0) {pc : Nat} {lv : List (Nat × Value)} {rest : List Value} {M : Mm} {o0 : Nat} {o1 : Nat} {x2 : Int32} (hk0 : KDF[o0]? = some (8, 0)) (hk1 : KDF[o1]? = some (9, 0)) {idx : Nat} (hw : Cond.methodLink own idx yX8_search ∈ tbG) (hdd : 25 + 1 ≤ d) (hrm : (rest.map fun v => v.category).sum ≤ 8) (hd : decode cc pc = .ok (.invokevirtual idx, 3)) {M' : Mm} (h : f_X8_search o0 o1 x2 M = some M') : StpZ x nL pc lv (.int x2 :: .ref (xb x + o1) :: .ref (xb x + o0) :: rest) KDF M (pc + 3) lv (rest) KDF M' :=
  w_callV (st := []) (As := [.ref (xb x + o1), .int x2]) X hR hN (CtX0 Z (c_X8_search hk0 hk1 h)) ⟨Nat.le_refl _, Nat.le_refl _⟩ ⟨Nat.le_refl _, Nat.le_refl _⟩ hk0 (ci := 8) (fs := fs_8 o0) (fun _ _ _ => rfl) rfl hw mw_772 mw_773 mw_72 mw_774 (n := 2) (by decide +kernel) rfl hdd (by decide) hrm hd
def f_X11_touch (o0 : Nat) (x1 : Int32) (x2 : Int32) (M : Mm) : Option (Int32 × Mm) :=
  (if x1 < (1 : Int32) then some ((-1000000002 : Int32), M) else (if (8 : Int32) < x1 then some ((-1000000002 : Int32), M) else (if x2 < 0 then some ((-1000000002 : Int32), M) else (if x2 ≤ (1 : Int32) then Gd (KDF[(M o0 0).toNatClampNeg]? = some (9, 0)) ((if (f_X9_stands (M o0 0).toNatClampNeg M) = 0 then some ((-1000000003 : Int32), M) else Gd (KDF[(M o0 0).toNatClampNeg]? = some (9, 0)) (Bd (f_X8_search 111 (M o0 0).toNatClampNeg x1 M) (fun r8 => (if x2 = 0 then some ((r8 111 0), r8) else some ((r8 111 1), r8)))))) else some ((-1000000002 : Int32), M)))))
set_option maxRecDepth 100000 in
set_option maxHeartbeats 4000000 in
theorem c_X11_touch {l : Launch} {D : va_G} {an : An} {b : Nat} {o0 : Nat} {x1 : Int32} {x2 : Int32} (hk0 : KDF[o0]? = some (11, 0)) {M : Mm} {r : Int32} {M' : Mm} (h : f_X11_touch o0 x1 x2 M = some (r, M')) : Ct l D an b 0 yX11_touch cX11_touch 3 (some .int) 26 [.ref (b + o0), .int x1, .int x2] KDF M (some (.int r)) KDF M' := by
  refine CtX.mk (as := fun b => [.ref (b + o0), .int x1, .int x2]) (rv := fun b => (some (.int r))) (by decide) (fun b => Nat.le_of_ble_eq_true rfl) ⟨Nat.le_refl _, Nat.le_refl _⟩ (fun x X hR Z hN _ _ => ?_)
  have X : Ok x cX11_touch 3 RX11 (some .int) := X
  have G : Gz x 3 0 [(0, .ref (xb x + o0)), (1, .int x1), (2, .int x2)] [] KDF M (f_X11_touch o0 x1 x2 M) (PsI2 x KDF) := by
    unfold f_X11_touch
    refine g1 (pc' := 1) (w_iload_n X dX11_touch_0 rfl 1 rfl) ?_
    refine g1 (pc' := 2) (w_iconst X (1) dX11_touch_1 (by decide)) ?_
    refine g_if (pcT := 20) (pcF := 5) (w_icmp_lt (tgt := 20) X dX11_touch_2 (by decide)) (fun h1 => ?_) (fun h1 => ?_)
    · refine g1 (pc' := 22) (w_ldc (v := -1000000002) X dX11_touch_20 mw_391) ?_
      exact g_rI2 X dX11_touch_22
    · refine g1 (pc' := 6) (w_iload_n X dX11_touch_5 rfl 1 rfl) ?_
      refine g1 (pc' := 8) (w_bipush X (8) dX11_touch_6 (by decide)) ?_
      refine g_if (pcT := 20) (pcF := 11) (w_icmp_gt (tgt := 20) X dX11_touch_8 (by decide)) (fun h2 => ?_) (fun h2 => ?_)
      · refine g1 (pc' := 22) (w_ldc (v := -1000000002) X dX11_touch_20 mw_391) ?_
        exact g_rI2 X dX11_touch_22
      · refine g1 (pc' := 12) (w_iload_n X dX11_touch_11 rfl 2 rfl) ?_
        refine g_if (pcT := 20) (pcF := 15) (w_if_lt (tgt := 20) X dX11_touch_12 (by decide)) (fun h3 => ?_) (fun h3 => ?_)
        · refine g1 (pc' := 22) (w_ldc (v := -1000000002) X dX11_touch_20 mw_391) ?_
          exact g_rI2 X dX11_touch_22
        · refine g1 (pc' := 16) (w_iload_n X dX11_touch_15 rfl 2 rfl) ?_
          refine g1 (pc' := 17) (w_iconst X (1) dX11_touch_16 (by decide)) ?_
          refine g_if (pcT := 23) (pcF := 20) (w_icmp_le (tgt := 23) X dX11_touch_17 (by decide)) (fun h4 => ?_) (fun h4 => ?_)
          · refine g1 (pc' := 24) (w_aload_n X dX11_touch_23 rfl 0 rfl) ?_
            refine g1 (pc' := 27) (gt_11_0 X hk0 mw_335 dX11_touch_24) ?_
            refine g_gd (fun h5 => ?_)
            refine g1 (pc' := 30) (k_X9_stands X hR hN Z h5 mw_558 (by decide) (Nat.le_of_ble_eq_true rfl) dX11_touch_27) ?_
            refine g_if (pcT := 33) (pcF := 36) (w_if_ne (tgt := 36) X dX11_touch_30 (by decide)) (fun h6 => ?_) (fun h6 => ?_)
            · refine g1 (pc' := 35) (w_ldc (v := -1000000003) X dX11_touch_33 mw_559) ?_
              exact g_rI2 X dX11_touch_35
            · refine g1 (pc' := 37) (w_aload_n X dX11_touch_36 rfl 0 rfl) ?_
              refine g1 (pc' := 40) (gt_11_9 X hk0 mw_344 dX11_touch_37) ?_
              refine g1 (pc' := 41) (w_aload_n X dX11_touch_40 rfl 0 rfl) ?_
              refine g1 (pc' := 44) (gt_11_0 X hk0 mw_335 dX11_touch_41) ?_
              refine g_gd (fun h7 => ?_)
              refine g1 (pc' := 45) (w_iload_n X dX11_touch_44 rfl 1 rfl) ?_
              refine g_bd (pc' := 48) (fun r8 => [(0, .ref (xb x + o0)), (1, .int x1), (2, .int x2)]) (fun r8 => []) (fun r8 => r8) (fun r8 h => k_X8_search X hR hN Z kd_111 h7 mw_771 (by decide) (Nat.le_of_ble_eq_true rfl) dX11_touch_45 h) (fun r8 => ?_)
              show Gz x 3 48 [(0, .ref (xb x + o0)), (1, .int x1), (2, .int x2)] [] KDF r8 _ _
              refine g1 (pc' := 49) (w_iload_n X dX11_touch_48 rfl 2 rfl) ?_
              refine g_if (pcT := 52) (pcF := 62) (w_if_ne (tgt := 62) X dX11_touch_49 (by decide)) (fun h9 => ?_) (fun h9 => ?_)
              · refine g1 (pc' := 53) (w_aload_n X dX11_touch_52 rfl 0 rfl) ?_
                refine g1 (pc' := 56) (gt_11_9 X hk0 mw_344 dX11_touch_53) ?_
                refine g1 (pc' := 59) (gt_8_0 X kd_111 mw_273 dX11_touch_56) ?_
                refine g1 (pc' := 69) (w_goto X dX11_touch_59 (by decide)) ?_
                exact g_rI2 X dX11_touch_69
              · refine g1 (pc' := 63) (w_aload_n X dX11_touch_62 rfl 0 rfl) ?_
                refine g1 (pc' := 66) (gt_11_9 X hk0 mw_344 dX11_touch_63) ?_
                refine g1 (pc' := 69) (gt_8_1 X kd_111 mw_275 dX11_touch_66) ?_
                exact g_rI2 X dX11_touch_69
          · refine g1 (pc' := 22) (w_ldc (v := -1000000002) X dX11_touch_20 mw_391) ?_
            exact g_rI2 X dX11_touch_22
  exact G _ h _ rfl
theorem k_X11_touch {x : Cxt} {cc : ByteArray} {nL : Nat} {own : String} {ret : Option FieldType} (X : Ok x cc nL own ret) {d : Nat} (hR : Rm x d KDF) (hN : Nst x) (Z : xz x = 0) {pc : Nat} {lv : List (Nat × Value)} {rest : List Value} {M : Mm} {o0 : Nat} {x1 : Int32} {x2 : Int32} (hk0 : KDF[o0]? = some (11, 0)) {idx : Nat} (hw : Cond.methodLink own idx yX11_touch ∈ tbG) (hdd : 26 + 1 ≤ d) (hrm : (rest.map fun v => v.category).sum ≤ 8) (hd : decode cc pc = .ok (.invokevirtual idx, 3)) {r : Int32} {M' : Mm} (h : f_X11_touch o0 x1 x2 M = some (r, M')) : StpZ x nL pc lv (.int x2 :: .int x1 :: .ref (xb x + o0) :: rest) KDF M (pc + 3) lv (.int r :: rest) KDF M' :=
  w_callV (st := []) (As := [.int x1, .int x2]) X hR hN (CtX0 Z (c_X11_touch hk0 h)) ⟨Nat.le_refl _, Nat.le_refl _⟩ ⟨Nat.le_refl _, Nat.le_refl _⟩ hk0 (ci := 11) (fs := fs_11 o0) (fun _ _ _ => rfl) rfl hw mw_768 mw_769 mw_64 mw_770 (n := 2) (by decide +kernel) rfl hdd (by decide) hrm hd
