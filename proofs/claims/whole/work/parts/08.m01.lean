def b_X1_tireAll_15 (o0 : Nat) (o1 : Nat) (j1 : Int32) (s15 : Int32 × Mm) : Option ((Int32 × Mm) ⊕ (Mm)) :=
  (if (s15.2 o1 2) ≤ s15.1 then some (.inr s15.2) else (if (6 : Int32) ≤ s15.1 then some (.inr s15.2) else Bd (((if (f_X1_isOut o0 s15.1 s15.2) = 0 then Gd (ib s15.1 6) (Bd (f_X1_ropeOf o0 s15.1 s15.2) (fun r9 => Bd (f_X9_excess o1 s15.1 r9 s15.2) (fun r10 => Gd (ib s15.1 6) (Lt (st2 s15.2 (o0 + 3) (ix s15.1) (if (((s15.2 (o0 + 3) (ix s15.1)) + r10) + j1) < (9999 : Int32) then (((s15.2 (o0 + 3) (ix s15.1)) + r10) + j1) else (9999 : Int32))) (fun M12 => some M12))))) else some s15.2)) : Option (Mm)) (fun j6 => Lt (s15.1 + (1 : Int32)) (fun v13 => some (.inl (v13, j6))))))
def f_X1_tireAll (o0 : Nat) (o1 : Nat) (M : Mm) : Option (Mm) :=
  Lt (((if (M o0 3) = 0 then (0 : Int32) else (1 : Int32))) : Int32) (fun j1 => Bd (Lp (b_X1_tireAll_15 o0 o1 j1) 100000 ((0 : Int32), M)) (fun e14 => some e14))
set_option maxRecDepth 100000 in
set_option maxHeartbeats 4000000 in
theorem c_X1_tireAll {l : Launch} {D : va_G} {an : An} {b : Nat} {o0 : Nat} {o1 : Nat} (hk0 : KDF[o0]? = some (1, 0)) (hk1 : KDF[o1]? = some (9, 0)) {M : Mm} {M' : Mm} (h : f_X1_tireAll o0 o1 M = some M') : Ct l D an b 0 yX1_tireAll cX1_tireAll 4 none 4 [.ref (b + o0), .ref (b + o1)] KDF M none KDF M' := by
  refine CtX.mk (as := fun b => [.ref (b + o0), .ref (b + o1)]) (rv := fun b => none) (by decide) (fun b => Nat.le_of_ble_eq_true rfl) ⟨Nat.le_refl _, Nat.le_refl _⟩ (fun x X hR Z hN _ _ => ?_)
  have X : Ok x cX1_tireAll 4 RX1 none := X
  have G : Gz x 4 0 [(0, .ref (xb x + o0)), (1, .ref (xb x + o1))] [] KDF M (f_X1_tireAll o0 o1 M) (PsM x KDF) := by
    unfold f_X1_tireAll
    refine g1 (pc' := 1) (w_aload_n X dX1_tireAll_0 rfl 0 rfl) ?_
    refine g1 (pc' := 4) (gt_1_3 X hk0 mw_213 dX1_tireAll_1) ?_
    refine g_ltJ (J := 12) (fun j1 => [(0, .ref (xb x + o0)), (1, .ref (xb x + o1))]) (fun j1 => [.int j1]) (fun j1 => M) ?_ (fun j1 => ?_)
    · refine g_ifS (pcT := 11) (pcF := 7) (w_if_eq (tgt := 11) X dX1_tireAll_4 (by decide)) (fun h2 => ?_) (fun h2 => ?_)
      · refine g1 (pc' := 12) (w_iconst X (0) dX1_tireAll_11 (by decide)) ?_
        exact g_end [0, 1] rfl rfl rfl
      · refine g1 (pc' := 8) (w_iconst X (1) dX1_tireAll_7 (by decide)) ?_
        refine g1 (pc' := 12) (w_goto X dX1_tireAll_8 (by decide)) ?_
        exact g_end [0, 1] rfl rfl rfl
    · show Gz x 4 12 [(0, .ref (xb x + o0)), (1, .ref (xb x + o1))] [.int j1] KDF M _ _
      refine g1 (pc' := 13) (lv' := [(2, .int j1), (0, .ref (xb x + o0)), (1, .ref (xb x + o1))]) (w_istore_n X dX1_tireAll_12 rfl (by decide) rfl) ?_
      refine g1 (pc' := 14) (w_iconst X (0) dX1_tireAll_13 (by decide)) ?_
      refine g1 (pc' := 15) (lv' := [(3, .int (0 : Int32)), (2, .int j1), (0, .ref (xb x + o0)), (1, .ref (xb x + o1))]) (w_istore_n X dX1_tireAll_14 rfl (by decide) rfl) ?_
      refine g_pick (lv' := [(0, .ref (xb x + o0)), (1, .ref (xb x + o1)), (2, .int j1), (3, .int (0 : Int32))]) [2, 3, 1, 0] rfl ?_
      refine g_bdJ (J := 74) (fun e14 => []) (fun e14 => []) (fun e14 => e14) (g_lp (fun s15 => [(0, .ref (xb x + o0)), (1, .ref (xb x + o1)), (2, .int j1), (3, .int s15.1)]) (fun s15 => s15.2) (fun s15 => ?_) 100000 ((0 : Int32), M)) (fun e14 => ?_)
      · show Gz x 4 15 [(0, .ref (xb x + o0)), (1, .ref (xb x + o1)), (2, .int j1), (3, .int s15.1)] [] KDF s15.2 (b_X1_tireAll_15 o0 o1 j1 s15) _
        unfold b_X1_tireAll_15
        refine g1 (pc' := 16) (w_iload_n X dX1_tireAll_15 rfl 3 rfl) ?_
        refine g1 (pc' := 17) (w_aload_n X dX1_tireAll_16 rfl 1 rfl) ?_
        refine g1 (pc' := 20) (gt_9_2 X hk1 mw_125 dX1_tireAll_17) ?_
        refine g_if (pcT := 74) (pcF := 23) (w_icmp_ge (tgt := 74) X dX1_tireAll_20 (by decide)) (fun h3 => ?_) (fun h3 => ?_)
        · refine g_inr ?_
          exact g_end [] rfl rfl rfl
        · refine g1 (pc' := 24) (w_iload_n X dX1_tireAll_23 rfl 3 rfl) ?_
          refine g1 (pc' := 26) (w_bipush X (6) dX1_tireAll_24 (by decide)) ?_
          refine g_if (pcT := 74) (pcF := 29) (w_icmp_ge (tgt := 74) X dX1_tireAll_26 (by decide)) (fun h4 => ?_) (fun h4 => ?_)
          · refine g_inr ?_
            exact g_end [] rfl rfl rfl
          · refine g1 (pc' := 30) (w_aload_n X dX1_tireAll_29 rfl 0 rfl) ?_
            refine g1 (pc' := 31) (w_iload_n X dX1_tireAll_30 rfl 3 rfl) ?_
            refine g1 (pc' := 34) (k_X1_isOut X hR hN Z hk0 mw_532 (by decide) (Nat.le_of_ble_eq_true rfl) dX1_tireAll_31) ?_
            refine g_bdJ (J := 68) (fun j6 => [(0, .ref (xb x + o0)), (1, .ref (xb x + o1)), (2, .int j1), (3, .int s15.1)]) (fun j6 => []) (fun j6 => j6) ?_ (fun j6 => ?_)
            · refine g_if (pcT := 37) (pcF := 68) (w_if_ne (tgt := 68) X dX1_tireAll_34 (by decide)) (fun h7 => ?_) (fun h7 => ?_)
              · refine g1 (pc' := 38) (w_aload_n X dX1_tireAll_37 rfl 0 rfl) ?_
                refine g1 (pc' := 41) (gt_1_5 X hk0 mw_216 dX1_tireAll_38) ?_
                refine g1 (pc' := 42) (w_iload_n X dX1_tireAll_41 rfl 3 rfl) ?_
                refine g1 (pc' := 45) (w_sipush X (9999) dX1_tireAll_42 (by decide)) ?_
                refine g1 (pc' := 46) (w_aload_n X dX1_tireAll_45 rfl 0 rfl) ?_
                refine g1 (pc' := 49) (gt_1_5 X hk0 mw_216 dX1_tireAll_46) ?_
                refine g1 (pc' := 50) (w_iload_n X dX1_tireAll_49 rfl 3 rfl) ?_
                refine g_gd (fun h8 => ?_)
                refine g1 (pc' := 51) (w_iald X (kd_Ev3 hk0) h8 dX1_tireAll_50) ?_
                refine g1 (pc' := 52) (w_aload_n X dX1_tireAll_51 rfl 1 rfl) ?_
                refine g1 (pc' := 53) (w_iload_n X dX1_tireAll_52 rfl 3 rfl) ?_
                refine g1 (pc' := 54) (w_aload_n X dX1_tireAll_53 rfl 0 rfl) ?_
                refine g1 (pc' := 55) (w_iload_n X dX1_tireAll_54 rfl 3 rfl) ?_
                refine g_bd (pc' := 58) (fun r9 => [(0, .ref (xb x + o0)), (1, .ref (xb x + o1)), (2, .int j1), (3, .int s15.1)]) (fun r9 => [.int r9, .int s15.1, .ref (xb x + o1), .int (s15.2 (o0 + 3) (ix s15.1)), .int (9999 : Int32), .int s15.1, .ref (xb x + (o0 + 3))]) (fun r9 => s15.2) (fun r9 h => k_X1_ropeOf X hR hN Z hk0 mw_567 (by decide) (Nat.le_of_ble_eq_true rfl) dX1_tireAll_55 h) (fun r9 => ?_)
                show Gz x 4 58 [(0, .ref (xb x + o0)), (1, .ref (xb x + o1)), (2, .int j1), (3, .int s15.1)] [.int r9, .int s15.1, .ref (xb x + o1), .int (s15.2 (o0 + 3) (ix s15.1)), .int (9999 : Int32), .int s15.1, .ref (xb x + (o0 + 3))] KDF s15.2 _ _
                refine g_bd (pc' := 61) (fun r10 => [(0, .ref (xb x + o0)), (1, .ref (xb x + o1)), (2, .int j1), (3, .int s15.1)]) (fun r10 => [.int r10, .int (s15.2 (o0 + 3) (ix s15.1)), .int (9999 : Int32), .int s15.1, .ref (xb x + (o0 + 3))]) (fun r10 => s15.2) (fun r10 h => k_X9_excess X hR hN Z hk1 mw_636 (by decide) (Nat.le_of_ble_eq_true rfl) dX1_tireAll_58 h) (fun r10 => ?_)
                show Gz x 4 61 [(0, .ref (xb x + o0)), (1, .ref (xb x + o1)), (2, .int j1), (3, .int s15.1)] [.int r10, .int (s15.2 (o0 + 3) (ix s15.1)), .int (9999 : Int32), .int s15.1, .ref (xb x + (o0 + 3))] KDF s15.2 _ _
                refine g1 (pc' := 62) (w_iadd X dX1_tireAll_61) ?_
                refine g1 (pc' := 63) (w_iload_n X dX1_tireAll_62 rfl 2 rfl) ?_
                refine g1 (pc' := 64) (w_iadd X dX1_tireAll_63) ?_
                refine g1 (pc' := 67) (w_mmin X hR mw_645 mw_617 mw_77 mw_618 (by decide) (Nat.le_of_ble_eq_true rfl) ⟨Nat.le_refl _, Nat.le_refl _⟩ dX1_tireAll_64) ?_
                refine g_gd (fun h11 => ?_)
                refine g_lt (pc' := 68) (fun M12 => [(0, .ref (xb x + o0)), (1, .ref (xb x + o1)), (2, .int j1), (3, .int s15.1)]) (fun M12 => []) (fun M12 => M12) (w_iast X Z (kd_Ev3 hk0) h11 dX1_tireAll_67) (fun M12 => ?_)
                show Gz x 4 68 [(0, .ref (xb x + o0)), (1, .ref (xb x + o1)), (2, .int j1), (3, .int s15.1)] [] KDF M12 _ _
                exact g_end [0, 1, 2, 3] rfl rfl rfl
              · exact g_end [0, 1, 2, 3] rfl rfl rfl
            · show Gz x 4 68 [(0, .ref (xb x + o0)), (1, .ref (xb x + o1)), (2, .int j1), (3, .int s15.1)] [] KDF j6 _ _
              refine g_lt (pc' := 71) (fun v13 => [(3, .int v13), (0, .ref (xb x + o0)), (1, .ref (xb x + o1)), (2, .int j1)]) (fun v13 => []) (fun v13 => j6) (w_iinc X dX1_tireAll_68 3 rfl rfl (by decide) rfl) (fun v13 => ?_)
              show Gz x 4 71 [(3, .int v13), (0, .ref (xb x + o0)), (1, .ref (xb x + o1)), (2, .int j1)] [] KDF j6 _ _
              refine g1 (pc' := 15) (w_goto X dX1_tireAll_71 (by decide)) ?_
              refine g_inl ?_
              exact g_end [1, 2, 3, 0] rfl rfl rfl
      · show Gz x 4 74 [] [] KDF e14 _ _
        exact g_rM X dX1_tireAll_74
  exact G _ h _ rfl
theorem k_X1_tireAll {x : Cxt} {cc : ByteArray} {nL : Nat} {own : String} {ret : Option FieldType} (X : Ok x cc nL own ret) {d : Nat} (hR : Rm x d KDF) (hN : Nst x) (Z : xz x = 0) {pc : Nat} {lv : List (Nat × Value)} {rest : List Value} {M : Mm} {o0 : Nat} {o1 : Nat} (hk0 : KDF[o0]? = some (1, 0)) (hk1 : KDF[o1]? = some (9, 0)) {idx : Nat} (hw : Cond.methodLink own idx yX1_tireAll ∈ tbG) (hdd : 4 + 1 ≤ d) (hrm : (rest.map fun v => v.category).sum ≤ 8) (hd : decode cc pc = .ok (.invokevirtual idx, 3)) {M' : Mm} (h : f_X1_tireAll o0 o1 M = some M') : StpZ x nL pc lv (.ref (xb x + o1) :: .ref (xb x + o0) :: rest) KDF M (pc + 3) lv (rest) KDF M' :=
  w_callV (st := []) (As := [.ref (xb x + o1)]) X hR hN (CtX0 Z (c_X1_tireAll hk0 hk1 h)) ⟨Nat.le_refl _, Nat.le_refl _⟩ ⟨Nat.le_refl _, Nat.le_refl _⟩ hk0 (ci := 1) (fs := fs_1 o0) (fun _ _ _ => rfl) rfl hw mw_634 mw_9 mw_65 mw_635 (n := 1) (by decide +kernel) rfl hdd (by decide) hrm hd
def f_X10_endsLead (o0 : Nat) (M : Mm) : Int32 :=
  (if (M o0 1) = 0 then (1 : Int32) else (0 : Int32))
theorem z_X10_endsLead {o0 : Nat} {M : Mm} : zb (f_X10_endsLead o0 M) := by
  unfold f_X10_endsLead
  repeat' (first | exact zb0 | exact zb1 | apply zbi)
set_option maxRecDepth 100000 in
set_option maxHeartbeats 4000000 in
theorem c_X10_endsLead {l : Launch} {D : va_G} {an : An} {b : Nat} {o0 : Nat} (hk0 : KDF[o0]? = some (10, 0)) {M : Mm}  : Ct l D an b 0 yX10_endsLead cX10_endsLead 1 (some .boolean) 1 [.ref (b + o0)] KDF M (some (.int (f_X10_endsLead o0 M))) KDF M := by
  refine CtX.mk (as := fun b => [.ref (b + o0)]) (rv := fun b => (some (.int (f_X10_endsLead o0 M)))) (by decide) (fun b => Nat.le_of_ble_eq_true rfl) ⟨Nat.le_refl _, Nat.le_refl _⟩ (fun x X hR Z hN _ _ => ?_)
  have X : Ok x cX10_endsLead 1 RX10 (some .boolean) := X
  have G : Gz x 1 0 [(0, .ref (xb x + o0))] [] KDF M (some (f_X10_endsLead o0 M)) (PsI x KDF M) := by
    unfold f_X10_endsLead
    refine g1 (pc' := 1) (w_aload_n X dX10_endsLead_0 rfl 0 rfl) ?_
    refine g1 (pc' := 4) (gt_10_1 X hk0 mw_196 dX10_endsLead_1) ?_
    refine g_ifS (pcT := 7) (pcF := 11) (w_if_ne (tgt := 11) X dX10_endsLead_4 (by decide)) (fun h1 => ?_) (fun h1 => ?_)
    · refine g1 (pc' := 8) (w_iconst X (1) dX10_endsLead_7 (by decide)) ?_
      refine g1 (pc' := 12) (w_goto X dX10_endsLead_8 (by decide)) ?_
      exact g_rZ X zb1 dX10_endsLead_12
    · refine g1 (pc' := 12) (w_iconst X (0) dX10_endsLead_11 (by decide)) ?_
      exact g_rZ X zb0 dX10_endsLead_12
  exact G _ rfl _ rfl
theorem k_X10_endsLead {x : Cxt} {cc : ByteArray} {nL : Nat} {own : String} {ret : Option FieldType} (X : Ok x cc nL own ret) {d : Nat} (hR : Rm x d KDF) (hN : Nst x) (Z : xz x = 0) {pc : Nat} {lv : List (Nat × Value)} {rest : List Value} {M : Mm} {o0 : Nat} (hk0 : KDF[o0]? = some (10, 0)) {idx : Nat} (hw : Cond.methodLink own idx yX10_endsLead ∈ tbG) (hdd : 1 + 1 ≤ d) (hrm : (rest.map fun v => v.category).sum ≤ 8) (hd : decode cc pc = .ok (.invokevirtual idx, 3))  : StpZ x nL pc lv (.ref (xb x + o0) :: rest) KDF M (pc + 3) lv (.int (f_X10_endsLead o0 M) :: rest) KDF M :=
  w_callV (st := []) (As := []) X hR hN (CtX0 Z (c_X10_endsLead hk0 )) ⟨Nat.le_refl _, Nat.le_refl _⟩ ⟨Nat.le_refl _, Nat.le_refl _⟩ hk0 (ci := 10) (fs := fs_10 o0) (fun _ _ _ => rfl) rfl hw mw_647 mw_648 mw_66 mw_649 (n := 0) (by decide +kernel) rfl hdd (by decide) hrm hd
def f_X5_bellIn (x0 : Int32) (x1 : Int32) : Int32 :=
  ((sr x0 ((3 : Int32) * x1)) &&& (7 : Int32))
set_option maxRecDepth 100000 in
set_option maxHeartbeats 4000000 in
theorem c_X5_bellIn {l : Launch} {D : va_G} {an : An} {b : Nat} {x0 : Int32} {x1 : Int32}  {M : Mm}  : Ct l D an b 0 yX5_bellIn cX5_bellIn 2 (some .int) 1 [.int x0, .int x1] KDF M (some (.int (f_X5_bellIn x0 x1))) KDF M := by
  refine CtX.mk (as := fun b => [.int x0, .int x1]) (rv := fun b => (some (.int (f_X5_bellIn x0 x1)))) (by decide) (fun b => Nat.le_of_ble_eq_true rfl) ⟨Nat.le_refl _, Nat.le_refl _⟩ (fun x X hR Z hN _ _ => ?_)
  have X : Ok x cX5_bellIn 2 RX5 (some .int) := X
  have G : Gz x 2 0 [(0, .int x0), (1, .int x1)] [] KDF M (some (f_X5_bellIn x0 x1)) (PsI x KDF M) := by
    unfold f_X5_bellIn
    refine g1 (pc' := 1) (w_iload_n X dX5_bellIn_0 rfl 0 rfl) ?_
    refine g1 (pc' := 2) (w_iconst X (3) dX5_bellIn_1 (by decide)) ?_
    refine g1 (pc' := 3) (w_iload_n X dX5_bellIn_2 rfl 1 rfl) ?_
    refine g1 (pc' := 4) (w_imul X dX5_bellIn_3) ?_
    refine g1 (pc' := 5) (w_ishr X dX5_bellIn_4) ?_
    refine g1 (pc' := 7) (w_bipush X (7) dX5_bellIn_5 (by decide)) ?_
    refine g1 (pc' := 8) (w_iand X dX5_bellIn_7) ?_
    exact g_rI X dX5_bellIn_8
  exact G _ rfl _ rfl
theorem k_X5_bellIn {x : Cxt} {cc : ByteArray} {nL : Nat} {own : String} {ret : Option FieldType} (X : Ok x cc nL own ret) {d : Nat} (hR : Rm x d KDF) (hN : Nst x) (Z : xz x = 0) {pc : Nat} {lv : List (Nat × Value)} {rest : List Value} {M : Mm} {x0 : Int32} {x1 : Int32}  {idx : Nat} (hw : Cond.methodLink own idx yX5_bellIn ∈ tbG) (hdd : 1 + 1 ≤ d) (hrm : (rest.map fun v => v.category).sum ≤ 8) (hd : decode cc pc = .ok (.invokestatic idx, 3))  : StpZ x nL pc lv (.int x1 :: .int x0 :: rest) KDF M (pc + 3) lv (.int (f_X5_bellIn x0 x1) :: rest) KDF M :=
  w_callS (st := []) (As := [.int x0, .int x1]) X hR hN (CtX0 Z (c_X5_bellIn  )) ⟨Nat.le_refl _, Nat.le_refl _⟩ ⟨Nat.le_refl _, Nat.le_refl _⟩ hw mw_516 mw_73 mw_517 (n := 2) (by decide +kernel) rfl hdd (by decide) hrm hd
def f_J6_bitCount_0f7a4 (x0 : Int32) : Int32 :=
  Lt (x0 - ((us x0 (1 : Int32)) &&& (1431655765 : Int32))) (fun v1 => Lt ((v1 &&& (858993459 : Int32)) + ((us v1 (2 : Int32)) &&& (858993459 : Int32))) (fun v2 => Lt ((v2 + (us v2 (4 : Int32))) &&& (252645135 : Int32)) (fun v3 => Lt (v3 + (us v3 (8 : Int32))) (fun v4 => Lt (v4 + (us v4 (16 : Int32))) (fun v5 => (v5 &&& (63 : Int32)))))))
set_option maxRecDepth 100000 in
set_option maxHeartbeats 4000000 in
theorem c_J6_bitCount_0f7a4 {l : Launch} {D : va_G} {an : An} {b : Nat} {x0 : Int32}  {M : Mm}  : Ct l D an b 0 yJ6_bitCount_0f7a4 cJ6_bitCount_0f7a4 1 (some .int) 1 [.int x0] KDF M (some (.int (f_J6_bitCount_0f7a4 x0))) KDF M := by
  refine CtX.mk (as := fun b => [.int x0]) (rv := fun b => (some (.int (f_J6_bitCount_0f7a4 x0)))) (by decide) (fun b => Nat.le_of_ble_eq_true rfl) ⟨Nat.le_refl _, Nat.le_refl _⟩ (fun x X hR Z hN _ _ => ?_)
  have X : Ok x cJ6_bitCount_0f7a4 1 RJ6 (some .int) := X
  have G : Gz x 1 0 [(0, .int x0)] [] KDF M (some (f_J6_bitCount_0f7a4 x0)) (PsI x KDF M) := by
    unfold f_J6_bitCount_0f7a4
    refine g1 (pc' := 1) (w_iload_n X dJ6_bitCount_0f7a4_0 rfl 0 rfl) ?_
    refine g1 (pc' := 2) (w_iload_n X dJ6_bitCount_0f7a4_1 rfl 0 rfl) ?_
    refine g1 (pc' := 3) (w_iconst X (1) dJ6_bitCount_0f7a4_2 (by decide)) ?_
    refine g1 (pc' := 4) (w_iushr X dJ6_bitCount_0f7a4_3) ?_
    refine g1 (pc' := 7) (w_ldcw (v := 1431655765) X dJ6_bitCount_0f7a4_4 mw_529) ?_
    refine g1 (pc' := 8) (w_iand X dJ6_bitCount_0f7a4_7) ?_
    refine g1 (pc' := 9) (w_isub X dJ6_bitCount_0f7a4_8) ?_
    refine g_ltT (pc' := 10) (fun v1 => [(0, .int v1)]) (fun v1 => []) (fun v1 => M) (w_istore_n X dJ6_bitCount_0f7a4_9 rfl (by decide) rfl) (fun v1 => ?_)
    show Gz x 1 10 [(0, .int v1)] [] KDF M _ _
    refine g1 (pc' := 11) (w_iload_n X dJ6_bitCount_0f7a4_10 rfl 0 rfl) ?_
    refine g1 (pc' := 14) (w_ldcw (v := 858993459) X dJ6_bitCount_0f7a4_11 mw_530) ?_
    refine g1 (pc' := 15) (w_iand X dJ6_bitCount_0f7a4_14) ?_
    refine g1 (pc' := 16) (w_iload_n X dJ6_bitCount_0f7a4_15 rfl 0 rfl) ?_
    refine g1 (pc' := 17) (w_iconst X (2) dJ6_bitCount_0f7a4_16 (by decide)) ?_
    refine g1 (pc' := 18) (w_iushr X dJ6_bitCount_0f7a4_17) ?_
    refine g1 (pc' := 21) (w_ldcw (v := 858993459) X dJ6_bitCount_0f7a4_18 mw_530) ?_
    refine g1 (pc' := 22) (w_iand X dJ6_bitCount_0f7a4_21) ?_
    refine g1 (pc' := 23) (w_iadd X dJ6_bitCount_0f7a4_22) ?_
    refine g_ltT (pc' := 24) (fun v2 => [(0, .int v2)]) (fun v2 => []) (fun v2 => M) (w_istore_n X dJ6_bitCount_0f7a4_23 rfl (by decide) rfl) (fun v2 => ?_)
    show Gz x 1 24 [(0, .int v2)] [] KDF M _ _
    refine g1 (pc' := 25) (w_iload_n X dJ6_bitCount_0f7a4_24 rfl 0 rfl) ?_
    refine g1 (pc' := 26) (w_iload_n X dJ6_bitCount_0f7a4_25 rfl 0 rfl) ?_
    refine g1 (pc' := 27) (w_iconst X (4) dJ6_bitCount_0f7a4_26 (by decide)) ?_
    refine g1 (pc' := 28) (w_iushr X dJ6_bitCount_0f7a4_27) ?_
    refine g1 (pc' := 29) (w_iadd X dJ6_bitCount_0f7a4_28) ?_
    refine g1 (pc' := 32) (w_ldcw (v := 252645135) X dJ6_bitCount_0f7a4_29 mw_531) ?_
    refine g1 (pc' := 33) (w_iand X dJ6_bitCount_0f7a4_32) ?_
    refine g_ltT (pc' := 34) (fun v3 => [(0, .int v3)]) (fun v3 => []) (fun v3 => M) (w_istore_n X dJ6_bitCount_0f7a4_33 rfl (by decide) rfl) (fun v3 => ?_)
    show Gz x 1 34 [(0, .int v3)] [] KDF M _ _
    refine g1 (pc' := 35) (w_iload_n X dJ6_bitCount_0f7a4_34 rfl 0 rfl) ?_
    refine g1 (pc' := 36) (w_iload_n X dJ6_bitCount_0f7a4_35 rfl 0 rfl) ?_
    refine g1 (pc' := 38) (w_bipush X (8) dJ6_bitCount_0f7a4_36 (by decide)) ?_
    refine g1 (pc' := 39) (w_iushr X dJ6_bitCount_0f7a4_38) ?_
    refine g1 (pc' := 40) (w_iadd X dJ6_bitCount_0f7a4_39) ?_
    refine g_ltT (pc' := 41) (fun v4 => [(0, .int v4)]) (fun v4 => []) (fun v4 => M) (w_istore_n X dJ6_bitCount_0f7a4_40 rfl (by decide) rfl) (fun v4 => ?_)
    show Gz x 1 41 [(0, .int v4)] [] KDF M _ _
    refine g1 (pc' := 42) (w_iload_n X dJ6_bitCount_0f7a4_41 rfl 0 rfl) ?_
    refine g1 (pc' := 43) (w_iload_n X dJ6_bitCount_0f7a4_42 rfl 0 rfl) ?_
    refine g1 (pc' := 45) (w_bipush X (16) dJ6_bitCount_0f7a4_43 (by decide)) ?_
    refine g1 (pc' := 46) (w_iushr X dJ6_bitCount_0f7a4_45) ?_
    refine g1 (pc' := 47) (w_iadd X dJ6_bitCount_0f7a4_46) ?_
    refine g_ltT (pc' := 48) (fun v5 => [(0, .int v5)]) (fun v5 => []) (fun v5 => M) (w_istore_n X dJ6_bitCount_0f7a4_47 rfl (by decide) rfl) (fun v5 => ?_)
    show Gz x 1 48 [(0, .int v5)] [] KDF M _ _
    refine g1 (pc' := 49) (w_iload_n X dJ6_bitCount_0f7a4_48 rfl 0 rfl) ?_
    refine g1 (pc' := 51) (w_bipush X (63) dJ6_bitCount_0f7a4_49 (by decide)) ?_
    refine g1 (pc' := 52) (w_iand X dJ6_bitCount_0f7a4_51) ?_
    exact g_rI X dJ6_bitCount_0f7a4_52
  exact G _ rfl _ rfl
theorem k_J6_bitCount_0f7a4 {x : Cxt} {cc : ByteArray} {nL : Nat} {own : String} {ret : Option FieldType} (X : Ok x cc nL own ret) {d : Nat} (hR : Rm x d KDF) (hN : Nst x) (Z : xz x = 0) {pc : Nat} {lv : List (Nat × Value)} {rest : List Value} {M : Mm} {x0 : Int32}  {idx : Nat} (hw : Cond.methodLink own idx yJ6_bitCount_0f7a4 ∈ tbG) (hdd : 1 + 1 ≤ d) (hrm : (rest.map fun v => v.category).sum ≤ 8) (hd : decode cc pc = .ok (.invokestatic idx, 3))  : StpZ x nL pc lv (.int x0 :: rest) KDF M (pc + 3) lv (.int (f_J6_bitCount_0f7a4 x0) :: rest) KDF M :=
  w_callS (st := []) (As := [.int x0]) X hR hN (CtX0 Z (c_J6_bitCount_0f7a4  )) ⟨Nat.le_refl _, Nat.le_refl _⟩ ⟨Nat.le_refl _, Nat.le_refl _⟩ hw mw_527 mw_75 mw_528 (n := 1) (by decide +kernel) rfl hdd (by decide) hrm hd
def f_X1_stillIn (o0 : Nat) (o1 : Nat) (M : Mm) : Int32 :=
  ((M o1 2) - (f_J6_bitCount_0f7a4 (M o0 2)))
set_option maxRecDepth 100000 in
set_option maxHeartbeats 4000000 in
theorem c_X1_stillIn {l : Launch} {D : va_G} {an : An} {b : Nat} {o0 : Nat} {o1 : Nat} (hk0 : KDF[o0]? = some (1, 0)) (hk1 : KDF[o1]? = some (9, 0)) {M : Mm}  : Ct l D an b 0 yX1_stillIn cX1_stillIn 2 (some .int) 2 [.ref (b + o0), .ref (b + o1)] KDF M (some (.int (f_X1_stillIn o0 o1 M))) KDF M := by
  refine CtX.mk (as := fun b => [.ref (b + o0), .ref (b + o1)]) (rv := fun b => (some (.int (f_X1_stillIn o0 o1 M)))) (by decide) (fun b => Nat.le_of_ble_eq_true rfl) ⟨Nat.le_refl _, Nat.le_refl _⟩ (fun x X hR Z hN _ _ => ?_)
  have X : Ok x cX1_stillIn 2 RX1 (some .int) := X
  have G : Gz x 2 0 [(0, .ref (xb x + o0)), (1, .ref (xb x + o1))] [] KDF M (some (f_X1_stillIn o0 o1 M)) (PsI x KDF M) := by
    unfold f_X1_stillIn
    refine g1 (pc' := 1) (w_aload_n X dX1_stillIn_0 rfl 1 rfl) ?_
    refine g1 (pc' := 4) (gt_9_2 X hk1 mw_125 dX1_stillIn_1) ?_
    refine g1 (pc' := 5) (w_aload_n X dX1_stillIn_4 rfl 0 rfl) ?_
    refine g1 (pc' := 8) (gt_1_2 X hk0 mw_211 dX1_stillIn_5) ?_
    refine g1 (pc' := 11) (k_J6_bitCount_0f7a4 X hR hN Z  mw_526 (by decide) (Nat.le_of_ble_eq_true rfl) dX1_stillIn_8) ?_
    refine g1 (pc' := 12) (w_isub X dX1_stillIn_11) ?_
    exact g_rI X dX1_stillIn_12
  exact G _ rfl _ rfl
theorem k_X1_stillIn {x : Cxt} {cc : ByteArray} {nL : Nat} {own : String} {ret : Option FieldType} (X : Ok x cc nL own ret) {d : Nat} (hR : Rm x d KDF) (hN : Nst x) (Z : xz x = 0) {pc : Nat} {lv : List (Nat × Value)} {rest : List Value} {M : Mm} {o0 : Nat} {o1 : Nat} (hk0 : KDF[o0]? = some (1, 0)) (hk1 : KDF[o1]? = some (9, 0)) {idx : Nat} (hw : Cond.methodLink own idx yX1_stillIn ∈ tbG) (hdd : 2 + 1 ≤ d) (hrm : (rest.map fun v => v.category).sum ≤ 8) (hd : decode cc pc = .ok (.invokevirtual idx, 3))  : StpZ x nL pc lv (.ref (xb x + o1) :: .ref (xb x + o0) :: rest) KDF M (pc + 3) lv (.int (f_X1_stillIn o0 o1 M) :: rest) KDF M :=
  w_callV (st := []) (As := [.ref (xb x + o1)]) X hR hN (CtX0 Z (c_X1_stillIn hk0 hk1 )) ⟨Nat.le_refl _, Nat.le_refl _⟩ ⟨Nat.le_refl _, Nat.le_refl _⟩ hk0 (ci := 1) (fs := fs_1 o0) (fun _ _ _ => rfl) rfl hw mw_524 mw_7 mw_65 mw_525 (n := 1) (by decide +kernel) rfl hdd (by decide) hrm hd
def f_X1_loserBy (o0 : Nat) (x1 : Int32) (o2 : Nat) (M : Mm) : Option (Int32) :=
  Bd (f_X1_suitorOf o0 (f_X5_bellIn x1 ((M o2 0) - (1 : Int32))) o2 M) (fun r1 => Lt (((if r1 = (-1 : Int32) then (0 : Int32) else (if (f_X1_isOut o0 r1 M) = 0 then (if (f_X1_stillIn o0 o2 M) < (2 : Int32) then (0 : Int32) else (1 : Int32)) else (0 : Int32)))) : Int32) (fun j2 => (if j2 = 0 then some (-1 : Int32) else some r1)))
set_option maxRecDepth 100000 in
set_option maxHeartbeats 4000000 in
theorem c_X1_loserBy {l : Launch} {D : va_G} {an : An} {b : Nat} {o0 : Nat} {x1 : Int32} {o2 : Nat} (hk0 : KDF[o0]? = some (1, 0)) (hk2 : KDF[o2]? = some (9, 0)) {M : Mm} {r : Int32} (h : f_X1_loserBy o0 x1 o2 M = some r) : Ct l D an b 0 yX1_loserBy cX1_loserBy 5 (some .int) 3 [.ref (b + o0), .int x1, .ref (b + o2)] KDF M (some (.int r)) KDF M := by
  refine CtX.mk (as := fun b => [.ref (b + o0), .int x1, .ref (b + o2)]) (rv := fun b => (some (.int r))) (by decide) (fun b => Nat.le_of_ble_eq_true rfl) ⟨Nat.le_refl _, Nat.le_refl _⟩ (fun x X hR Z hN _ _ => ?_)
  have X : Ok x cX1_loserBy 5 RX1 (some .int) := X
  have G : Gz x 5 0 [(0, .ref (xb x + o0)), (1, .int x1), (2, .ref (xb x + o2))] [] KDF M (f_X1_loserBy o0 x1 o2 M) (PsI x KDF M) := by
    unfold f_X1_loserBy
    refine g1 (pc' := 1) (w_aload_n X dX1_loserBy_0 rfl 0 rfl) ?_
    refine g1 (pc' := 2) (w_iload_n X dX1_loserBy_1 rfl 1 rfl) ?_
    refine g1 (pc' := 3) (w_aload_n X dX1_loserBy_2 rfl 2 rfl) ?_
    refine g1 (pc' := 6) (gt_9_0 X hk2 mw_116 dX1_loserBy_3) ?_
    refine g1 (pc' := 7) (w_iconst X (1) dX1_loserBy_6 (by decide)) ?_
    refine g1 (pc' := 8) (w_isub X dX1_loserBy_7) ?_
    refine g1 (pc' := 11) (k_X5_bellIn X hR hN Z  mw_654 (by decide) (Nat.le_of_ble_eq_true rfl) dX1_loserBy_8) ?_
    refine g1 (pc' := 12) (w_aload_n X dX1_loserBy_11 rfl 2 rfl) ?_
    refine g_bd (pc' := 15) (fun r1 => [(0, .ref (xb x + o0)), (1, .int x1), (2, .ref (xb x + o2))]) (fun r1 => [.int r1]) (fun r1 => M) (fun r1 h => k_X1_suitorOf X hR hN Z hk0 hk2 mw_655 (by decide) (Nat.le_of_ble_eq_true rfl) dX1_loserBy_12 h) (fun r1 => ?_)
    show Gz x 5 15 [(0, .ref (xb x + o0)), (1, .int x1), (2, .ref (xb x + o2))] [.int r1] KDF M _ _
    refine g1 (pc' := 16) (lv' := [(3, .int r1), (0, .ref (xb x + o0)), (1, .int x1), (2, .ref (xb x + o2))]) (w_istore_n X dX1_loserBy_15 rfl (by decide) rfl) ?_
    refine g1 (pc' := 17) (w_iload_n X dX1_loserBy_16 rfl 0 rfl) ?_
    refine g1 (pc' := 18) (w_iconst X (-1) dX1_loserBy_17 (by decide)) ?_
    refine g_ltJ (J := 43) (fun j2 => [(3, .int r1)]) (fun j2 => [.int j2]) (fun j2 => M) ?_ (fun j2 => ?_)
    · refine g_ifS (pcT := 42) (pcF := 21) (w_icmp_eq (tgt := 42) X dX1_loserBy_18 (by decide)) (fun h3 => ?_) (fun h3 => ?_)
      · refine g1 (pc' := 43) (w_iconst X (0) dX1_loserBy_42 (by decide)) ?_
        exact g_end [0] rfl rfl rfl
      · refine g1 (pc' := 22) (w_aload_n X dX1_loserBy_21 rfl 1 rfl) ?_
        refine g1 (pc' := 23) (w_iload_n X dX1_loserBy_22 rfl 0 rfl) ?_
        refine g1 (pc' := 26) (k_X1_isOut X hR hN Z hk0 mw_532 (by decide) (Nat.le_of_ble_eq_true rfl) dX1_loserBy_23) ?_
        refine g_ifS (pcT := 29) (pcF := 42) (w_if_ne (tgt := 42) X dX1_loserBy_26 (by decide)) (fun h4 => ?_) (fun h4 => ?_)
        · refine g1 (pc' := 30) (w_aload_n X dX1_loserBy_29 rfl 1 rfl) ?_
          refine g1 (pc' := 31) (w_aload_n X dX1_loserBy_30 rfl 3 rfl) ?_
          refine g1 (pc' := 34) (k_X1_stillIn X hR hN Z hk0 hk2 mw_522 (by decide) (Nat.le_of_ble_eq_true rfl) dX1_loserBy_31) ?_
          refine g1 (pc' := 35) (w_iconst X (2) dX1_loserBy_34 (by decide)) ?_
          refine g_ifS (pcT := 42) (pcF := 38) (w_icmp_lt (tgt := 42) X dX1_loserBy_35 (by decide)) (fun h5 => ?_) (fun h5 => ?_)
          · refine g1 (pc' := 43) (w_iconst X (0) dX1_loserBy_42 (by decide)) ?_
            exact g_end [0] rfl rfl rfl
          · refine g1 (pc' := 39) (w_iconst X (1) dX1_loserBy_38 (by decide)) ?_
            refine g1 (pc' := 43) (w_goto X dX1_loserBy_39 (by decide)) ?_
            exact g_end [0] rfl rfl rfl
        · refine g1 (pc' := 43) (w_iconst X (0) dX1_loserBy_42 (by decide)) ?_
          exact g_end [0] rfl rfl rfl
    · show Gz x 5 43 [(3, .int r1)] [.int j2] KDF M _ _
      refine g1 (pc' := 45) (lv' := [(4, .int j2), (3, .int r1)]) (w_istore X dX1_loserBy_43 (by decide) rfl) ?_
      refine g1 (pc' := 47) (w_iload X dX1_loserBy_45 0 rfl) ?_
      refine g_if (pcT := 54) (pcF := 50) (w_if_eq (tgt := 54) X dX1_loserBy_47 (by decide)) (fun h6 => ?_) (fun h6 => ?_)
      · refine g1 (pc' := 55) (w_iconst X (-1) dX1_loserBy_54 (by decide)) ?_
        exact g_rI X dX1_loserBy_55
      · refine g1 (pc' := 51) (w_iload_n X dX1_loserBy_50 rfl 1 rfl) ?_
        refine g1 (pc' := 55) (w_goto X dX1_loserBy_51 (by decide)) ?_
        exact g_rI X dX1_loserBy_55
  exact G _ h _ rfl
theorem k_X1_loserBy {x : Cxt} {cc : ByteArray} {nL : Nat} {own : String} {ret : Option FieldType} (X : Ok x cc nL own ret) {d : Nat} (hR : Rm x d KDF) (hN : Nst x) (Z : xz x = 0) {pc : Nat} {lv : List (Nat × Value)} {rest : List Value} {M : Mm} {o0 : Nat} {x1 : Int32} {o2 : Nat} (hk0 : KDF[o0]? = some (1, 0)) (hk2 : KDF[o2]? = some (9, 0)) {idx : Nat} (hw : Cond.methodLink own idx yX1_loserBy ∈ tbG) (hdd : 3 + 1 ≤ d) (hrm : (rest.map fun v => v.category).sum ≤ 8) (hd : decode cc pc = .ok (.invokevirtual idx, 3)) {r : Int32} (h : f_X1_loserBy o0 x1 o2 M = some r) : StpZ x nL pc lv (.ref (xb x + o2) :: .int x1 :: .ref (xb x + o0) :: rest) KDF M (pc + 3) lv (.int r :: rest) KDF M :=
  w_callV (st := []) (As := [.int x1, .ref (xb x + o2)]) X hR hN (CtX0 Z (c_X1_loserBy hk0 hk2 h)) ⟨Nat.le_refl _, Nat.le_refl _⟩ ⟨Nat.le_refl _, Nat.le_refl _⟩ hk0 (ci := 1) (fs := fs_1 o0) (fun _ _ _ => rfl) rfl hw mw_651 mw_652 mw_65 mw_653 (n := 2) (by decide +kernel) rfl hdd (by decide) hrm hd
def f_X1_sendOut (o0 : Nat) (x1 : Int32) (M : Mm) : Option (Mm) :=
  (if x1 = (-1 : Int32) then some M else Lt (st2 M o0 2 ((M o0 2) ||| (sl (1 : Int32) x1))) (fun M2 => some M2))
set_option maxRecDepth 100000 in
set_option maxHeartbeats 4000000 in
theorem c_X1_sendOut {l : Launch} {D : va_G} {an : An} {b : Nat} {o0 : Nat} {x1 : Int32} (hk0 : KDF[o0]? = some (1, 0)) {M : Mm} {M' : Mm} (h : f_X1_sendOut o0 x1 M = some M') : Ct l D an b 0 yX1_sendOut cX1_sendOut 2 none 1 [.ref (b + o0), .int x1] KDF M none KDF M' := by
  refine CtX.mk (as := fun b => [.ref (b + o0), .int x1]) (rv := fun b => none) (by decide) (fun b => Nat.le_of_ble_eq_true rfl) ⟨Nat.le_refl _, Nat.le_refl _⟩ (fun x X hR Z hN _ _ => ?_)
  have X : Ok x cX1_sendOut 2 RX1 none := X
  have G : Gz x 2 0 [(0, .ref (xb x + o0)), (1, .int x1)] [] KDF M (f_X1_sendOut o0 x1 M) (PsM x KDF) := by
    unfold f_X1_sendOut
    refine g1 (pc' := 1) (w_iload_n X dX1_sendOut_0 rfl 1 rfl) ?_
    refine g1 (pc' := 2) (w_iconst X (-1) dX1_sendOut_1 (by decide)) ?_
    refine g_if (pcT := 17) (pcF := 5) (w_icmp_eq (tgt := 17) X dX1_sendOut_2 (by decide)) (fun h1 => ?_) (fun h1 => ?_)
    · exact g_rM X dX1_sendOut_17
    · refine g1 (pc' := 6) (w_aload_n X dX1_sendOut_5 rfl 0 rfl) ?_
      refine g1 (pc' := 7) (w_dup X dX1_sendOut_6 rfl) ?_
      refine g1 (pc' := 10) (gt_1_2 X hk0 mw_211 dX1_sendOut_7) ?_
      refine g1 (pc' := 11) (w_iconst X (1) dX1_sendOut_10 (by decide)) ?_
      refine g1 (pc' := 12) (w_iload_n X dX1_sendOut_11 rfl 1 rfl) ?_
      refine g1 (pc' := 13) (w_ishl X dX1_sendOut_12) ?_
      refine g1 (pc' := 14) (w_ior X dX1_sendOut_13) ?_
      refine g_lt (pc' := 17) (fun M2 => [(0, .ref (xb x + o0)), (1, .int x1)]) (fun M2 => []) (fun M2 => M2) (pt_1_2 X Z hk0 mw_211 dX1_sendOut_14) (fun M2 => ?_)
      show Gz x 2 17 [(0, .ref (xb x + o0)), (1, .int x1)] [] KDF M2 _ _
      exact g_rM X dX1_sendOut_17
  exact G _ h _ rfl
theorem k_X1_sendOut {x : Cxt} {cc : ByteArray} {nL : Nat} {own : String} {ret : Option FieldType} (X : Ok x cc nL own ret) {d : Nat} (hR : Rm x d KDF) (hN : Nst x) (Z : xz x = 0) {pc : Nat} {lv : List (Nat × Value)} {rest : List Value} {M : Mm} {o0 : Nat} {x1 : Int32} (hk0 : KDF[o0]? = some (1, 0)) {idx : Nat} (hw : Cond.methodLink own idx yX1_sendOut ∈ tbG) (hdd : 1 + 1 ≤ d) (hrm : (rest.map fun v => v.category).sum ≤ 8) (hd : decode cc pc = .ok (.invokevirtual idx, 3)) {M' : Mm} (h : f_X1_sendOut o0 x1 M = some M') : StpZ x nL pc lv (.int x1 :: .ref (xb x + o0) :: rest) KDF M (pc + 3) lv (rest) KDF M' :=
  w_callV (st := []) (As := [.int x1]) X hR hN (CtX0 Z (c_X1_sendOut hk0 h)) ⟨Nat.le_refl _, Nat.le_refl _⟩ ⟨Nat.le_refl _, Nat.le_refl _⟩ hk0 (ci := 1) (fs := fs_1 o0) (fun _ _ _ => rfl) rfl hw mw_658 mw_10 mw_65 mw_659 (n := 1) (by decide +kernel) rfl hdd (by decide) hrm hd
def f_X1_ringNext (o0 : Nat) (o1 : Nat) (M : Mm) : Option (Mm) :=
  Bd (f_X10_step (o0 + 1) o1 M) (fun r1 => Lt (st2 r1 o0 1 ((r1 o0 1) + (1 : Int32))) (fun M2 => Bd (f_X1_tireAll o0 o1 M2) (fun r3 => (if (f_X10_endsLead (o0 + 1) r3) = 0 then some r3 else Bd (f_X1_loserBy o0 (r3 (o0 + 1) 0) o1 r3) (fun r5 => Bd (f_X1_sendOut o0 r5 r3) (fun r6 => some r6))))))
set_option maxRecDepth 100000 in
set_option maxHeartbeats 4000000 in
theorem c_X1_ringNext {l : Launch} {D : va_G} {an : An} {b : Nat} {o0 : Nat} {o1 : Nat} (hk0 : KDF[o0]? = some (1, 0)) (hk1 : KDF[o1]? = some (9, 0)) {M : Mm} {M' : Mm} (h : f_X1_ringNext o0 o1 M = some M') : Ct l D an b 0 yX1_ringNext cX1_ringNext 2 none 5 [.ref (b + o0), .ref (b + o1)] KDF M none KDF M' := by
  refine CtX.mk (as := fun b => [.ref (b + o0), .ref (b + o1)]) (rv := fun b => none) (by decide) (fun b => Nat.le_of_ble_eq_true rfl) ⟨Nat.le_refl _, Nat.le_refl _⟩ (fun x X hR Z hN _ _ => ?_)
  have X : Ok x cX1_ringNext 2 RX1 none := X
  have G : Gz x 2 0 [(0, .ref (xb x + o0)), (1, .ref (xb x + o1))] [] KDF M (f_X1_ringNext o0 o1 M) (PsM x KDF) := by
    unfold f_X1_ringNext
    refine g1 (pc' := 1) (w_aload_n X dX1_ringNext_0 rfl 0 rfl) ?_
    refine g1 (pc' := 4) (gt_1_0 X hk0 mw_207 dX1_ringNext_1) ?_
    refine g1 (pc' := 5) (w_aload_n X dX1_ringNext_4 rfl 1 rfl) ?_
    refine g_bd (pc' := 8) (fun r1 => [(0, .ref (xb x + o0)), (1, .ref (xb x + o1))]) (fun r1 => []) (fun r1 => r1) (fun r1 h => k_X10_step X hR hN Z (kd_Ev1 hk0) hk1 mw_623 (by decide) (Nat.le_of_ble_eq_true rfl) dX1_ringNext_5 h) (fun r1 => ?_)
    show Gz x 2 8 [(0, .ref (xb x + o0)), (1, .ref (xb x + o1))] [] KDF r1 _ _
    refine g1 (pc' := 9) (w_aload_n X dX1_ringNext_8 rfl 0 rfl) ?_
    refine g1 (pc' := 10) (w_dup X dX1_ringNext_9 rfl) ?_
    refine g1 (pc' := 13) (gt_1_1 X hk0 mw_209 dX1_ringNext_10) ?_
    refine g1 (pc' := 14) (w_iconst X (1) dX1_ringNext_13 (by decide)) ?_
    refine g1 (pc' := 15) (w_iadd X dX1_ringNext_14) ?_
    refine g_lt (pc' := 18) (fun M2 => [(0, .ref (xb x + o0)), (1, .ref (xb x + o1))]) (fun M2 => []) (fun M2 => M2) (pt_1_1 X Z hk0 mw_209 dX1_ringNext_15) (fun M2 => ?_)
    show Gz x 2 18 [(0, .ref (xb x + o0)), (1, .ref (xb x + o1))] [] KDF M2 _ _
    refine g1 (pc' := 19) (w_aload_n X dX1_ringNext_18 rfl 0 rfl) ?_
    refine g1 (pc' := 20) (w_aload_n X dX1_ringNext_19 rfl 1 rfl) ?_
    refine g_bd (pc' := 23) (fun r3 => [(0, .ref (xb x + o0)), (1, .ref (xb x + o1))]) (fun r3 => []) (fun r3 => r3) (fun r3 h => k_X1_tireAll X hR hN Z hk0 hk1 mw_632 (by decide) (Nat.le_of_ble_eq_true rfl) dX1_ringNext_20 h) (fun r3 => ?_)
    show Gz x 2 23 [(0, .ref (xb x + o0)), (1, .ref (xb x + o1))] [] KDF r3 _ _
    refine g1 (pc' := 24) (w_aload_n X dX1_ringNext_23 rfl 0 rfl) ?_
    refine g1 (pc' := 27) (gt_1_0 X hk0 mw_207 dX1_ringNext_24) ?_
    refine g1 (pc' := 30) (k_X10_endsLead X hR hN Z (kd_Ev1 hk0) mw_646 (by decide) (Nat.le_of_ble_eq_true rfl) dX1_ringNext_27) ?_
    refine g_if (pcT := 49) (pcF := 33) (w_if_eq (tgt := 49) X dX1_ringNext_30 (by decide)) (fun h4 => ?_) (fun h4 => ?_)
    · exact g_rM X dX1_ringNext_49
    · refine g1 (pc' := 34) (w_aload_n X dX1_ringNext_33 rfl 0 rfl) ?_
      refine g1 (pc' := 35) (w_aload_n X dX1_ringNext_34 rfl 0 rfl) ?_
      refine g1 (pc' := 36) (w_aload_n X dX1_ringNext_35 rfl 0 rfl) ?_
      refine g1 (pc' := 39) (gt_1_0 X hk0 mw_207 dX1_ringNext_36) ?_
      refine g1 (pc' := 42) (gt_10_0 X (kd_Ev1 hk0) mw_195 dX1_ringNext_39) ?_
      refine g1 (pc' := 43) (w_aload_n X dX1_ringNext_42 rfl 1 rfl) ?_
      refine g_bd (pc' := 46) (fun r5 => [(0, .ref (xb x + o0)), (1, .ref (xb x + o1))]) (fun r5 => [.int r5, .ref (xb x + o0)]) (fun r5 => r3) (fun r5 h => k_X1_loserBy X hR hN Z hk0 hk1 mw_650 (by decide) (Nat.le_of_ble_eq_true rfl) dX1_ringNext_43 h) (fun r5 => ?_)
      show Gz x 2 46 [(0, .ref (xb x + o0)), (1, .ref (xb x + o1))] [.int r5, .ref (xb x + o0)] KDF r3 _ _
      refine g_bd (pc' := 49) (fun r6 => [(0, .ref (xb x + o0)), (1, .ref (xb x + o1))]) (fun r6 => []) (fun r6 => r6) (fun r6 h => k_X1_sendOut X hR hN Z hk0 mw_656 (by decide) (Nat.le_of_ble_eq_true rfl) dX1_ringNext_46 h) (fun r6 => ?_)
      show Gz x 2 49 [(0, .ref (xb x + o0)), (1, .ref (xb x + o1))] [] KDF r6 _ _
      exact g_rM X dX1_ringNext_49
  exact G _ h _ rfl
theorem k_X1_ringNext {x : Cxt} {cc : ByteArray} {nL : Nat} {own : String} {ret : Option FieldType} (X : Ok x cc nL own ret) {d : Nat} (hR : Rm x d KDF) (hN : Nst x) (Z : xz x = 0) {pc : Nat} {lv : List (Nat × Value)} {rest : List Value} {M : Mm} {o0 : Nat} {o1 : Nat} (hk0 : KDF[o0]? = some (1, 0)) (hk1 : KDF[o1]? = some (9, 0)) {idx : Nat} (hw : Cond.methodLink own idx yX1_ringNext ∈ tbG) (hdd : 5 + 1 ≤ d) (hrm : (rest.map fun v => v.category).sum ≤ 8) (hd : decode cc pc = .ok (.invokevirtual idx, 3)) {M' : Mm} (h : f_X1_ringNext o0 o1 M = some M') : StpZ x nL pc lv (.ref (xb x + o1) :: .ref (xb x + o0) :: rest) KDF M (pc + 3) lv (rest) KDF M' :=
  w_callV (st := []) (As := [.ref (xb x + o1)]) X hR hN (CtX0 Z (c_X1_ringNext hk0 hk1 h)) ⟨Nat.le_refl _, Nat.le_refl _⟩ ⟨Nat.le_refl _, Nat.le_refl _⟩ hk0 (ci := 1) (fs := fs_1 o0) (fun _ _ _ => rfl) rfl hw mw_620 mw_621 mw_65 mw_622 (n := 1) (by decide +kernel) rfl hdd (by decide) hrm hd
def b_X1_wed_21 (o0 : Nat) (o1 : Nat) (M : Mm) (s21 : Int32) : Option ((Int32) ⊕ ((Int32) ⊕ (Unit))) :=
  (if (M o1 2) ≤ s21 then some (.inr (.inr ())) else (if (f_X1_isOut o0 s21 M) = 0 then some (.inr (.inl s21)) else Lt (s21 + (1 : Int32)) (fun v5 => some (.inl v5))))
def f_X1_wed (o0 : Nat) (o1 : Nat) (M : Mm) : Option (Int32) :=
  (if (M o1 2) < (2 : Int32) then some (-1 : Int32) else (if (f_X1_stillIn o0 o1 M) = (1 : Int32) then BdS (Lp (b_X1_wed_21 o0 o1 M) 100000 (0 : Int32)) (fun e6 => some (-1 : Int32)) else some (-1 : Int32)))
set_option maxRecDepth 100000 in
set_option maxHeartbeats 4000000 in
theorem c_X1_wed {l : Launch} {D : va_G} {an : An} {b : Nat} {o0 : Nat} {o1 : Nat} (hk0 : KDF[o0]? = some (1, 0)) (hk1 : KDF[o1]? = some (9, 0)) {M : Mm} {r : Int32} (h : f_X1_wed o0 o1 M = some r) : Ct l D an b 0 yX1_wed cX1_wed 3 (some .int) 3 [.ref (b + o0), .ref (b + o1)] KDF M (some (.int r)) KDF M := by
  refine CtX.mk (as := fun b => [.ref (b + o0), .ref (b + o1)]) (rv := fun b => (some (.int r))) (by decide) (fun b => Nat.le_of_ble_eq_true rfl) ⟨Nat.le_refl _, Nat.le_refl _⟩ (fun x X hR Z hN _ _ => ?_)
  have X : Ok x cX1_wed 3 RX1 (some .int) := X
  have G : Gz x 3 0 [(0, .ref (xb x + o0)), (1, .ref (xb x + o1))] [] KDF M (f_X1_wed o0 o1 M) (PsI x KDF M) := by
    unfold f_X1_wed
    refine g1 (pc' := 1) (w_aload_n X dX1_wed_0 rfl 1 rfl) ?_
    refine g1 (pc' := 4) (gt_9_2 X hk1 mw_125 dX1_wed_1) ?_
    refine g1 (pc' := 5) (w_iconst X (2) dX1_wed_4 (by decide)) ?_
    refine g_if (pcT := 17) (pcF := 8) (w_icmp_lt (tgt := 17) X dX1_wed_5 (by decide)) (fun h1 => ?_) (fun h1 => ?_)
    · refine g1 (pc' := 18) (w_iconst X (-1) dX1_wed_17 (by decide)) ?_
      exact g_rI X dX1_wed_18
    · refine g1 (pc' := 9) (w_aload_n X dX1_wed_8 rfl 0 rfl) ?_
      refine g1 (pc' := 10) (w_aload_n X dX1_wed_9 rfl 1 rfl) ?_
      refine g1 (pc' := 13) (k_X1_stillIn X hR hN Z hk0 hk1 mw_522 (by decide) (Nat.le_of_ble_eq_true rfl) dX1_wed_10) ?_
      refine g1 (pc' := 14) (w_iconst X (1) dX1_wed_13 (by decide)) ?_
      refine g_if (pcT := 19) (pcF := 17) (w_icmp_eq (tgt := 19) X dX1_wed_14 (by decide)) (fun h2 => ?_) (fun h2 => ?_)
      · refine g1 (pc' := 20) (w_iconst X (0) dX1_wed_19 (by decide)) ?_
        refine g1 (pc' := 21) (lv' := [(2, .int (0 : Int32)), (0, .ref (xb x + o0)), (1, .ref (xb x + o1))]) (w_istore_n X dX1_wed_20 rfl (by decide) rfl) ?_
        refine g_pick (lv' := [(0, .ref (xb x + o0)), (1, .ref (xb x + o1)), (2, .int (0 : Int32))]) [1, 2, 0] rfl ?_
        refine g_bdS (J := 45) (fun e6 => []) (fun e6 => []) (fun e6 => M) (g_lp (fun s21 => [(0, .ref (xb x + o0)), (1, .ref (xb x + o1)), (2, .int s21)]) (fun s21 => M) (fun s21 => ?_) 100000 (0 : Int32)) (fun e6 => ?_)
        · show Gz x 3 21 [(0, .ref (xb x + o0)), (1, .ref (xb x + o1)), (2, .int s21)] [] KDF M (b_X1_wed_21 o0 o1 M s21) _
          unfold b_X1_wed_21
          refine g1 (pc' := 22) (w_iload_n X dX1_wed_21 rfl 2 rfl) ?_
          refine g1 (pc' := 23) (w_aload_n X dX1_wed_22 rfl 1 rfl) ?_
          refine g1 (pc' := 26) (gt_9_2 X hk1 mw_125 dX1_wed_23) ?_
          refine g_if (pcT := 45) (pcF := 29) (w_icmp_ge (tgt := 45) X dX1_wed_26 (by decide)) (fun h3 => ?_) (fun h3 => ?_)
          · refine g_inr ?_
            refine g_inr ?_
            exact g_end [] rfl rfl rfl
          · refine g1 (pc' := 30) (w_aload_n X dX1_wed_29 rfl 0 rfl) ?_
            refine g1 (pc' := 31) (w_iload_n X dX1_wed_30 rfl 2 rfl) ?_
            refine g1 (pc' := 34) (k_X1_isOut X hR hN Z hk0 mw_532 (by decide) (Nat.le_of_ble_eq_true rfl) dX1_wed_31) ?_
            refine g_if (pcT := 37) (pcF := 39) (w_if_ne (tgt := 39) X dX1_wed_34 (by decide)) (fun h4 => ?_) (fun h4 => ?_)
            · refine g1 (pc' := 38) (w_iload_n X dX1_wed_37 rfl 2 rfl) ?_
              refine g_inr ?_
              refine g_inl ?_
              exact g_rI X dX1_wed_38
            · refine g_lt (pc' := 42) (fun v5 => [(2, .int v5), (0, .ref (xb x + o0)), (1, .ref (xb x + o1))]) (fun v5 => []) (fun v5 => M) (w_iinc X dX1_wed_39 2 rfl rfl (by decide) rfl) (fun v5 => ?_)
              show Gz x 3 42 [(2, .int v5), (0, .ref (xb x + o0)), (1, .ref (xb x + o1))] [] KDF M _ _
              refine g1 (pc' := 21) (w_goto X dX1_wed_42 (by decide)) ?_
              refine g_inl ?_
              exact g_end [1, 2, 0] rfl rfl rfl
        · show Gz x 3 45 [] [] KDF M _ _
          refine g1 (pc' := 46) (w_iconst X (-1) dX1_wed_45 (by decide)) ?_
          exact g_rI X dX1_wed_46
      · refine g1 (pc' := 18) (w_iconst X (-1) dX1_wed_17 (by decide)) ?_
        exact g_rI X dX1_wed_18
  exact G _ h _ rfl
theorem k_X1_wed {x : Cxt} {cc : ByteArray} {nL : Nat} {own : String} {ret : Option FieldType} (X : Ok x cc nL own ret) {d : Nat} (hR : Rm x d KDF) (hN : Nst x) (Z : xz x = 0) {pc : Nat} {lv : List (Nat × Value)} {rest : List Value} {M : Mm} {o0 : Nat} {o1 : Nat} (hk0 : KDF[o0]? = some (1, 0)) (hk1 : KDF[o1]? = some (9, 0)) {idx : Nat} (hw : Cond.methodLink own idx yX1_wed ∈ tbG) (hdd : 3 + 1 ≤ d) (hrm : (rest.map fun v => v.category).sum ≤ 8) (hd : decode cc pc = .ok (.invokevirtual idx, 3)) {r : Int32} (h : f_X1_wed o0 o1 M = some r) : StpZ x nL pc lv (.ref (xb x + o1) :: .ref (xb x + o0) :: rest) KDF M (pc + 3) lv (.int r :: rest) KDF M :=
  w_callV (st := []) (As := [.ref (xb x + o1)]) X hR hN (CtX0 Z (c_X1_wed hk0 hk1 h)) ⟨Nat.le_refl _, Nat.le_refl _⟩ ⟨Nat.le_refl _, Nat.le_refl _⟩ hk0 (ci := 1) (fs := fs_1 o0) (fun _ _ _ => rfl) rfl hw mw_519 mw_520 mw_65 mw_521 (n := 1) (by decide +kernel) rfl hdd (by decide) hrm hd
def f_X9_stands (o0 : Nat) (M : Mm) : Int32 :=
  (if (M o0 0) ≤ 0 then (0 : Int32) else (1 : Int32))
theorem z_X9_stands {o0 : Nat} {M : Mm} : zb (f_X9_stands o0 M) := by
  unfold f_X9_stands
  repeat' (first | exact zb0 | exact zb1 | apply zbi)
set_option maxRecDepth 100000 in
set_option maxHeartbeats 4000000 in
theorem c_X9_stands {l : Launch} {D : va_G} {an : An} {b : Nat} {o0 : Nat} (hk0 : KDF[o0]? = some (9, 0)) {M : Mm}  : Ct l D an b 0 yX9_stands cX9_stands 1 (some .boolean) 1 [.ref (b + o0)] KDF M (some (.int (f_X9_stands o0 M))) KDF M := by
  refine CtX.mk (as := fun b => [.ref (b + o0)]) (rv := fun b => (some (.int (f_X9_stands o0 M)))) (by decide) (fun b => Nat.le_of_ble_eq_true rfl) ⟨Nat.le_refl _, Nat.le_refl _⟩ (fun x X hR Z hN _ _ => ?_)
  have X : Ok x cX9_stands 1 RX9 (some .boolean) := X
  have G : Gz x 1 0 [(0, .ref (xb x + o0))] [] KDF M (some (f_X9_stands o0 M)) (PsI x KDF M) := by
    unfold f_X9_stands
    refine g1 (pc' := 1) (w_aload_n X dX9_stands_0 rfl 0 rfl) ?_
    refine g1 (pc' := 4) (gt_9_0 X hk0 mw_110 dX9_stands_1) ?_
    refine g_ifS (pcT := 11) (pcF := 7) (w_if_le (tgt := 11) X dX9_stands_4 (by decide)) (fun h1 => ?_) (fun h1 => ?_)
    · refine g1 (pc' := 12) (w_iconst X (0) dX9_stands_11 (by decide)) ?_
      exact g_rZ X zb0 dX9_stands_12
    · refine g1 (pc' := 8) (w_iconst X (1) dX9_stands_7 (by decide)) ?_
      refine g1 (pc' := 12) (w_goto X dX9_stands_8 (by decide)) ?_
      exact g_rZ X zb1 dX9_stands_12
  exact G _ rfl _ rfl
theorem k_X9_stands {x : Cxt} {cc : ByteArray} {nL : Nat} {own : String} {ret : Option FieldType} (X : Ok x cc nL own ret) {d : Nat} (hR : Rm x d KDF) (hN : Nst x) (Z : xz x = 0) {pc : Nat} {lv : List (Nat × Value)} {rest : List Value} {M : Mm} {o0 : Nat} (hk0 : KDF[o0]? = some (9, 0)) {idx : Nat} (hw : Cond.methodLink own idx yX9_stands ∈ tbG) (hdd : 1 + 1 ≤ d) (hrm : (rest.map fun v => v.category).sum ≤ 8) (hd : decode cc pc = .ok (.invokevirtual idx, 3))  : StpZ x nL pc lv (.ref (xb x + o0) :: rest) KDF M (pc + 3) lv (.int (f_X9_stands o0 M) :: rest) KDF M :=
  w_callV (st := []) (As := []) X hR hN (CtX0 Z (c_X9_stands hk0 )) ⟨Nat.le_refl _, Nat.le_refl _⟩ ⟨Nat.le_refl _, Nat.le_refl _⟩ hk0 (ci := 9) (fs := fs_9 o0) (fun _ _ _ => rfl) rfl hw mw_410 mw_411 mw_62 mw_412 (n := 0) (by decide +kernel) rfl hdd (by decide) hrm hd
def f_X9_allPlaces (o0 : Nat) (M : Mm) : Int32 :=
  ((sl (1 : Int32) (M o0 0)) - (1 : Int32))
set_option maxRecDepth 100000 in
set_option maxHeartbeats 4000000 in
theorem c_X9_allPlaces {l : Launch} {D : va_G} {an : An} {b : Nat} {o0 : Nat} (hk0 : KDF[o0]? = some (9, 0)) {M : Mm}  : Ct l D an b 0 yX9_allPlaces cX9_allPlaces 1 (some .int) 1 [.ref (b + o0)] KDF M (some (.int (f_X9_allPlaces o0 M))) KDF M := by
  refine CtX.mk (as := fun b => [.ref (b + o0)]) (rv := fun b => (some (.int (f_X9_allPlaces o0 M)))) (by decide) (fun b => Nat.le_of_ble_eq_true rfl) ⟨Nat.le_refl _, Nat.le_refl _⟩ (fun x X hR Z hN _ _ => ?_)
  have X : Ok x cX9_allPlaces 1 RX9 (some .int) := X
  have G : Gz x 1 0 [(0, .ref (xb x + o0))] [] KDF M (some (f_X9_allPlaces o0 M)) (PsI x KDF M) := by
    unfold f_X9_allPlaces
    refine g1 (pc' := 1) (w_iconst X (1) dX9_allPlaces_0 (by decide)) ?_
    refine g1 (pc' := 2) (w_aload_n X dX9_allPlaces_1 rfl 0 rfl) ?_
    refine g1 (pc' := 5) (gt_9_0 X hk0 mw_110 dX9_allPlaces_2) ?_
    refine g1 (pc' := 6) (w_ishl X dX9_allPlaces_5) ?_
    refine g1 (pc' := 7) (w_iconst X (1) dX9_allPlaces_6 (by decide)) ?_
    refine g1 (pc' := 8) (w_isub X dX9_allPlaces_7) ?_
    exact g_rI X dX9_allPlaces_8
  exact G _ rfl _ rfl
theorem k_X9_allPlaces {x : Cxt} {cc : ByteArray} {nL : Nat} {own : String} {ret : Option FieldType} (X : Ok x cc nL own ret) {d : Nat} (hR : Rm x d KDF) (hN : Nst x) (Z : xz x = 0) {pc : Nat} {lv : List (Nat × Value)} {rest : List Value} {M : Mm} {o0 : Nat} (hk0 : KDF[o0]? = some (9, 0)) {idx : Nat} (hw : Cond.methodLink own idx yX9_allPlaces ∈ tbG) (hdd : 1 + 1 ≤ d) (hrm : (rest.map fun v => v.category).sum ≤ 8) (hd : decode cc pc = .ok (.invokevirtual idx, 3))  : StpZ x nL pc lv (.ref (xb x + o0) :: rest) KDF M (pc + 3) lv (.int (f_X9_allPlaces o0 M) :: rest) KDF M :=
  w_callV (st := []) (As := []) X hR hN (CtX0 Z (c_X9_allPlaces hk0 )) ⟨Nat.le_refl _, Nat.le_refl _⟩ ⟨Nat.le_refl _, Nat.le_refl _⟩ hk0 (ci := 9) (fs := fs_9 o0) (fun _ _ _ => rfl) rfl hw mw_431 mw_432 mw_62 mw_433 (n := 0) (by decide +kernel) rfl hdd (by decide) hrm hd
def f_X2_empty (o0 : Nat) (o1 : Nat) (M : Mm) : Option (Mm) :=
  Lt (st2 M o0 0 (0 : Int32)) (fun M1 => Lt (st2 M1 o0 2 (0 : Int32)) (fun M2 => Lt (((if (f_X9_stands o1 M2) = 0 then (0 : Int32) else (f_X9_allPlaces o1 M2))) : Int32) (fun j3 => Lt (st2 M2 o0 1 j3) (fun M5 => some M5))))
set_option maxRecDepth 100000 in
set_option maxHeartbeats 4000000 in
theorem c_X2_empty {l : Launch} {D : va_G} {an : An} {b : Nat} {o0 : Nat} {o1 : Nat} (hk0 : KDF[o0]? = some (2, 0)) (hk1 : KDF[o1]? = some (9, 0)) {M : Mm} {M' : Mm} (h : f_X2_empty o0 o1 M = some M') : Ct l D an b 0 yX2_empty cX2_empty 2 none 2 [.ref (b + o0), .ref (b + o1)] KDF M none KDF M' := by
  refine CtX.mk (as := fun b => [.ref (b + o0), .ref (b + o1)]) (rv := fun b => none) (by decide) (fun b => Nat.le_of_ble_eq_true rfl) ⟨Nat.le_refl _, Nat.le_refl _⟩ (fun x X hR Z hN _ _ => ?_)
  have X : Ok x cX2_empty 2 RX2 none := X
  have G : Gz x 2 0 [(0, .ref (xb x + o0)), (1, .ref (xb x + o1))] [] KDF M (f_X2_empty o0 o1 M) (PsM x KDF) := by
    unfold f_X2_empty
    refine g1 (pc' := 1) (w_aload_n X dX2_empty_0 rfl 0 rfl) ?_
    refine g1 (pc' := 2) (w_iconst X (0) dX2_empty_1 (by decide)) ?_
    refine g_lt (pc' := 5) (fun M1 => [(0, .ref (xb x + o0)), (1, .ref (xb x + o1))]) (fun M1 => []) (fun M1 => M1) (pt_2_0 X Z hk0 mw_304 dX2_empty_2) (fun M1 => ?_)
    show Gz x 2 5 [(0, .ref (xb x + o0)), (1, .ref (xb x + o1))] [] KDF M1 _ _
    refine g1 (pc' := 6) (w_aload_n X dX2_empty_5 rfl 0 rfl) ?_
    refine g1 (pc' := 7) (w_iconst X (0) dX2_empty_6 (by decide)) ?_
    refine g_lt (pc' := 10) (fun M2 => [(0, .ref (xb x + o0)), (1, .ref (xb x + o1))]) (fun M2 => []) (fun M2 => M2) (pt_2_2 X Z hk0 mw_308 dX2_empty_7) (fun M2 => ?_)
    show Gz x 2 10 [(0, .ref (xb x + o0)), (1, .ref (xb x + o1))] [] KDF M2 _ _
    refine g1 (pc' := 11) (w_aload_n X dX2_empty_10 rfl 0 rfl) ?_
    refine g1 (pc' := 12) (w_aload_n X dX2_empty_11 rfl 1 rfl) ?_
    refine g1 (pc' := 15) (k_X9_stands X hR hN Z hk1 mw_494 (by decide) (Nat.le_of_ble_eq_true rfl) dX2_empty_12) ?_
    refine g_ltJ (J := 26) (fun j3 => []) (fun j3 => [.int j3, .ref (xb x + o0)]) (fun j3 => M2) ?_ (fun j3 => ?_)
    · refine g_ifS (pcT := 25) (pcF := 18) (w_if_eq (tgt := 25) X dX2_empty_15 (by decide)) (fun h4 => ?_) (fun h4 => ?_)
      · refine g1 (pc' := 26) (w_iconst X (0) dX2_empty_25 (by decide)) ?_
        exact g_end [] rfl rfl rfl
      · refine g1 (pc' := 19) (w_aload_n X dX2_empty_18 rfl 1 rfl) ?_
        refine g1 (pc' := 22) (k_X9_allPlaces X hR hN Z hk1 mw_495 (by decide) (Nat.le_of_ble_eq_true rfl) dX2_empty_19) ?_
        refine g1 (pc' := 26) (w_goto X dX2_empty_22 (by decide)) ?_
        exact g_end [] rfl rfl rfl
    · show Gz x 2 26 [] [.int j3, .ref (xb x + o0)] KDF M2 _ _
      refine g_lt (pc' := 29) (fun M5 => []) (fun M5 => []) (fun M5 => M5) (pt_2_1 X Z hk0 mw_306 dX2_empty_26) (fun M5 => ?_)
      show Gz x 2 29 [] [] KDF M5 _ _
      exact g_rM X dX2_empty_29
  exact G _ h _ rfl
theorem k_X2_empty {x : Cxt} {cc : ByteArray} {nL : Nat} {own : String} {ret : Option FieldType} (X : Ok x cc nL own ret) {d : Nat} (hR : Rm x d KDF) (hN : Nst x) (Z : xz x = 0) {pc : Nat} {lv : List (Nat × Value)} {rest : List Value} {M : Mm} {o0 : Nat} {o1 : Nat} (hk0 : KDF[o0]? = some (2, 0)) (hk1 : KDF[o1]? = some (9, 0)) {idx : Nat} (hw : Cond.methodLink own idx yX2_empty ∈ tbG) (hdd : 2 + 1 ≤ d) (hrm : (rest.map fun v => v.category).sum ≤ 8) (hd : decode cc pc = .ok (.invokevirtual idx, 3)) {M' : Mm} (h : f_X2_empty o0 o1 M = some M') : StpZ x nL pc lv (.ref (xb x + o1) :: .ref (xb x + o0) :: rest) KDF M (pc + 3) lv (rest) KDF M' :=
  w_callV (st := []) (As := [.ref (xb x + o1)]) X hR hN (CtX0 Z (c_X2_empty hk0 hk1 h)) ⟨Nat.le_refl _, Nat.le_refl _⟩ ⟨Nat.le_refl _, Nat.le_refl _⟩ hk0 (ci := 2) (fs := fs_2 o0) (fun _ _ _ => rfl) rfl hw mw_491 mw_492 mw_71 mw_493 (n := 1) (by decide +kernel) rfl hdd (by decide) hrm hd
def b_X5_placeOf_2 (x0 : Int32) (x1 : Int32) (x2 : Int32) (s2 : Int32) : Option ((Int32) ⊕ ((Int32) ⊕ (Unit))) :=
  (if x2 ≤ s2 then some (.inr (.inr ())) else (if (f_X5_bellIn x0 s2) = x1 then some (.inr (.inl s2)) else Lt (s2 + (1 : Int32)) (fun v3 => some (.inl v3))))
def f_X5_placeOf (x0 : Int32) (x1 : Int32) (x2 : Int32) : Option (Int32) :=
  BdS (Lp (b_X5_placeOf_2 x0 x1 x2) 100000 (0 : Int32)) (fun e4 => some (-1 : Int32))
set_option maxRecDepth 100000 in
set_option maxHeartbeats 4000000 in
theorem c_X5_placeOf {l : Launch} {D : va_G} {an : An} {b : Nat} {x0 : Int32} {x1 : Int32} {x2 : Int32}  {M : Mm} {r : Int32} (h : f_X5_placeOf x0 x1 x2 = some r) : Ct l D an b 0 yX5_placeOf cX5_placeOf 4 (some .int) 2 [.int x0, .int x1, .int x2] KDF M (some (.int r)) KDF M := by
  refine CtX.mk (as := fun b => [.int x0, .int x1, .int x2]) (rv := fun b => (some (.int r))) (by decide) (fun b => Nat.le_of_ble_eq_true rfl) ⟨Nat.le_refl _, Nat.le_refl _⟩ (fun x X hR Z hN _ _ => ?_)
  have X : Ok x cX5_placeOf 4 RX5 (some .int) := X
  have G : Gz x 4 0 [(0, .int x0), (1, .int x1), (2, .int x2)] [] KDF M (f_X5_placeOf x0 x1 x2) (PsI x KDF M) := by
    unfold f_X5_placeOf
    refine g1 (pc' := 1) (w_iconst X (0) dX5_placeOf_0 (by decide)) ?_
    refine g1 (pc' := 2) (lv' := [(3, .int (0 : Int32)), (0, .int x0), (1, .int x1), (2, .int x2)]) (w_istore_n X dX5_placeOf_1 rfl (by decide) rfl) ?_
    refine g_pick (lv' := [(0, .int x0), (1, .int x1), (2, .int x2), (3, .int (0 : Int32))]) [1, 2, 3, 0] rfl ?_
    refine g_bdS (J := 24) (fun e4 => []) (fun e4 => []) (fun e4 => M) (g_lp (fun s2 => [(0, .int x0), (1, .int x1), (2, .int x2), (3, .int s2)]) (fun s2 => M) (fun s2 => ?_) 100000 (0 : Int32)) (fun e4 => ?_)
    · show Gz x 4 2 [(0, .int x0), (1, .int x1), (2, .int x2), (3, .int s2)] [] KDF M (b_X5_placeOf_2 x0 x1 x2 s2) _
      unfold b_X5_placeOf_2
      refine g1 (pc' := 3) (w_iload_n X dX5_placeOf_2 rfl 3 rfl) ?_
      refine g1 (pc' := 4) (w_iload_n X dX5_placeOf_3 rfl 2 rfl) ?_
      refine g_if (pcT := 24) (pcF := 7) (w_icmp_ge (tgt := 24) X dX5_placeOf_4 (by decide)) (fun h1 => ?_) (fun h1 => ?_)
      · refine g_inr ?_
        refine g_inr ?_
        exact g_end [] rfl rfl rfl
      · refine g1 (pc' := 8) (w_iload_n X dX5_placeOf_7 rfl 0 rfl) ?_
        refine g1 (pc' := 9) (w_iload_n X dX5_placeOf_8 rfl 3 rfl) ?_
        refine g1 (pc' := 12) (k_X5_bellIn X hR hN Z  mw_515 (by decide) (Nat.le_of_ble_eq_true rfl) dX5_placeOf_9) ?_
        refine g1 (pc' := 13) (w_iload_n X dX5_placeOf_12 rfl 1 rfl) ?_
        refine g_if (pcT := 16) (pcF := 18) (w_icmp_ne (tgt := 18) X dX5_placeOf_13 (by decide)) (fun h2 => ?_) (fun h2 => ?_)
        · refine g1 (pc' := 17) (w_iload_n X dX5_placeOf_16 rfl 3 rfl) ?_
          refine g_inr ?_
          refine g_inl ?_
          exact g_rI X dX5_placeOf_17
        · refine g_lt (pc' := 21) (fun v3 => [(3, .int v3), (0, .int x0), (1, .int x1), (2, .int x2)]) (fun v3 => []) (fun v3 => M) (w_iinc X dX5_placeOf_18 3 rfl rfl (by decide) rfl) (fun v3 => ?_)
          show Gz x 4 21 [(3, .int v3), (0, .int x0), (1, .int x1), (2, .int x2)] [] KDF M _ _
          refine g1 (pc' := 2) (w_goto X dX5_placeOf_21 (by decide)) ?_
          refine g_inl ?_
          exact g_end [1, 2, 3, 0] rfl rfl rfl
    · show Gz x 4 24 [] [] KDF M _ _
      refine g1 (pc' := 25) (w_iconst X (-1) dX5_placeOf_24 (by decide)) ?_
      exact g_rI X dX5_placeOf_25
  exact G _ h _ rfl
theorem k_X5_placeOf {x : Cxt} {cc : ByteArray} {nL : Nat} {own : String} {ret : Option FieldType} (X : Ok x cc nL own ret) {d : Nat} (hR : Rm x d KDF) (hN : Nst x) (Z : xz x = 0) {pc : Nat} {lv : List (Nat × Value)} {rest : List Value} {M : Mm} {x0 : Int32} {x1 : Int32} {x2 : Int32}  {idx : Nat} (hw : Cond.methodLink own idx yX5_placeOf ∈ tbG) (hdd : 2 + 1 ≤ d) (hrm : (rest.map fun v => v.category).sum ≤ 8) (hd : decode cc pc = .ok (.invokestatic idx, 3)) {r : Int32} (h : f_X5_placeOf x0 x1 x2 = some r) : StpZ x nL pc lv (.int x2 :: .int x1 :: .int x0 :: rest) KDF M (pc + 3) lv (.int r :: rest) KDF M :=
  w_callS (st := []) (As := [.int x0, .int x1, .int x2]) X hR hN (CtX0 Z (c_X5_placeOf  h)) ⟨Nat.le_refl _, Nat.le_refl _⟩ ⟨Nat.le_refl _, Nat.le_refl _⟩ hw mw_561 mw_73 mw_562 (n := 3) (by decide +kernel) rfl hdd (by decide) hrm hd
def f_X5_withLate (x0 : Int32) (x1 : Int32) (x2 : Int32) : Option (Int32) :=
  Bd (f_X5_placeOf x0 x1 x2) (fun r1 => (if r1 = (-1 : Int32) then some x0 else (if r1 = (x2 - (1 : Int32)) then some x0 else Lt (sl ((f_X5_bellIn x0 r1) ^^^ (f_X5_bellIn x0 (r1 + (1 : Int32)))) ((3 : Int32) * r1)) (fun v4 => some ((x0 ^^^ v4) ^^^ (sl v4 (3 : Int32)))))))
set_option maxRecDepth 100000 in
set_option maxHeartbeats 4000000 in
theorem c_X5_withLate {l : Launch} {D : va_G} {an : An} {b : Nat} {x0 : Int32} {x1 : Int32} {x2 : Int32}  {M : Mm} {r : Int32} (h : f_X5_withLate x0 x1 x2 = some r) : Ct l D an b 0 yX5_withLate cX5_withLate 5 (some .int) 3 [.int x0, .int x1, .int x2] KDF M (some (.int r)) KDF M := by
  refine CtX.mk (as := fun b => [.int x0, .int x1, .int x2]) (rv := fun b => (some (.int r))) (by decide) (fun b => Nat.le_of_ble_eq_true rfl) ⟨Nat.le_refl _, Nat.le_refl _⟩ (fun x X hR Z hN _ _ => ?_)
  have X : Ok x cX5_withLate 5 RX5 (some .int) := X
  have G : Gz x 5 0 [(0, .int x0), (1, .int x1), (2, .int x2)] [] KDF M (f_X5_withLate x0 x1 x2) (PsI x KDF M) := by
    unfold f_X5_withLate
    refine g1 (pc' := 1) (w_iload_n X dX5_withLate_0 rfl 0 rfl) ?_
    refine g1 (pc' := 2) (w_iload_n X dX5_withLate_1 rfl 1 rfl) ?_
    refine g1 (pc' := 3) (w_iload_n X dX5_withLate_2 rfl 2 rfl) ?_
    refine g_bd (pc' := 6) (fun r1 => [(0, .int x0), (1, .int x1), (2, .int x2)]) (fun r1 => [.int r1]) (fun r1 => M) (fun r1 h => k_X5_placeOf X hR hN Z  mw_848 (by decide) (Nat.le_of_ble_eq_true rfl) dX5_withLate_3 h) (fun r1 => ?_)
    show Gz x 5 6 [(0, .int x0), (1, .int x1), (2, .int x2)] [.int r1] KDF M _ _
    refine g1 (pc' := 7) (lv' := [(3, .int r1), (0, .int x0), (1, .int x1), (2, .int x2)]) (w_istore_n X dX5_withLate_6 rfl (by decide) rfl) ?_
    refine g1 (pc' := 8) (w_iload_n X dX5_withLate_7 rfl 0 rfl) ?_
    refine g1 (pc' := 9) (w_iconst X (-1) dX5_withLate_8 (by decide)) ?_
    refine g_if (pcT := 19) (pcF := 12) (w_icmp_eq (tgt := 19) X dX5_withLate_9 (by decide)) (fun h2 => ?_) (fun h2 => ?_)
    · refine g1 (pc' := 20) (w_iload_n X dX5_withLate_19 rfl 1 rfl) ?_
      exact g_rI X dX5_withLate_20
    · refine g1 (pc' := 13) (w_iload_n X dX5_withLate_12 rfl 0 rfl) ?_
      refine g1 (pc' := 14) (w_iload_n X dX5_withLate_13 rfl 3 rfl) ?_
      refine g1 (pc' := 15) (w_iconst X (1) dX5_withLate_14 (by decide)) ?_
      refine g1 (pc' := 16) (w_isub X dX5_withLate_15) ?_
      refine g_if (pcT := 19) (pcF := 21) (w_icmp_ne (tgt := 21) X dX5_withLate_16 (by decide)) (fun h3 => ?_) (fun h3 => ?_)
      · refine g1 (pc' := 20) (w_iload_n X dX5_withLate_19 rfl 1 rfl) ?_
        exact g_rI X dX5_withLate_20
      · refine g1 (pc' := 22) (w_iload_n X dX5_withLate_21 rfl 1 rfl) ?_
        refine g1 (pc' := 23) (w_iload_n X dX5_withLate_22 rfl 0 rfl) ?_
        refine g1 (pc' := 26) (k_X5_bellIn X hR hN Z  mw_515 (by decide) (Nat.le_of_ble_eq_true rfl) dX5_withLate_23) ?_
        refine g1 (pc' := 27) (w_iload_n X dX5_withLate_26 rfl 1 rfl) ?_
        refine g1 (pc' := 28) (w_iload_n X dX5_withLate_27 rfl 0 rfl) ?_
        refine g1 (pc' := 29) (w_iconst X (1) dX5_withLate_28 (by decide)) ?_
        refine g1 (pc' := 30) (w_iadd X dX5_withLate_29) ?_
        refine g1 (pc' := 33) (k_X5_bellIn X hR hN Z  mw_515 (by decide) (Nat.le_of_ble_eq_true rfl) dX5_withLate_30) ?_
        refine g1 (pc' := 34) (w_ixor X dX5_withLate_33) ?_
        refine g1 (pc' := 35) (w_iconst X (3) dX5_withLate_34 (by decide)) ?_
        refine g1 (pc' := 36) (w_iload_n X dX5_withLate_35 rfl 0 rfl) ?_
        refine g1 (pc' := 37) (w_imul X dX5_withLate_36) ?_
        refine g1 (pc' := 38) (w_ishl X dX5_withLate_37) ?_
        refine g_lt (pc' := 40) (fun v4 => [(4, .int v4), (3, .int r1), (0, .int x0), (1, .int x1), (2, .int x2)]) (fun v4 => []) (fun v4 => M) (w_istore X dX5_withLate_38 (by decide) rfl) (fun v4 => ?_)
        show Gz x 5 40 [(4, .int v4), (3, .int r1), (0, .int x0), (1, .int x1), (2, .int x2)] [] KDF M _ _
        refine g1 (pc' := 41) (w_iload_n X dX5_withLate_40 rfl 2 rfl) ?_
        refine g1 (pc' := 43) (w_iload X dX5_withLate_41 0 rfl) ?_
        refine g1 (pc' := 44) (w_ixor X dX5_withLate_43) ?_
        refine g1 (pc' := 46) (w_iload X dX5_withLate_44 0 rfl) ?_
        refine g1 (pc' := 47) (w_iconst X (3) dX5_withLate_46 (by decide)) ?_
        refine g1 (pc' := 48) (w_ishl X dX5_withLate_47) ?_
        refine g1 (pc' := 49) (w_ixor X dX5_withLate_48) ?_
        exact g_rI X dX5_withLate_49
  exact G _ h _ rfl
theorem k_X5_withLate {x : Cxt} {cc : ByteArray} {nL : Nat} {own : String} {ret : Option FieldType} (X : Ok x cc nL own ret) {d : Nat} (hR : Rm x d KDF) (hN : Nst x) (Z : xz x = 0) {pc : Nat} {lv : List (Nat × Value)} {rest : List Value} {M : Mm} {x0 : Int32} {x1 : Int32} {x2 : Int32}  {idx : Nat} (hw : Cond.methodLink own idx yX5_withLate ∈ tbG) (hdd : 3 + 1 ≤ d) (hrm : (rest.map fun v => v.category).sum ≤ 8) (hd : decode cc pc = .ok (.invokestatic idx, 3)) {r : Int32} (h : f_X5_withLate x0 x1 x2 = some r) : StpZ x nL pc lv (.int x2 :: .int x1 :: .int x0 :: rest) KDF M (pc + 3) lv (.int r :: rest) KDF M :=
  w_callS (st := []) (As := [.int x0, .int x1, .int x2]) X hR hN (CtX0 Z (c_X5_withLate  h)) ⟨Nat.le_refl _, Nat.le_refl _⟩ ⟨Nat.le_refl _, Nat.le_refl _⟩ hw mw_869 mw_73 mw_870 (n := 3) (by decide +kernel) rfl hdd (by decide) hrm hd
def b_X2_hearAs_13 (o0 : Nat) (x1 : Int32) (x2 : Int32) (o3 : Nat) (s13 : Int32 × Mm) : Option ((Int32 × Mm) ⊕ (Mm)) :=
  (if (s13.2 o3 0) ≤ s13.1 then some (.inr s13.2) else Bd (f_X5_withLate x1 s13.1 (s13.2 o3 0)) (fun r3 => Bd (((if r3 = x2 then some s13.2 else Lt (st2 s13.2 o0 1 ((s13.2 o0 1) &&& ((sl (1 : Int32) s13.1) ^^^ (-1 : Int32)))) (fun M7 => some M7))) : Option (Mm)) (fun j5 => Lt (s13.1 + (1 : Int32)) (fun v8 => some (.inl (v8, j5))))))
def f_X2_hearAs (o0 : Nat) (x1 : Int32) (x2 : Int32) (o3 : Nat) (M : Mm) : Option (Mm) :=
  Lt (st2 M o0 0 ((M o0 0) + (1 : Int32))) (fun M1 => Bd (Lp (b_X2_hearAs_13 o0 x1 x2 o3) 100000 ((0 : Int32), M1)) (fun e9 => some e9))
set_option maxRecDepth 100000 in
set_option maxHeartbeats 4000000 in
theorem c_X2_hearAs {l : Launch} {D : va_G} {an : An} {b : Nat} {o0 : Nat} {x1 : Int32} {x2 : Int32} {o3 : Nat} (hk0 : KDF[o0]? = some (2, 0)) (hk3 : KDF[o3]? = some (9, 0)) {M : Mm} {M' : Mm} (h : f_X2_hearAs o0 x1 x2 o3 M = some M') : Ct l D an b 0 yX2_hearAs cX2_hearAs 5 none 4 [.ref (b + o0), .int x1, .int x2, .ref (b + o3)] KDF M none KDF M' := by
  refine CtX.mk (as := fun b => [.ref (b + o0), .int x1, .int x2, .ref (b + o3)]) (rv := fun b => none) (by decide) (fun b => Nat.le_of_ble_eq_true rfl) ⟨Nat.le_refl _, Nat.le_refl _⟩ (fun x X hR Z hN _ _ => ?_)
  have X : Ok x cX2_hearAs 5 RX2 none := X
  have G : Gz x 5 0 [(0, .ref (xb x + o0)), (1, .int x1), (2, .int x2), (3, .ref (xb x + o3))] [] KDF M (f_X2_hearAs o0 x1 x2 o3 M) (PsM x KDF) := by
    unfold f_X2_hearAs
    refine g1 (pc' := 1) (w_aload_n X dX2_hearAs_0 rfl 0 rfl) ?_
    refine g1 (pc' := 2) (w_dup X dX2_hearAs_1 rfl) ?_
    refine g1 (pc' := 5) (gt_2_0 X hk0 mw_304 dX2_hearAs_2) ?_
    refine g1 (pc' := 6) (w_iconst X (1) dX2_hearAs_5 (by decide)) ?_
    refine g1 (pc' := 7) (w_iadd X dX2_hearAs_6) ?_
    refine g_lt (pc' := 10) (fun M1 => [(0, .ref (xb x + o0)), (1, .int x1), (2, .int x2), (3, .ref (xb x + o3))]) (fun M1 => []) (fun M1 => M1) (pt_2_0 X Z hk0 mw_304 dX2_hearAs_7) (fun M1 => ?_)
    show Gz x 5 10 [(0, .ref (xb x + o0)), (1, .int x1), (2, .int x2), (3, .ref (xb x + o3))] [] KDF M1 _ _
    refine g1 (pc' := 11) (w_iconst X (0) dX2_hearAs_10 (by decide)) ?_
    refine g1 (pc' := 13) (lv' := [(4, .int (0 : Int32)), (0, .ref (xb x + o0)), (1, .int x1), (2, .int x2), (3, .ref (xb x + o3))]) (w_istore X dX2_hearAs_11 (by decide) rfl) ?_
    refine g_pick (lv' := [(0, .ref (xb x + o0)), (1, .int x1), (2, .int x2), (3, .ref (xb x + o3)), (4, .int (0 : Int32))]) [1, 2, 3, 4, 0] rfl ?_
    refine g_bdJ (J := 57) (fun e9 => []) (fun e9 => []) (fun e9 => e9) (g_lp (fun s13 => [(0, .ref (xb x + o0)), (1, .int x1), (2, .int x2), (3, .ref (xb x + o3)), (4, .int s13.1)]) (fun s13 => s13.2) (fun s13 => ?_) 100000 ((0 : Int32), M1)) (fun e9 => ?_)
    · show Gz x 5 13 [(0, .ref (xb x + o0)), (1, .int x1), (2, .int x2), (3, .ref (xb x + o3)), (4, .int s13.1)] [] KDF s13.2 (b_X2_hearAs_13 o0 x1 x2 o3 s13) _
      unfold b_X2_hearAs_13
      refine g1 (pc' := 15) (w_iload X dX2_hearAs_13 4 rfl) ?_
      refine g1 (pc' := 16) (w_aload_n X dX2_hearAs_15 rfl 3 rfl) ?_
      refine g1 (pc' := 19) (gt_9_0 X hk3 mw_113 dX2_hearAs_16) ?_
      refine g_if (pcT := 57) (pcF := 22) (w_icmp_ge (tgt := 57) X dX2_hearAs_19 (by decide)) (fun h2 => ?_) (fun h2 => ?_)
      · refine g_inr ?_
        exact g_end [] rfl rfl rfl
      · refine g1 (pc' := 23) (w_iload_n X dX2_hearAs_22 rfl 1 rfl) ?_
        refine g1 (pc' := 25) (w_iload X dX2_hearAs_23 4 rfl) ?_
        refine g1 (pc' := 26) (w_aload_n X dX2_hearAs_25 rfl 3 rfl) ?_
        refine g1 (pc' := 29) (gt_9_0 X hk3 mw_113 dX2_hearAs_26) ?_
        refine g_bd (pc' := 32) (fun r3 => [(0, .ref (xb x + o0)), (1, .int x1), (2, .int x2), (3, .ref (xb x + o3)), (4, .int s13.1)]) (fun r3 => [.int r3]) (fun r3 => s13.2) (fun r3 h => k_X5_withLate X hR hN Z  mw_868 (by decide) (Nat.le_of_ble_eq_true rfl) dX2_hearAs_29 h) (fun r3 => ?_)
        show Gz x 5 32 [(0, .ref (xb x + o0)), (1, .int x1), (2, .int x2), (3, .ref (xb x + o3)), (4, .int s13.1)] [.int r3] KDF s13.2 _ _
        refine g1 (pc' := 33) (w_iload_n X dX2_hearAs_32 rfl 2 rfl) ?_
        refine g_bdJ (J := 51) (fun j5 => [(0, .ref (xb x + o0)), (1, .int x1), (2, .int x2), (3, .ref (xb x + o3)), (4, .int s13.1)]) (fun j5 => []) (fun j5 => j5) ?_ (fun j5 => ?_)
        · refine g_if (pcT := 51) (pcF := 36) (w_icmp_eq (tgt := 51) X dX2_hearAs_33 (by decide)) (fun h6 => ?_) (fun h6 => ?_)
          · exact g_end [0, 1, 2, 3, 4] rfl rfl rfl
          · refine g1 (pc' := 37) (w_aload_n X dX2_hearAs_36 rfl 0 rfl) ?_
            refine g1 (pc' := 38) (w_dup X dX2_hearAs_37 rfl) ?_
            refine g1 (pc' := 41) (gt_2_1 X hk0 mw_306 dX2_hearAs_38) ?_
            refine g1 (pc' := 42) (w_iconst X (1) dX2_hearAs_41 (by decide)) ?_
            refine g1 (pc' := 44) (w_iload X dX2_hearAs_42 4 rfl) ?_
            refine g1 (pc' := 45) (w_ishl X dX2_hearAs_44) ?_
            refine g1 (pc' := 46) (w_iconst X (-1) dX2_hearAs_45 (by decide)) ?_
            refine g1 (pc' := 47) (w_ixor X dX2_hearAs_46) ?_
            refine g1 (pc' := 48) (w_iand X dX2_hearAs_47) ?_
            refine g_lt (pc' := 51) (fun M7 => [(0, .ref (xb x + o0)), (1, .int x1), (2, .int x2), (3, .ref (xb x + o3)), (4, .int s13.1)]) (fun M7 => []) (fun M7 => M7) (pt_2_1 X Z hk0 mw_306 dX2_hearAs_48) (fun M7 => ?_)
            show Gz x 5 51 [(0, .ref (xb x + o0)), (1, .int x1), (2, .int x2), (3, .ref (xb x + o3)), (4, .int s13.1)] [] KDF M7 _ _
            exact g_end [0, 1, 2, 3, 4] rfl rfl rfl
        · show Gz x 5 51 [(0, .ref (xb x + o0)), (1, .int x1), (2, .int x2), (3, .ref (xb x + o3)), (4, .int s13.1)] [] KDF j5 _ _
          refine g_lt (pc' := 54) (fun v8 => [(4, .int v8), (0, .ref (xb x + o0)), (1, .int x1), (2, .int x2), (3, .ref (xb x + o3))]) (fun v8 => []) (fun v8 => j5) (w_iinc X dX2_hearAs_51 4 rfl rfl (by decide) rfl) (fun v8 => ?_)
          show Gz x 5 54 [(4, .int v8), (0, .ref (xb x + o0)), (1, .int x1), (2, .int x2), (3, .ref (xb x + o3))] [] KDF j5 _ _
          refine g1 (pc' := 13) (w_goto X dX2_hearAs_54 (by decide)) ?_
          refine g_inl ?_
          exact g_end [1, 2, 3, 4, 0] rfl rfl rfl
    · show Gz x 5 57 [] [] KDF e9 _ _
      exact g_rM X dX2_hearAs_57
  exact G _ h _ rfl
theorem k_X2_hearAs {x : Cxt} {cc : ByteArray} {nL : Nat} {own : String} {ret : Option FieldType} (X : Ok x cc nL own ret) {d : Nat} (hR : Rm x d KDF) (hN : Nst x) (Z : xz x = 0) {pc : Nat} {lv : List (Nat × Value)} {rest : List Value} {M : Mm} {o0 : Nat} {x1 : Int32} {x2 : Int32} {o3 : Nat} (hk0 : KDF[o0]? = some (2, 0)) (hk3 : KDF[o3]? = some (9, 0)) {idx : Nat} (hw : Cond.methodLink own idx yX2_hearAs ∈ tbG) (hdd : 4 + 1 ≤ d) (hrm : (rest.map fun v => v.category).sum ≤ 8) (hd : decode cc pc = .ok (.invokevirtual idx, 3)) {M' : Mm} (h : f_X2_hearAs o0 x1 x2 o3 M = some M') : StpZ x nL pc lv (.ref (xb x + o3) :: .int x2 :: .int x1 :: .ref (xb x + o0) :: rest) KDF M (pc + 3) lv (rest) KDF M' :=
  w_callV (st := []) (As := [.int x1, .int x2, .ref (xb x + o3)]) X hR hN (CtX0 Z (c_X2_hearAs hk0 hk3 h)) ⟨Nat.le_refl _, Nat.le_refl _⟩ ⟨Nat.le_refl _, Nat.le_refl _⟩ hk0 (ci := 2) (fs := fs_2 o0) (fun _ _ _ => rfl) rfl hw mw_865 mw_866 mw_71 mw_867 (n := 3) (by decide +kernel) rfl hdd (by decide) hrm hd
def f_X2_mayBeLate (o0 : Nat) (x1 : Int32) (M : Mm) : Int32 :=
  (if ((sr (M o0 1) x1) &&& (1 : Int32)) = 0 then (0 : Int32) else (1 : Int32))
theorem z_X2_mayBeLate {o0 : Nat} {x1 : Int32} {M : Mm} : zb (f_X2_mayBeLate o0 x1 M) := by
  unfold f_X2_mayBeLate
  repeat' (first | exact zb0 | exact zb1 | apply zbi)
set_option maxRecDepth 100000 in
set_option maxHeartbeats 4000000 in
theorem c_X2_mayBeLate {l : Launch} {D : va_G} {an : An} {b : Nat} {o0 : Nat} {x1 : Int32} (hk0 : KDF[o0]? = some (2, 0)) {M : Mm}  : Ct l D an b 0 yX2_mayBeLate cX2_mayBeLate 2 (some .boolean) 1 [.ref (b + o0), .int x1] KDF M (some (.int (f_X2_mayBeLate o0 x1 M))) KDF M := by
  refine CtX.mk (as := fun b => [.ref (b + o0), .int x1]) (rv := fun b => (some (.int (f_X2_mayBeLate o0 x1 M)))) (by decide) (fun b => Nat.le_of_ble_eq_true rfl) ⟨Nat.le_refl _, Nat.le_refl _⟩ (fun x X hR Z hN _ _ => ?_)
  have X : Ok x cX2_mayBeLate 2 RX2 (some .boolean) := X
  have G : Gz x 2 0 [(0, .ref (xb x + o0)), (1, .int x1)] [] KDF M (some (f_X2_mayBeLate o0 x1 M)) (PsI x KDF M) := by
    unfold f_X2_mayBeLate
    refine g1 (pc' := 1) (w_aload_n X dX2_mayBeLate_0 rfl 0 rfl) ?_
    refine g1 (pc' := 4) (gt_2_1 X hk0 mw_306 dX2_mayBeLate_1) ?_
    refine g1 (pc' := 5) (w_iload_n X dX2_mayBeLate_4 rfl 1 rfl) ?_
    refine g1 (pc' := 6) (w_ishr X dX2_mayBeLate_5) ?_
    refine g1 (pc' := 7) (w_iconst X (1) dX2_mayBeLate_6 (by decide)) ?_
    refine g1 (pc' := 8) (w_iand X dX2_mayBeLate_7) ?_
    refine g_ifS (pcT := 15) (pcF := 11) (w_if_eq (tgt := 15) X dX2_mayBeLate_8 (by decide)) (fun h1 => ?_) (fun h1 => ?_)
    · refine g1 (pc' := 16) (w_iconst X (0) dX2_mayBeLate_15 (by decide)) ?_
      exact g_rZ X zb0 dX2_mayBeLate_16
    · refine g1 (pc' := 12) (w_iconst X (1) dX2_mayBeLate_11 (by decide)) ?_
      refine g1 (pc' := 16) (w_goto X dX2_mayBeLate_12 (by decide)) ?_
      exact g_rZ X zb1 dX2_mayBeLate_16
  exact G _ rfl _ rfl
theorem k_X2_mayBeLate {x : Cxt} {cc : ByteArray} {nL : Nat} {own : String} {ret : Option FieldType} (X : Ok x cc nL own ret) {d : Nat} (hR : Rm x d KDF) (hN : Nst x) (Z : xz x = 0) {pc : Nat} {lv : List (Nat × Value)} {rest : List Value} {M : Mm} {o0 : Nat} {x1 : Int32} (hk0 : KDF[o0]? = some (2, 0)) {idx : Nat} (hw : Cond.methodLink own idx yX2_mayBeLate ∈ tbG) (hdd : 1 + 1 ≤ d) (hrm : (rest.map fun v => v.category).sum ≤ 8) (hd : decode cc pc = .ok (.invokevirtual idx, 3))  : StpZ x nL pc lv (.int x1 :: .ref (xb x + o0) :: rest) KDF M (pc + 3) lv (.int (f_X2_mayBeLate o0 x1 M) :: rest) KDF M :=
  w_callV (st := []) (As := [.int x1]) X hR hN (CtX0 Z (c_X2_mayBeLate hk0 )) ⟨Nat.le_refl _, Nat.le_refl _⟩ ⟨Nat.le_refl _, Nat.le_refl _⟩ hk0 (ci := 2) (fs := fs_2 o0) (fun _ _ _ => rfl) rfl hw mw_882 mw_21 mw_71 mw_883 (n := 1) (by decide +kernel) rfl hdd (by decide) hrm hd
def b_X2_heardAlike_17 (o0 : Nat) (x1 : Int32) (o3 : Nat) (M : Mm) (r1 : Int32) (s17 : Int32 × Int32) : Option ((Int32 × Int32) ⊕ (Int32)) :=
  (if (M o3 0) ≤ s17.2 then some (.inr s17.1) else Bd (((if (f_X2_mayBeLate o0 s17.2 M) = 0 then some s17.1 else Bd (f_X5_withLate x1 s17.2 (M o3 0)) (fun r6 => (if r6 = r1 then Lt (s17.1 + (1 : Int32)) (fun v8 => some v8) else some s17.1)))) : Option (Int32)) (fun j4 => Lt (s17.2 + (1 : Int32)) (fun v9 => some (.inl (j4, v9)))))
def f_X2_heardAlike (o0 : Nat) (x1 : Int32) (x2 : Int32) (o3 : Nat) (M : Mm) : Option (Int32) :=
  Bd (f_X5_withLate x1 x2 (M o3 0)) (fun r1 => Bd (Lp (b_X2_heardAlike_17 o0 x1 o3 M r1) 100000 ((0 : Int32), (0 : Int32))) (fun e10 => some e10))
set_option maxRecDepth 100000 in
set_option maxHeartbeats 4000000 in
theorem c_X2_heardAlike {l : Launch} {D : va_G} {an : An} {b : Nat} {o0 : Nat} {x1 : Int32} {x2 : Int32} {o3 : Nat} (hk0 : KDF[o0]? = some (2, 0)) (hk3 : KDF[o3]? = some (9, 0)) {M : Mm} {r : Int32} (h : f_X2_heardAlike o0 x1 x2 o3 M = some r) : Ct l D an b 0 yX2_heardAlike cX2_heardAlike 7 (some .int) 4 [.ref (b + o0), .int x1, .int x2, .ref (b + o3)] KDF M (some (.int r)) KDF M := by
  refine CtX.mk (as := fun b => [.ref (b + o0), .int x1, .int x2, .ref (b + o3)]) (rv := fun b => (some (.int r))) (by decide) (fun b => Nat.le_of_ble_eq_true rfl) ⟨Nat.le_refl _, Nat.le_refl _⟩ (fun x X hR Z hN _ _ => ?_)
  have X : Ok x cX2_heardAlike 7 RX2 (some .int) := X
  have G : Gz x 7 0 [(0, .ref (xb x + o0)), (1, .int x1), (2, .int x2), (3, .ref (xb x + o3))] [] KDF M (f_X2_heardAlike o0 x1 x2 o3 M) (PsI x KDF M) := by
    unfold f_X2_heardAlike
    refine g1 (pc' := 1) (w_iload_n X dX2_heardAlike_0 rfl 1 rfl) ?_
    refine g1 (pc' := 2) (w_iload_n X dX2_heardAlike_1 rfl 2 rfl) ?_
    refine g1 (pc' := 3) (w_aload_n X dX2_heardAlike_2 rfl 3 rfl) ?_
    refine g1 (pc' := 6) (gt_9_0 X hk3 mw_113 dX2_heardAlike_3) ?_
    refine g_bd (pc' := 9) (fun r1 => [(0, .ref (xb x + o0)), (1, .int x1), (2, .int x2), (3, .ref (xb x + o3))]) (fun r1 => [.int r1]) (fun r1 => M) (fun r1 h => k_X5_withLate X hR hN Z  mw_868 (by decide) (Nat.le_of_ble_eq_true rfl) dX2_heardAlike_6 h) (fun r1 => ?_)
    show Gz x 7 9 [(0, .ref (xb x + o0)), (1, .int x1), (2, .int x2), (3, .ref (xb x + o3))] [.int r1] KDF M _ _
    refine g1 (pc' := 11) (lv' := [(4, .int r1), (0, .ref (xb x + o0)), (1, .int x1), (2, .int x2), (3, .ref (xb x + o3))]) (w_istore X dX2_heardAlike_9 (by decide) rfl) ?_
    refine g1 (pc' := 12) (w_iconst X (0) dX2_heardAlike_11 (by decide)) ?_
    refine g1 (pc' := 14) (lv' := [(5, .int (0 : Int32)), (4, .int r1), (0, .ref (xb x + o0)), (1, .int x1), (2, .int x2), (3, .ref (xb x + o3))]) (w_istore X dX2_heardAlike_12 (by decide) rfl) ?_
    refine g1 (pc' := 15) (w_iconst X (0) dX2_heardAlike_14 (by decide)) ?_
    refine g1 (pc' := 17) (lv' := [(6, .int (0 : Int32)), (5, .int (0 : Int32)), (4, .int r1), (0, .ref (xb x + o0)), (1, .int x1), (2, .int x2), (3, .ref (xb x + o3))]) (w_istore X dX2_heardAlike_15 (by decide) rfl) ?_
    refine g_pick (lv' := [(0, .ref (xb x + o0)), (1, .int x1), (3, .ref (xb x + o3)), (4, .int r1), (5, .int (0 : Int32)), (6, .int (0 : Int32))]) [3, 4, 6, 2, 1, 0] rfl ?_
    refine g_bdJ (J := 59) (fun e10 => [(5, .int e10)]) (fun e10 => []) (fun e10 => M) (g_lp (fun s17 => [(0, .ref (xb x + o0)), (1, .int x1), (3, .ref (xb x + o3)), (4, .int r1), (5, .int s17.1), (6, .int s17.2)]) (fun s17 => M) (fun s17 => ?_) 100000 ((0 : Int32), (0 : Int32))) (fun e10 => ?_)
    · show Gz x 7 17 [(0, .ref (xb x + o0)), (1, .int x1), (3, .ref (xb x + o3)), (4, .int r1), (5, .int s17.1), (6, .int s17.2)] [] KDF M (b_X2_heardAlike_17 o0 x1 o3 M r1 s17) _
      unfold b_X2_heardAlike_17
      refine g1 (pc' := 19) (w_iload X dX2_heardAlike_17 5 rfl) ?_
      refine g1 (pc' := 20) (w_aload_n X dX2_heardAlike_19 rfl 2 rfl) ?_
      refine g1 (pc' := 23) (gt_9_0 X hk3 mw_113 dX2_heardAlike_20) ?_
      refine g_if (pcT := 59) (pcF := 26) (w_icmp_ge (tgt := 59) X dX2_heardAlike_23 (by decide)) (fun h2 => ?_) (fun h2 => ?_)
      · refine g_inr ?_
        exact g_end [4] rfl rfl rfl
      · refine g1 (pc' := 27) (w_aload_n X dX2_heardAlike_26 rfl 0 rfl) ?_
        refine g1 (pc' := 29) (w_iload X dX2_heardAlike_27 5 rfl) ?_
        refine g1 (pc' := 32) (k_X2_mayBeLate X hR hN Z hk0 mw_880 (by decide) (Nat.le_of_ble_eq_true rfl) dX2_heardAlike_29) ?_
        refine g_bdJ (J := 53) (fun j4 => [(0, .ref (xb x + o0)), (1, .int x1), (3, .ref (xb x + o3)), (4, .int r1), (5, .int j4), (6, .int s17.2)]) (fun j4 => []) (fun j4 => M) ?_ (fun j4 => ?_)
        · refine g_if (pcT := 53) (pcF := 35) (w_if_eq (tgt := 53) X dX2_heardAlike_32 (by decide)) (fun h5 => ?_) (fun h5 => ?_)
          · exact g_end [0, 1, 2, 3, 4, 5] rfl rfl rfl
          · refine g1 (pc' := 36) (w_iload_n X dX2_heardAlike_35 rfl 1 rfl) ?_
            refine g1 (pc' := 38) (w_iload X dX2_heardAlike_36 5 rfl) ?_
            refine g1 (pc' := 39) (w_aload_n X dX2_heardAlike_38 rfl 2 rfl) ?_
            refine g1 (pc' := 42) (gt_9_0 X hk3 mw_113 dX2_heardAlike_39) ?_
            refine g_bd (pc' := 45) (fun r6 => [(0, .ref (xb x + o0)), (1, .int x1), (3, .ref (xb x + o3)), (4, .int r1), (5, .int s17.1), (6, .int s17.2)]) (fun r6 => [.int r6]) (fun r6 => M) (fun r6 h => k_X5_withLate X hR hN Z  mw_868 (by decide) (Nat.le_of_ble_eq_true rfl) dX2_heardAlike_42 h) (fun r6 => ?_)
            show Gz x 7 45 [(0, .ref (xb x + o0)), (1, .int x1), (3, .ref (xb x + o3)), (4, .int r1), (5, .int s17.1), (6, .int s17.2)] [.int r6] KDF M _ _
            refine g1 (pc' := 47) (w_iload X dX2_heardAlike_45 3 rfl) ?_
            refine g_if (pcT := 50) (pcF := 53) (w_icmp_ne (tgt := 53) X dX2_heardAlike_47 (by decide)) (fun h7 => ?_) (fun h7 => ?_)
            · refine g_lt (pc' := 53) (fun v8 => [(5, .int v8), (0, .ref (xb x + o0)), (1, .int x1), (3, .ref (xb x + o3)), (4, .int r1), (6, .int s17.2)]) (fun v8 => []) (fun v8 => M) (w_iinc X dX2_heardAlike_50 4 rfl rfl (by decide) rfl) (fun v8 => ?_)
              show Gz x 7 53 [(5, .int v8), (0, .ref (xb x + o0)), (1, .int x1), (3, .ref (xb x + o3)), (4, .int r1), (6, .int s17.2)] [] KDF M _ _
              exact g_end [1, 2, 3, 4, 0, 5] rfl rfl rfl
            · exact g_end [0, 1, 2, 3, 4, 5] rfl rfl rfl
        · show Gz x 7 53 [(0, .ref (xb x + o0)), (1, .int x1), (3, .ref (xb x + o3)), (4, .int r1), (5, .int j4), (6, .int s17.2)] [] KDF M _ _
          refine g_lt (pc' := 56) (fun v9 => [(6, .int v9), (0, .ref (xb x + o0)), (1, .int x1), (3, .ref (xb x + o3)), (4, .int r1), (5, .int j4)]) (fun v9 => []) (fun v9 => M) (w_iinc X dX2_heardAlike_53 5 rfl rfl (by decide) rfl) (fun v9 => ?_)
          show Gz x 7 56 [(6, .int v9), (0, .ref (xb x + o0)), (1, .int x1), (3, .ref (xb x + o3)), (4, .int r1), (5, .int j4)] [] KDF M _ _
          refine g1 (pc' := 17) (w_goto X dX2_heardAlike_56 (by decide)) ?_
          refine g_inl ?_
          exact g_end [1, 2, 3, 4, 5, 0] rfl rfl rfl
    · show Gz x 7 59 [(5, .int e10)] [] KDF M _ _
      refine g1 (pc' := 61) (w_iload X dX2_heardAlike_59 0 rfl) ?_
      exact g_rI X dX2_heardAlike_61
  exact G _ h _ rfl
theorem k_X2_heardAlike {x : Cxt} {cc : ByteArray} {nL : Nat} {own : String} {ret : Option FieldType} (X : Ok x cc nL own ret) {d : Nat} (hR : Rm x d KDF) (hN : Nst x) (Z : xz x = 0) {pc : Nat} {lv : List (Nat × Value)} {rest : List Value} {M : Mm} {o0 : Nat} {x1 : Int32} {x2 : Int32} {o3 : Nat} (hk0 : KDF[o0]? = some (2, 0)) (hk3 : KDF[o3]? = some (9, 0)) {idx : Nat} (hw : Cond.methodLink own idx yX2_heardAlike ∈ tbG) (hdd : 4 + 1 ≤ d) (hrm : (rest.map fun v => v.category).sum ≤ 8) (hd : decode cc pc = .ok (.invokevirtual idx, 3)) {r : Int32} (h : f_X2_heardAlike o0 x1 x2 o3 M = some r) : StpZ x nL pc lv (.ref (xb x + o3) :: .int x2 :: .int x1 :: .ref (xb x + o0) :: rest) KDF M (pc + 3) lv (.int r :: rest) KDF M :=
  w_callV (st := []) (As := [.int x1, .int x2, .ref (xb x + o3)]) X hR hN (CtX0 Z (c_X2_heardAlike hk0 hk3 h)) ⟨Nat.le_refl _, Nat.le_refl _⟩ ⟨Nat.le_refl _, Nat.le_refl _⟩ hk0 (ci := 2) (fs := fs_2 o0) (fun _ _ _ => rfl) rfl hw mw_886 mw_22 mw_71 mw_887 (n := 3) (by decide +kernel) rfl hdd (by decide) hrm hd
def b_X2_greatestPartAlike_5 (o0 : Nat) (x1 : Int32) (o2 : Nat) (M : Mm) (s5 : Int32 × Int32) : Option ((Int32 × Int32) ⊕ (Int32)) :=
  (if (M o2 0) ≤ s5.2 then some (.inr s5.1) else Bd (((if (f_X2_mayBeLate o0 s5.2 M) = 0 then some s5.1 else Bd (f_X2_heardAlike o0 x1 s5.2 o2 M) (fun r5 => Lt (if s5.1 < r5 then r5 else s5.1) (fun v6 => some v6)))) : Option (Int32)) (fun j3 => Lt (s5.2 + (1 : Int32)) (fun v7 => some (.inl (j3, v7)))))
def f_X2_greatestPartAlike (o0 : Nat) (x1 : Int32) (o2 : Nat) (M : Mm) : Option (Int32) :=
  Bd (Lp (b_X2_greatestPartAlike_5 o0 x1 o2 M) 100000 ((0 : Int32), (0 : Int32))) (fun e8 => some e8)
set_option maxRecDepth 100000 in
set_option maxHeartbeats 4000000 in
theorem c_X2_greatestPartAlike {l : Launch} {D : va_G} {an : An} {b : Nat} {o0 : Nat} {x1 : Int32} {o2 : Nat} (hk0 : KDF[o0]? = some (2, 0)) (hk2 : KDF[o2]? = some (9, 0)) {M : Mm} {r : Int32} (h : f_X2_greatestPartAlike o0 x1 o2 M = some r) : Ct l D an b 0 yX2_greatestPartAlike cX2_greatestPartAlike 5 (some .int) 5 [.ref (b + o0), .int x1, .ref (b + o2)] KDF M (some (.int r)) KDF M := by
  refine CtX.mk (as := fun b => [.ref (b + o0), .int x1, .ref (b + o2)]) (rv := fun b => (some (.int r))) (by decide) (fun b => Nat.le_of_ble_eq_true rfl) ⟨Nat.le_refl _, Nat.le_refl _⟩ (fun x X hR Z hN _ _ => ?_)
  have X : Ok x cX2_greatestPartAlike 5 RX2 (some .int) := X
  have G : Gz x 5 0 [(0, .ref (xb x + o0)), (1, .int x1), (2, .ref (xb x + o2))] [] KDF M (f_X2_greatestPartAlike o0 x1 o2 M) (PsI x KDF M) := by
    unfold f_X2_greatestPartAlike
    refine g1 (pc' := 1) (w_iconst X (0) dX2_greatestPartAlike_0 (by decide)) ?_
    refine g1 (pc' := 2) (lv' := [(3, .int (0 : Int32)), (0, .ref (xb x + o0)), (1, .int x1), (2, .ref (xb x + o2))]) (w_istore_n X dX2_greatestPartAlike_1 rfl (by decide) rfl) ?_
    refine g1 (pc' := 3) (w_iconst X (0) dX2_greatestPartAlike_2 (by decide)) ?_
    refine g1 (pc' := 5) (lv' := [(4, .int (0 : Int32)), (3, .int (0 : Int32)), (0, .ref (xb x + o0)), (1, .int x1), (2, .ref (xb x + o2))]) (w_istore X dX2_greatestPartAlike_3 (by decide) rfl) ?_
    refine g_pick (lv' := [(0, .ref (xb x + o0)), (1, .int x1), (2, .ref (xb x + o2)), (3, .int (0 : Int32)), (4, .int (0 : Int32))]) [2, 3, 4, 1, 0] rfl ?_
    refine g_bdJ (J := 42) (fun e8 => [(3, .int e8)]) (fun e8 => []) (fun e8 => M) (g_lp (fun s5 => [(0, .ref (xb x + o0)), (1, .int x1), (2, .ref (xb x + o2)), (3, .int s5.1), (4, .int s5.2)]) (fun s5 => M) (fun s5 => ?_) 100000 ((0 : Int32), (0 : Int32))) (fun e8 => ?_)
    · show Gz x 5 5 [(0, .ref (xb x + o0)), (1, .int x1), (2, .ref (xb x + o2)), (3, .int s5.1), (4, .int s5.2)] [] KDF M (b_X2_greatestPartAlike_5 o0 x1 o2 M s5) _
      unfold b_X2_greatestPartAlike_5
      refine g1 (pc' := 7) (w_iload X dX2_greatestPartAlike_5 4 rfl) ?_
      refine g1 (pc' := 8) (w_aload_n X dX2_greatestPartAlike_7 rfl 2 rfl) ?_
      refine g1 (pc' := 11) (gt_9_0 X hk2 mw_113 dX2_greatestPartAlike_8) ?_
      refine g_if (pcT := 42) (pcF := 14) (w_icmp_ge (tgt := 42) X dX2_greatestPartAlike_11 (by decide)) (fun h1 => ?_) (fun h1 => ?_)
      · refine g_inr ?_
        exact g_end [3] rfl rfl rfl
      · refine g1 (pc' := 15) (w_aload_n X dX2_greatestPartAlike_14 rfl 0 rfl) ?_
        refine g1 (pc' := 17) (w_iload X dX2_greatestPartAlike_15 4 rfl) ?_
        refine g1 (pc' := 20) (k_X2_mayBeLate X hR hN Z hk0 mw_880 (by decide) (Nat.le_of_ble_eq_true rfl) dX2_greatestPartAlike_17) ?_
        refine g_bdJ (J := 36) (fun j3 => [(0, .ref (xb x + o0)), (1, .int x1), (2, .ref (xb x + o2)), (3, .int j3), (4, .int s5.2)]) (fun j3 => []) (fun j3 => M) ?_ (fun j3 => ?_)
        · refine g_if (pcT := 36) (pcF := 23) (w_if_eq (tgt := 36) X dX2_greatestPartAlike_20 (by decide)) (fun h4 => ?_) (fun h4 => ?_)
          · exact g_end [0, 1, 2, 3, 4] rfl rfl rfl
          · refine g1 (pc' := 24) (w_iload_n X dX2_greatestPartAlike_23 rfl 3 rfl) ?_
            refine g1 (pc' := 25) (w_aload_n X dX2_greatestPartAlike_24 rfl 0 rfl) ?_
            refine g1 (pc' := 26) (w_iload_n X dX2_greatestPartAlike_25 rfl 1 rfl) ?_
            refine g1 (pc' := 28) (w_iload X dX2_greatestPartAlike_26 4 rfl) ?_
            refine g1 (pc' := 29) (w_aload_n X dX2_greatestPartAlike_28 rfl 2 rfl) ?_
            refine g_bd (pc' := 32) (fun r5 => [(0, .ref (xb x + o0)), (1, .int x1), (2, .ref (xb x + o2)), (3, .int s5.1), (4, .int s5.2)]) (fun r5 => [.int r5, .int s5.1]) (fun r5 => M) (fun r5 h => k_X2_heardAlike X hR hN Z hk0 hk2 mw_884 (by decide) (Nat.le_of_ble_eq_true rfl) dX2_greatestPartAlike_29 h) (fun r5 => ?_)
            show Gz x 5 32 [(0, .ref (xb x + o0)), (1, .int x1), (2, .ref (xb x + o2)), (3, .int s5.1), (4, .int s5.2)] [.int r5, .int s5.1] KDF M _ _
            refine g1 (pc' := 35) (w_mmax X hR mw_888 mw_643 mw_77 mw_644 (by decide) (Nat.le_of_ble_eq_true rfl) ⟨Nat.le_refl _, Nat.le_refl _⟩ dX2_greatestPartAlike_32) ?_
            refine g_lt (pc' := 36) (fun v6 => [(3, .int v6), (0, .ref (xb x + o0)), (1, .int x1), (2, .ref (xb x + o2)), (4, .int s5.2)]) (fun v6 => []) (fun v6 => M) (w_istore_n X dX2_greatestPartAlike_35 rfl (by decide) rfl) (fun v6 => ?_)
            show Gz x 5 36 [(3, .int v6), (0, .ref (xb x + o0)), (1, .int x1), (2, .ref (xb x + o2)), (4, .int s5.2)] [] KDF M _ _
            exact g_end [1, 2, 3, 0, 4] rfl rfl rfl
        · show Gz x 5 36 [(0, .ref (xb x + o0)), (1, .int x1), (2, .ref (xb x + o2)), (3, .int j3), (4, .int s5.2)] [] KDF M _ _
          refine g_lt (pc' := 39) (fun v7 => [(4, .int v7), (0, .ref (xb x + o0)), (1, .int x1), (2, .ref (xb x + o2)), (3, .int j3)]) (fun v7 => []) (fun v7 => M) (w_iinc X dX2_greatestPartAlike_36 4 rfl rfl (by decide) rfl) (fun v7 => ?_)
          show Gz x 5 39 [(4, .int v7), (0, .ref (xb x + o0)), (1, .int x1), (2, .ref (xb x + o2)), (3, .int j3)] [] KDF M _ _
          refine g1 (pc' := 5) (w_goto X dX2_greatestPartAlike_39 (by decide)) ?_
          refine g_inl ?_
          exact g_end [1, 2, 3, 4, 0] rfl rfl rfl
    · show Gz x 5 42 [(3, .int e8)] [] KDF M _ _
      refine g1 (pc' := 43) (w_iload_n X dX2_greatestPartAlike_42 rfl 0 rfl) ?_
      exact g_rI X dX2_greatestPartAlike_43
  exact G _ h _ rfl
theorem k_X2_greatestPartAlike {x : Cxt} {cc : ByteArray} {nL : Nat} {own : String} {ret : Option FieldType} (X : Ok x cc nL own ret) {d : Nat} (hR : Rm x d KDF) (hN : Nst x) (Z : xz x = 0) {pc : Nat} {lv : List (Nat × Value)} {rest : List Value} {M : Mm} {o0 : Nat} {x1 : Int32} {o2 : Nat} (hk0 : KDF[o0]? = some (2, 0)) (hk2 : KDF[o2]? = some (9, 0)) {idx : Nat} (hw : Cond.methodLink own idx yX2_greatestPartAlike ∈ tbG) (hdd : 5 + 1 ≤ d) (hrm : (rest.map fun v => v.category).sum ≤ 8) (hd : decode cc pc = .ok (.invokevirtual idx, 3)) {r : Int32} (h : f_X2_greatestPartAlike o0 x1 o2 M = some r) : StpZ x nL pc lv (.ref (xb x + o2) :: .int x1 :: .ref (xb x + o0) :: rest) KDF M (pc + 3) lv (.int r :: rest) KDF M :=
  w_callV (st := []) (As := [.int x1, .ref (xb x + o2)]) X hR hN (CtX0 Z (c_X2_greatestPartAlike hk0 hk2 h)) ⟨Nat.le_refl _, Nat.le_refl _⟩ ⟨Nat.le_refl _, Nat.le_refl _⟩ hk0 (ci := 2) (fs := fs_2 o0) (fun _ _ _ => rfl) rfl hw mw_877 mw_878 mw_71 mw_879 (n := 2) (by decide +kernel) rfl hdd (by decide) hrm hd
def f_X2_enter (o0 : Nat) (x1 : Int32) (x2 : Int32) (M : Mm) : Option (Int32 × Mm) :=
  (if (M o0 2) < (15 : Int32) then Gd (ib (M o0 2) 15) (Lt (st2 M 118 (ix (M o0 2)) x1) (fun M3 => Gd (ib (M3 o0 2) 15) (Lt (st2 M3 119 (ix (M3 o0 2)) x2) (fun M5 => Lt (st2 M5 o0 2 ((M5 o0 2) + (1 : Int32))) (fun M6 => some ((1 : Int32), M6)))))) else some ((0 : Int32), M))
set_option maxRecDepth 100000 in
set_option maxHeartbeats 4000000 in
theorem c_X2_enter {l : Launch} {D : va_G} {an : An} {b : Nat} {o0 : Nat} {x1 : Int32} {x2 : Int32} (hk0 : KDF[o0]? = some (2, 0)) {M : Mm} {r : Int32} {M' : Mm} (h : f_X2_enter o0 x1 x2 M = some (r, M')) : Ct l D an b 0 yX2_enter cX2_enter 3 (some .boolean) 1 [.ref (b + o0), .int x1, .int x2] KDF M (some (.int r)) KDF M' := by
  refine CtX.mk (as := fun b => [.ref (b + o0), .int x1, .int x2]) (rv := fun b => (some (.int r))) (by decide) (fun b => Nat.le_of_ble_eq_true rfl) ⟨Nat.le_refl _, Nat.le_refl _⟩ (fun x X hR Z hN _ _ => ?_)
  have X : Ok x cX2_enter 3 RX2 (some .boolean) := X
  have G : Gz x 3 0 [(0, .ref (xb x + o0)), (1, .int x1), (2, .int x2)] [] KDF M (f_X2_enter o0 x1 x2 M) (PsI2 x KDF) := by
    unfold f_X2_enter
    refine g1 (pc' := 1) (w_aload_n X dX2_enter_0 rfl 0 rfl) ?_
    refine g1 (pc' := 4) (gt_2_2 X hk0 mw_308 dX2_enter_1) ?_
    refine g1 (pc' := 6) (w_bipush X (15) dX2_enter_4 (by decide)) ?_
    refine g_if (pcT := 11) (pcF := 9) (w_icmp_lt (tgt := 11) X dX2_enter_6 (by decide)) (fun h1 => ?_) (fun h1 => ?_)
    · refine g1 (pc' := 12) (w_aload_n X dX2_enter_11 rfl 0 rfl) ?_
      refine g1 (pc' := 15) (gt_2_3 X hk0 mw_310 dX2_enter_12) ?_
      refine g1 (pc' := 16) (w_aload_n X dX2_enter_15 rfl 0 rfl) ?_
      refine g1 (pc' := 19) (gt_2_2 X hk0 mw_308 dX2_enter_16) ?_
      refine g1 (pc' := 20) (w_iload_n X dX2_enter_19 rfl 1 rfl) ?_
      refine g_gd (fun h2 => ?_)
      refine g_lt (pc' := 21) (fun M3 => [(0, .ref (xb x + o0)), (1, .int x1), (2, .int x2)]) (fun M3 => []) (fun M3 => M3) (w_iast X Z kd_118 h2 dX2_enter_20) (fun M3 => ?_)
      show Gz x 3 21 [(0, .ref (xb x + o0)), (1, .int x1), (2, .int x2)] [] KDF M3 _ _
      refine g1 (pc' := 22) (w_aload_n X dX2_enter_21 rfl 0 rfl) ?_
      refine g1 (pc' := 25) (gt_2_4 X hk0 mw_311 dX2_enter_22) ?_
      refine g1 (pc' := 26) (w_aload_n X dX2_enter_25 rfl 0 rfl) ?_
      refine g1 (pc' := 29) (gt_2_2 X hk0 mw_308 dX2_enter_26) ?_
      refine g1 (pc' := 30) (w_iload_n X dX2_enter_29 rfl 2 rfl) ?_
      refine g_gd (fun h4 => ?_)
      refine g_lt (pc' := 31) (fun M5 => [(0, .ref (xb x + o0)), (1, .int x1), (2, .int x2)]) (fun M5 => []) (fun M5 => M5) (w_iast X Z kd_119 h4 dX2_enter_30) (fun M5 => ?_)
      show Gz x 3 31 [(0, .ref (xb x + o0)), (1, .int x1), (2, .int x2)] [] KDF M5 _ _
      refine g1 (pc' := 32) (w_aload_n X dX2_enter_31 rfl 0 rfl) ?_
      refine g1 (pc' := 33) (w_dup X dX2_enter_32 rfl) ?_
      refine g1 (pc' := 36) (gt_2_2 X hk0 mw_308 dX2_enter_33) ?_
      refine g1 (pc' := 37) (w_iconst X (1) dX2_enter_36 (by decide)) ?_
      refine g1 (pc' := 38) (w_iadd X dX2_enter_37) ?_
      refine g_lt (pc' := 41) (fun M6 => [(0, .ref (xb x + o0)), (1, .int x1), (2, .int x2)]) (fun M6 => []) (fun M6 => M6) (pt_2_2 X Z hk0 mw_308 dX2_enter_38) (fun M6 => ?_)
      show Gz x 3 41 [(0, .ref (xb x + o0)), (1, .int x1), (2, .int x2)] [] KDF M6 _ _
      refine g1 (pc' := 42) (w_iconst X (1) dX2_enter_41 (by decide)) ?_
      exact g_rZ2 X zb1 dX2_enter_42
    · refine g1 (pc' := 10) (w_iconst X (0) dX2_enter_9 (by decide)) ?_
      exact g_rZ2 X zb0 dX2_enter_10
  exact G _ h _ rfl
theorem k_X2_enter {x : Cxt} {cc : ByteArray} {nL : Nat} {own : String} {ret : Option FieldType} (X : Ok x cc nL own ret) {d : Nat} (hR : Rm x d KDF) (hN : Nst x) (Z : xz x = 0) {pc : Nat} {lv : List (Nat × Value)} {rest : List Value} {M : Mm} {o0 : Nat} {x1 : Int32} {x2 : Int32} (hk0 : KDF[o0]? = some (2, 0)) {idx : Nat} (hw : Cond.methodLink own idx yX2_enter ∈ tbG) (hdd : 1 + 1 ≤ d) (hrm : (rest.map fun v => v.category).sum ≤ 8) (hd : decode cc pc = .ok (.invokevirtual idx, 3)) {r : Int32} {M' : Mm} (h : f_X2_enter o0 x1 x2 M = some (r, M')) : StpZ x nL pc lv (.int x2 :: .int x1 :: .ref (xb x + o0) :: rest) KDF M (pc + 3) lv (.int r :: rest) KDF M' :=
  w_callV (st := []) (As := [.int x1, .int x2]) X hR hN (CtX0 Z (c_X2_enter hk0 h)) ⟨Nat.le_refl _, Nat.le_refl _⟩ ⟨Nat.le_refl _, Nat.le_refl _⟩ hk0 (ci := 2) (fs := fs_2 o0) (fun _ _ _ => rfl) rfl hw mw_894 mw_895 mw_71 mw_896 (n := 2) (by decide +kernel) rfl hdd (by decide) hrm hd
def b_X2_firstWrong_2 (o0 : Nat) (x1 : Int32) (o2 : Nat) (M : Mm) (s2 : Int32) : Option ((Int32) ⊕ ((Int32) ⊕ (Unit))) :=
  (if (M o0 2) ≤ s2 then some (.inr (.inr ())) else (if (15 : Int32) ≤ s2 then some (.inr (.inr ())) else Gd (ib s2 15) (Bd (f_X5_placeOf x1 (M 118 (ix s2)) (M o2 0)) (fun r4 => Gd (ib s2 15) ((if r4 = (M 119 (ix s2)) then Lt (s2 + (1 : Int32)) (fun v7 => some (.inl v7)) else some (.inr (.inl s2))))))))
def f_X2_firstWrong (o0 : Nat) (x1 : Int32) (o2 : Nat) (M : Mm) : Option (Int32) :=
  BdS (Lp (b_X2_firstWrong_2 o0 x1 o2 M) 100000 (0 : Int32)) (fun e8 => some (-1 : Int32))
set_option maxRecDepth 100000 in
set_option maxHeartbeats 4000000 in
theorem c_X2_firstWrong {l : Launch} {D : va_G} {an : An} {b : Nat} {o0 : Nat} {x1 : Int32} {o2 : Nat} (hk0 : KDF[o0]? = some (2, 0)) (hk2 : KDF[o2]? = some (9, 0)) {M : Mm} {r : Int32} (h : f_X2_firstWrong o0 x1 o2 M = some r) : Ct l D an b 0 yX2_firstWrong cX2_firstWrong 4 (some .int) 3 [.ref (b + o0), .int x1, .ref (b + o2)] KDF M (some (.int r)) KDF M := by
  refine CtX.mk (as := fun b => [.ref (b + o0), .int x1, .ref (b + o2)]) (rv := fun b => (some (.int r))) (by decide) (fun b => Nat.le_of_ble_eq_true rfl) ⟨Nat.le_refl _, Nat.le_refl _⟩ (fun x X hR Z hN _ _ => ?_)
  have X : Ok x cX2_firstWrong 4 RX2 (some .int) := X
  have G : Gz x 4 0 [(0, .ref (xb x + o0)), (1, .int x1), (2, .ref (xb x + o2))] [] KDF M (f_X2_firstWrong o0 x1 o2 M) (PsI x KDF M) := by
    unfold f_X2_firstWrong
    refine g1 (pc' := 1) (w_iconst X (0) dX2_firstWrong_0 (by decide)) ?_
    refine g1 (pc' := 2) (lv' := [(3, .int (0 : Int32)), (0, .ref (xb x + o0)), (1, .int x1), (2, .ref (xb x + o2))]) (w_istore_n X dX2_firstWrong_1 rfl (by decide) rfl) ?_
    refine g_pick (lv' := [(0, .ref (xb x + o0)), (1, .int x1), (2, .ref (xb x + o2)), (3, .int (0 : Int32))]) [1, 2, 3, 0] rfl ?_
    refine g_bdS (J := 47) (fun e8 => []) (fun e8 => []) (fun e8 => M) (g_lp (fun s2 => [(0, .ref (xb x + o0)), (1, .int x1), (2, .ref (xb x + o2)), (3, .int s2)]) (fun s2 => M) (fun s2 => ?_) 100000 (0 : Int32)) (fun e8 => ?_)
    · show Gz x 4 2 [(0, .ref (xb x + o0)), (1, .int x1), (2, .ref (xb x + o2)), (3, .int s2)] [] KDF M (b_X2_firstWrong_2 o0 x1 o2 M s2) _
      unfold b_X2_firstWrong_2
      refine g1 (pc' := 3) (w_iload_n X dX2_firstWrong_2 rfl 3 rfl) ?_
      refine g1 (pc' := 4) (w_aload_n X dX2_firstWrong_3 rfl 0 rfl) ?_
      refine g1 (pc' := 7) (gt_2_2 X hk0 mw_308 dX2_firstWrong_4) ?_
      refine g_if (pcT := 47) (pcF := 10) (w_icmp_ge (tgt := 47) X dX2_firstWrong_7 (by decide)) (fun h1 => ?_) (fun h1 => ?_)
      · refine g_inr ?_
        refine g_inr ?_
        exact g_end [] rfl rfl rfl
      · refine g1 (pc' := 11) (w_iload_n X dX2_firstWrong_10 rfl 3 rfl) ?_
        refine g1 (pc' := 13) (w_bipush X (15) dX2_firstWrong_11 (by decide)) ?_
        refine g_if (pcT := 47) (pcF := 16) (w_icmp_ge (tgt := 47) X dX2_firstWrong_13 (by decide)) (fun h2 => ?_) (fun h2 => ?_)
        · refine g_inr ?_
          refine g_inr ?_
          exact g_end [] rfl rfl rfl
        · refine g1 (pc' := 17) (w_iload_n X dX2_firstWrong_16 rfl 1 rfl) ?_
          refine g1 (pc' := 18) (w_aload_n X dX2_firstWrong_17 rfl 0 rfl) ?_
          refine g1 (pc' := 21) (gt_2_3 X hk0 mw_310 dX2_firstWrong_18) ?_
          refine g1 (pc' := 22) (w_iload_n X dX2_firstWrong_21 rfl 3 rfl) ?_
          refine g_gd (fun h3 => ?_)
          refine g1 (pc' := 23) (w_iald X kd_118 h3 dX2_firstWrong_22) ?_
          refine g1 (pc' := 24) (w_aload_n X dX2_firstWrong_23 rfl 2 rfl) ?_
          refine g1 (pc' := 27) (gt_9_0 X hk2 mw_113 dX2_firstWrong_24) ?_
          refine g_bd (pc' := 30) (fun r4 => [(0, .ref (xb x + o0)), (1, .int x1), (2, .ref (xb x + o2)), (3, .int s2)]) (fun r4 => [.int r4]) (fun r4 => M) (fun r4 h => k_X5_placeOf X hR hN Z  mw_909 (by decide) (Nat.le_of_ble_eq_true rfl) dX2_firstWrong_27 h) (fun r4 => ?_)
          show Gz x 4 30 [(0, .ref (xb x + o0)), (1, .int x1), (2, .ref (xb x + o2)), (3, .int s2)] [.int r4] KDF M _ _
          refine g1 (pc' := 31) (w_aload_n X dX2_firstWrong_30 rfl 0 rfl) ?_
          refine g1 (pc' := 34) (gt_2_4 X hk0 mw_311 dX2_firstWrong_31) ?_
          refine g1 (pc' := 35) (w_iload_n X dX2_firstWrong_34 rfl 3 rfl) ?_
          refine g_gd (fun h5 => ?_)
          refine g1 (pc' := 36) (w_iald X kd_119 h5 dX2_firstWrong_35) ?_
          refine g_if (pcT := 41) (pcF := 39) (w_icmp_eq (tgt := 41) X dX2_firstWrong_36 (by decide)) (fun h6 => ?_) (fun h6 => ?_)
          · refine g_lt (pc' := 44) (fun v7 => [(3, .int v7), (0, .ref (xb x + o0)), (1, .int x1), (2, .ref (xb x + o2))]) (fun v7 => []) (fun v7 => M) (w_iinc X dX2_firstWrong_41 3 rfl rfl (by decide) rfl) (fun v7 => ?_)
            show Gz x 4 44 [(3, .int v7), (0, .ref (xb x + o0)), (1, .int x1), (2, .ref (xb x + o2))] [] KDF M _ _
            refine g1 (pc' := 2) (w_goto X dX2_firstWrong_44 (by decide)) ?_
            refine g_inl ?_
            exact g_end [1, 2, 3, 0] rfl rfl rfl
          · refine g1 (pc' := 40) (w_iload_n X dX2_firstWrong_39 rfl 3 rfl) ?_
            refine g_inr ?_
            refine g_inl ?_
            exact g_rI X dX2_firstWrong_40
    · show Gz x 4 47 [] [] KDF M _ _
      refine g1 (pc' := 48) (w_iconst X (-1) dX2_firstWrong_47 (by decide)) ?_
      exact g_rI X dX2_firstWrong_48
  exact G _ h _ rfl
theorem k_X2_firstWrong {x : Cxt} {cc : ByteArray} {nL : Nat} {own : String} {ret : Option FieldType} (X : Ok x cc nL own ret) {d : Nat} (hR : Rm x d KDF) (hN : Nst x) (Z : xz x = 0) {pc : Nat} {lv : List (Nat × Value)} {rest : List Value} {M : Mm} {o0 : Nat} {x1 : Int32} {o2 : Nat} (hk0 : KDF[o0]? = some (2, 0)) (hk2 : KDF[o2]? = some (9, 0)) {idx : Nat} (hw : Cond.methodLink own idx yX2_firstWrong ∈ tbG) (hdd : 3 + 1 ≤ d) (hrm : (rest.map fun v => v.category).sum ≤ 8) (hd : decode cc pc = .ok (.invokevirtual idx, 3)) {r : Int32} (h : f_X2_firstWrong o0 x1 o2 M = some r) : StpZ x nL pc lv (.ref (xb x + o2) :: .int x1 :: .ref (xb x + o0) :: rest) KDF M (pc + 3) lv (.int r :: rest) KDF M :=
  w_callV (st := []) (As := [.int x1, .ref (xb x + o2)]) X hR hN (CtX0 Z (c_X2_firstWrong hk0 hk2 h)) ⟨Nat.le_refl _, Nat.le_refl _⟩ ⟨Nat.le_refl _, Nat.le_refl _⟩ hk0 (ci := 2) (fs := fs_2 o0) (fun _ _ _ => rfl) rfl hw mw_906 mw_907 mw_71 mw_908 (n := 2) (by decide +kernel) rfl hdd (by decide) hrm hd
