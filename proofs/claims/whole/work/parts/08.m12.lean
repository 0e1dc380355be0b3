def b_X12_without_4 (o0 : Nat) (x1 : Int32) (M : Mm) (s4 : Int32 × Int32) : Option ((Int32 × Int32) ⊕ (Int32)) :=
  (if (M o0 16) ≤ s4.2 then some (.inr s4.1) else Gd (ib ((5 : Int32) + s4.2) 23) (Bd (((if (M 137 (ix ((5 : Int32) + s4.2))) = x1 then some s4.1 else Gd (ib ((5 : Int32) + s4.2) 23) (some ((((10 : Int32) * s4.1) + (M 137 (ix ((5 : Int32) + s4.2)))) + (1 : Int32))))) : Option (Int32)) (fun j4 => Lt (s4.2 + (1 : Int32)) (fun v7 => some (.inl (j4, v7))))))
def f_X12_without (o0 : Nat) (x1 : Int32) (M : Mm) : Option (Int32) :=
  Bd (Lp (b_X12_without_4 o0 x1 M) 100000 ((0 : Int32), (0 : Int32))) (fun e8 => some e8)
set_option maxRecDepth 100000 in
set_option maxHeartbeats 4000000 in
theorem c_X12_without {l : Launch} {D : va_G} {an : An} {b : Nat} {o0 : Nat} {x1 : Int32} (hk0 : KDF[o0]? = some (12, 0)) {M : Mm} {r : Int32} (h : f_X12_without o0 x1 M = some r) : Ct l D an b 0 yX12_without cX12_without 4 (some .int) 1 [.ref (b + o0), .int x1] KDF M (some (.int r)) KDF M := by
  refine CtX.mk (as := fun b => [.ref (b + o0), .int x1]) (rv := fun b => (some (.int r))) (by decide) (fun b => Nat.le_of_ble_eq_true rfl) ⟨Nat.le_refl _, Nat.le_refl _⟩ (fun x X hR Z hN _ _ => ?_)
  have X : Ok x cX12_without 4 RX12 (some .int) := X
  have G : Gz x 4 0 [(0, .ref (xb x + o0)), (1, .int x1)] [] KDF M (f_X12_without o0 x1 M) (PsI x KDF M) := by
    unfold f_X12_without
    refine g1 (pc' := 1) (w_iconst X (0) dX12_without_0 (by decide)) ?_
    refine g1 (pc' := 2) (lv' := [(2, .int (0 : Int32)), (0, .ref (xb x + o0)), (1, .int x1)]) (w_istore_n X dX12_without_1 rfl (by decide) rfl) ?_
    refine g1 (pc' := 3) (w_iconst X (0) dX12_without_2 (by decide)) ?_
    refine g1 (pc' := 4) (lv' := [(3, .int (0 : Int32)), (2, .int (0 : Int32)), (0, .ref (xb x + o0)), (1, .int x1)]) (w_istore_n X dX12_without_3 rfl (by decide) rfl) ?_
    refine g_pick (lv' := [(0, .ref (xb x + o0)), (1, .int x1), (2, .int (0 : Int32)), (3, .int (0 : Int32))]) [2, 3, 1, 0] rfl ?_
    refine g_bdJ (J := 50) (fun e8 => [(2, .int e8)]) (fun e8 => []) (fun e8 => M) (g_lp (fun s4 => [(0, .ref (xb x + o0)), (1, .int x1), (2, .int s4.1), (3, .int s4.2)]) (fun s4 => M) (fun s4 => ?_) 100000 ((0 : Int32), (0 : Int32))) (fun e8 => ?_)
    · show Gz x 4 4 [(0, .ref (xb x + o0)), (1, .int x1), (2, .int s4.1), (3, .int s4.2)] [] KDF M (b_X12_without_4 o0 x1 M s4) _
      unfold b_X12_without_4
      refine g1 (pc' := 5) (w_iload_n X dX12_without_4 rfl 3 rfl) ?_
      refine g1 (pc' := 6) (w_aload_n X dX12_without_5 rfl 0 rfl) ?_
      refine g1 (pc' := 9) (gt_12_16 X hk0 mw_945 dX12_without_6) ?_
      refine g_if (pcT := 50) (pcF := 12) (w_icmp_ge (tgt := 50) X dX12_without_9 (by decide)) (fun h1 => ?_) (fun h1 => ?_)
      · refine g_inr ?_
        exact g_end [2] rfl rfl rfl
      · refine g1 (pc' := 13) (w_aload_n X dX12_without_12 rfl 0 rfl) ?_
        refine g1 (pc' := 16) (gt_12_24 X hk0 mw_953 dX12_without_13) ?_
        refine g1 (pc' := 17) (w_iconst X (5) dX12_without_16 (by decide)) ?_
        refine g1 (pc' := 18) (w_iload_n X dX12_without_17 rfl 3 rfl) ?_
        refine g1 (pc' := 19) (w_iadd X dX12_without_18) ?_
        refine g_gd (fun h2 => ?_)
        refine g1 (pc' := 20) (w_iald X kd_137 h2 dX12_without_19) ?_
        refine g1 (pc' := 21) (w_iload_n X dX12_without_20 rfl 1 rfl) ?_
        refine g_bdJ (J := 43) (fun j4 => [(0, .ref (xb x + o0)), (1, .int x1), (3, .int s4.2)]) (fun j4 => [.int j4]) (fun j4 => M) ?_ (fun j4 => ?_)
        · refine g_if (pcT := 24) (pcF := 28) (w_icmp_ne (tgt := 28) X dX12_without_21 (by decide)) (fun h5 => ?_) (fun h5 => ?_)
          · refine g1 (pc' := 25) (w_iload_n X dX12_without_24 rfl 2 rfl) ?_
            refine g1 (pc' := 43) (w_goto X dX12_without_25 (by decide)) ?_
            exact g_end [0, 1, 3] rfl rfl rfl
          · refine g1 (pc' := 30) (w_bipush X (10) dX12_without_28 (by decide)) ?_
            refine g1 (pc' := 31) (w_iload_n X dX12_without_30 rfl 2 rfl) ?_
            refine g1 (pc' := 32) (w_imul X dX12_without_31) ?_
            refine g1 (pc' := 33) (w_aload_n X dX12_without_32 rfl 0 rfl) ?_
            refine g1 (pc' := 36) (gt_12_24 X hk0 mw_953 dX12_without_33) ?_
            refine g1 (pc' := 37) (w_iconst X (5) dX12_without_36 (by decide)) ?_
            refine g1 (pc' := 38) (w_iload_n X dX12_without_37 rfl 3 rfl) ?_
            refine g1 (pc' := 39) (w_iadd X dX12_without_38) ?_
            refine g_gd (fun h6 => ?_)
            refine g1 (pc' := 40) (w_iald X kd_137 h6 dX12_without_39) ?_
            refine g1 (pc' := 41) (w_iadd X dX12_without_40) ?_
            refine g1 (pc' := 42) (w_iconst X (1) dX12_without_41 (by decide)) ?_
            refine g1 (pc' := 43) (w_iadd X dX12_without_42) ?_
            exact g_end [0, 1, 3] rfl rfl rfl
        · show Gz x 4 43 [(0, .ref (xb x + o0)), (1, .int x1), (3, .int s4.2)] [.int j4] KDF M _ _
          refine g1 (pc' := 44) (lv' := [(2, .int j4), (0, .ref (xb x + o0)), (1, .int x1), (3, .int s4.2)]) (w_istore_n X dX12_without_43 rfl (by decide) rfl) ?_
          refine g_lt (pc' := 47) (fun v7 => [(3, .int v7), (2, .int j4), (0, .ref (xb x + o0)), (1, .int x1)]) (fun v7 => []) (fun v7 => M) (w_iinc X dX12_without_44 3 rfl rfl (by decide) rfl) (fun v7 => ?_)
          show Gz x 4 47 [(3, .int v7), (2, .int j4), (0, .ref (xb x + o0)), (1, .int x1)] [] KDF M _ _
          refine g1 (pc' := 4) (w_goto X dX12_without_47 (by decide)) ?_
          refine g_inl ?_
          exact g_end [2, 3, 1, 0] rfl rfl rfl
    · show Gz x 4 50 [(2, .int e8)] [] KDF M _ _
      refine g1 (pc' := 51) (w_iload_n X dX12_without_50 rfl 0 rfl) ?_
      exact g_rI X dX12_without_51
  exact G _ h _ rfl
theorem k_X12_without {x : Cxt} {cc : ByteArray} {nL : Nat} {own : String} {ret : Option FieldType} (X : Ok x cc nL own ret) {d : Nat} (hR : Rm x d KDF) (hN : Nst x) (Z : xz x = 0) {pc : Nat} {lv : List (Nat × Value)} {rest : List Value} {M : Mm} {o0 : Nat} {x1 : Int32} (hk0 : KDF[o0]? = some (12, 0)) {idx : Nat} (hw : Cond.methodLink own idx yX12_without ∈ tbG) (hdd : 1 + 1 ≤ d) (hrm : (rest.map fun v => v.category).sum ≤ 8) (hd : decode cc pc = .ok (.invokevirtual idx, 3)) {r : Int32} (h : f_X12_without o0 x1 M = some r) : StpZ x nL pc lv (.int x1 :: .ref (xb x + o0) :: rest) KDF M (pc + 3) lv (.int r :: rest) KDF M :=
  w_callV (st := []) (As := [.int x1]) X hR hN (CtX0 Z (c_X12_without hk0 h)) ⟨Nat.le_refl _, Nat.le_refl _⟩ ⟨Nat.le_refl _, Nat.le_refl _⟩ hk0 (ci := 12) (fs := fs_12 o0) (fun _ _ _ => rfl) rfl hw mw_1327 mw_59 mw_72 mw_1328 (n := 1) (by decide +kernel) rfl hdd (by decide) hrm hd
def b_X12_gap_55 (o0 : Nat) (x1 : Int32) (x2 : Int32) (s55 : Int32 × Int32 × Mm) : Option ((Int32 × Int32 × Mm) ⊕ (Int32 × Mm)) :=
  (if x2 ≤ s55.2.1 then some (.inr (s55.1, s55.2.2)) else Bd (f_X12_goOn o0 (1 : Int32) s55.2.2) (fun r10 => Bd (f_X12_without o0 x1 r10) (fun r11 => Bd (f_X12_isNew o0 r11 r10) (fun r12 => Lt (((if r12.1 = 0 then (0 : Int32) else (1 : Int32))) : Int32) (fun j13 => Lt (s55.1 + j13) (fun v15 => Lt (s55.2.1 + (1 : Int32)) (fun v16 => some (.inl (v15, v16, r12.2)))))))))
def f_X12_gap (o0 : Nat) (x1 : Int32) (x2 : Int32) (M : Mm) : Option (Int32 × Mm) :=
  (if (f_X12_isBell o0 x1 M) = 0 then some ((-1000000001 : Int32), M) else (if (f_X12_in x2 (1 : Int32) (500 : Int32)) = 0 then some ((-1000000002 : Int32), M) else Bd (f_X12_begin o0 M) (fun r3 => Lt (st2 r3 o0 36 (0 : Int32)) (fun M4 => Bd (f_X12_without o0 x1 M4) (fun r5 => Bd (f_X12_isNew o0 r5 M4) (fun r6 => Lt (((if r6.1 = 0 then (0 : Int32) else (1 : Int32))) : Int32) (fun j7 => Bd (Lp (b_X12_gap_55 o0 x1 x2) 100000 (j7, (0 : Int32), r6.2)) (fun e17 => some (e17.1, e17.2)))))))))
set_option maxRecDepth 100000 in
set_option maxHeartbeats 4000000 in
theorem c_X12_gap {l : Launch} {D : va_G} {an : An} {b : Nat} {o0 : Nat} {x1 : Int32} {x2 : Int32} (hk0 : KDF[o0]? = some (12, 0)) {M : Mm} {r : Int32} {M' : Mm} (h : f_X12_gap o0 x1 x2 M = some (r, M')) : Ct l D an b 0 yX12_gap cX12_gap 5 (some .int) 5 [.ref (b + o0), .int x1, .int x2] KDF M (some (.int r)) KDF M' := by
  refine CtX.mk (as := fun b => [.ref (b + o0), .int x1, .int x2]) (rv := fun b => (some (.int r))) (by decide) (fun b => Nat.le_of_ble_eq_true rfl) ⟨Nat.le_refl _, Nat.le_refl _⟩ (fun x X hR Z hN _ _ => ?_)
  have X : Ok x cX12_gap 5 RX12 (some .int) := X
  have G : Gz x 5 0 [(0, .ref (xb x + o0)), (1, .int x1), (2, .int x2)] [] KDF M (f_X12_gap o0 x1 x2 M) (PsI2 x KDF) := by
    unfold f_X12_gap
    refine g1 (pc' := 1) (w_aload_n X dX12_gap_0 rfl 0 rfl) ?_
    refine g1 (pc' := 2) (w_iload_n X dX12_gap_1 rfl 1 rfl) ?_
    refine g1 (pc' := 5) (k_X12_isBell X hR hN Z hk0 mw_1169 (by decide) (Nat.le_of_ble_eq_true rfl) dX12_gap_2) ?_
    refine g_if (pcT := 8) (pcF := 11) (w_if_ne (tgt := 11) X dX12_gap_5 (by decide)) (fun h1 => ?_) (fun h1 => ?_)
    · refine g1 (pc' := 10) (w_ldc (v := -1000000001) X dX12_gap_8 mw_1173) ?_
      exact g_rI2 X dX12_gap_10
    · refine g1 (pc' := 12) (w_iload_n X dX12_gap_11 rfl 2 rfl) ?_
      refine g1 (pc' := 13) (w_iconst X (1) dX12_gap_12 (by decide)) ?_
      refine g1 (pc' := 16) (w_sipush X (500) dX12_gap_13 (by decide)) ?_
      refine g1 (pc' := 19) (k_X12_in X hR hN Z  mw_1055 (by decide) (Nat.le_of_ble_eq_true rfl) dX12_gap_16) ?_
      refine g_if (pcT := 22) (pcF := 25) (w_if_ne (tgt := 25) X dX12_gap_19 (by decide)) (fun h2 => ?_) (fun h2 => ?_)
      · refine g1 (pc' := 24) (w_ldc (v := -1000000002) X dX12_gap_22 mw_1058) ?_
        exact g_rI2 X dX12_gap_24
      · refine g1 (pc' := 26) (w_aload_n X dX12_gap_25 rfl 0 rfl) ?_
        refine g_bd (pc' := 29) (fun r3 => [(0, .ref (xb x + o0)), (1, .int x1), (2, .int x2)]) (fun r3 => []) (fun r3 => r3) (fun r3 h => k_X12_begin X hR hN Z hk0 mw_1253 (by decide) (Nat.le_of_ble_eq_true rfl) dX12_gap_26 h) (fun r3 => ?_)
        show Gz x 5 29 [(0, .ref (xb x + o0)), (1, .int x1), (2, .int x2)] [] KDF r3 _ _
        refine g1 (pc' := 30) (w_aload_n X dX12_gap_29 rfl 0 rfl) ?_
        refine g1 (pc' := 31) (w_iconst X (0) dX12_gap_30 (by decide)) ?_
        refine g_lt (pc' := 34) (fun M4 => [(0, .ref (xb x + o0)), (1, .int x1), (2, .int x2)]) (fun M4 => []) (fun M4 => M4) (pt_12_36 X Z hk0 mw_965 dX12_gap_31) (fun M4 => ?_)
        show Gz x 5 34 [(0, .ref (xb x + o0)), (1, .int x1), (2, .int x2)] [] KDF M4 _ _
        refine g1 (pc' := 35) (w_aload_n X dX12_gap_34 rfl 0 rfl) ?_
        refine g1 (pc' := 36) (w_aload_n X dX12_gap_35 rfl 0 rfl) ?_
        refine g1 (pc' := 37) (w_iload_n X dX12_gap_36 rfl 1 rfl) ?_
        refine g_bd (pc' := 40) (fun r5 => [(0, .ref (xb x + o0)), (1, .int x1), (2, .int x2)]) (fun r5 => [.int r5, .ref (xb x + o0)]) (fun r5 => M4) (fun r5 h => k_X12_without X hR hN Z hk0 mw_1325 (by decide) (Nat.le_of_ble_eq_true rfl) dX12_gap_37 h) (fun r5 => ?_)
        show Gz x 5 40 [(0, .ref (xb x + o0)), (1, .int x1), (2, .int x2)] [.int r5, .ref (xb x + o0)] KDF M4 _ _
        refine g_bd (pc' := 43) (fun r6 => [(0, .ref (xb x + o0)), (1, .int x1), (2, .int x2)]) (fun r6 => [.int r6.1]) (fun r6 => r6.2) (fun r6 h => k_X12_isNew X hR hN Z hk0 mw_1277 (by decide) (Nat.le_of_ble_eq_true rfl) dX12_gap_40 h) (fun r6 => ?_)
        show Gz x 5 43 [(0, .ref (xb x + o0)), (1, .int x1), (2, .int x2)] [.int r6.1] KDF r6.2 _ _
        refine g_ltJ (J := 51) (fun j7 => [(0, .ref (xb x + o0)), (1, .int x1), (2, .int x2)]) (fun j7 => [.int j7]) (fun j7 => r6.2) ?_ (fun j7 => ?_)
        · refine g_ifS (pcT := 50) (pcF := 46) (w_if_eq (tgt := 50) X dX12_gap_43 (by decide)) (fun h8 => ?_) (fun h8 => ?_)
          · refine g1 (pc' := 51) (w_iconst X (0) dX12_gap_50 (by decide)) ?_
            exact g_end [0, 1, 2] rfl rfl rfl
          · refine g1 (pc' := 47) (w_iconst X (1) dX12_gap_46 (by decide)) ?_
            refine g1 (pc' := 51) (w_goto X dX12_gap_47 (by decide)) ?_
            exact g_end [0, 1, 2] rfl rfl rfl
        · show Gz x 5 51 [(0, .ref (xb x + o0)), (1, .int x1), (2, .int x2)] [.int j7] KDF r6.2 _ _
          refine g1 (pc' := 52) (lv' := [(3, .int j7), (0, .ref (xb x + o0)), (1, .int x1), (2, .int x2)]) (w_istore_n X dX12_gap_51 rfl (by decide) rfl) ?_
          refine g1 (pc' := 53) (w_iconst X (0) dX12_gap_52 (by decide)) ?_
          refine g1 (pc' := 55) (lv' := [(4, .int (0 : Int32)), (3, .int j7), (0, .ref (xb x + o0)), (1, .int x1), (2, .int x2)]) (w_istore X dX12_gap_53 (by decide) rfl) ?_
          refine g_pick (lv' := [(0, .ref (xb x + o0)), (1, .int x1), (2, .int x2), (3, .int j7), (4, .int (0 : Int32))]) [2, 3, 4, 1, 0] rfl ?_
          refine g_bdJ (J := 92) (fun e17 => [(3, .int e17.1)]) (fun e17 => []) (fun e17 => e17.2) (g_lp (fun s55 => [(0, .ref (xb x + o0)), (1, .int x1), (2, .int x2), (3, .int s55.1), (4, .int s55.2.1)]) (fun s55 => s55.2.2) (fun s55 => ?_) 100000 (j7, (0 : Int32), r6.2)) (fun e17 => ?_)
          · show Gz x 5 55 [(0, .ref (xb x + o0)), (1, .int x1), (2, .int x2), (3, .int s55.1), (4, .int s55.2.1)] [] KDF s55.2.2 (b_X12_gap_55 o0 x1 x2 s55) _
            unfold b_X12_gap_55
            refine g1 (pc' := 57) (w_iload X dX12_gap_55 4 rfl) ?_
            refine g1 (pc' := 58) (w_iload_n X dX12_gap_57 rfl 2 rfl) ?_
            refine g_if (pcT := 92) (pcF := 61) (w_icmp_ge (tgt := 92) X dX12_gap_58 (by decide)) (fun h9 => ?_) (fun h9 => ?_)
            · refine g_inr ?_
              exact g_end [3] rfl rfl rfl
            · refine g1 (pc' := 62) (w_aload_n X dX12_gap_61 rfl 0 rfl) ?_
              refine g1 (pc' := 63) (w_iconst X (1) dX12_gap_62 (by decide)) ?_
              refine g_bd (pc' := 66) (fun r10 => [(0, .ref (xb x + o0)), (1, .int x1), (2, .int x2), (3, .int s55.1), (4, .int s55.2.1)]) (fun r10 => []) (fun r10 => r10) (fun r10 h => k_X12_goOn X hR hN Z hk0 mw_1257 (by decide) (Nat.le_of_ble_eq_true rfl) dX12_gap_63 h) (fun r10 => ?_)
              show Gz x 5 66 [(0, .ref (xb x + o0)), (1, .int x1), (2, .int x2), (3, .int s55.1), (4, .int s55.2.1)] [] KDF r10 _ _
              refine g1 (pc' := 67) (w_iload_n X dX12_gap_66 rfl 3 rfl) ?_
              refine g1 (pc' := 68) (w_aload_n X dX12_gap_67 rfl 0 rfl) ?_
              refine g1 (pc' := 69) (w_aload_n X dX12_gap_68 rfl 0 rfl) ?_
              refine g1 (pc' := 70) (w_iload_n X dX12_gap_69 rfl 1 rfl) ?_
              refine g_bd (pc' := 73) (fun r11 => [(0, .ref (xb x + o0)), (1, .int x1), (2, .int x2), (3, .int s55.1), (4, .int s55.2.1)]) (fun r11 => [.int r11, .ref (xb x + o0), .int s55.1]) (fun r11 => r10) (fun r11 h => k_X12_without X hR hN Z hk0 mw_1325 (by decide) (Nat.le_of_ble_eq_true rfl) dX12_gap_70 h) (fun r11 => ?_)
              show Gz x 5 73 [(0, .ref (xb x + o0)), (1, .int x1), (2, .int x2), (3, .int s55.1), (4, .int s55.2.1)] [.int r11, .ref (xb x + o0), .int s55.1] KDF r10 _ _
              refine g_bd (pc' := 76) (fun r12 => [(0, .ref (xb x + o0)), (1, .int x1), (2, .int x2), (3, .int s55.1), (4, .int s55.2.1)]) (fun r12 => [.int r12.1, .int s55.1]) (fun r12 => r12.2) (fun r12 h => k_X12_isNew X hR hN Z hk0 mw_1277 (by decide) (Nat.le_of_ble_eq_true rfl) dX12_gap_73 h) (fun r12 => ?_)
              show Gz x 5 76 [(0, .ref (xb x + o0)), (1, .int x1), (2, .int x2), (3, .int s55.1), (4, .int s55.2.1)] [.int r12.1, .int s55.1] KDF r12.2 _ _
              refine g_ltJ (J := 84) (fun j13 => [(0, .ref (xb x + o0)), (1, .int x1), (2, .int x2), (4, .int s55.2.1)]) (fun j13 => [.int j13, .int s55.1]) (fun j13 => r12.2) ?_ (fun j13 => ?_)
              · refine g_ifS (pcT := 83) (pcF := 79) (w_if_eq (tgt := 83) X dX12_gap_76 (by decide)) (fun h14 => ?_) (fun h14 => ?_)
                · refine g1 (pc' := 84) (w_iconst X (0) dX12_gap_83 (by decide)) ?_
                  exact g_end [0, 1, 2, 4] rfl rfl rfl
                · refine g1 (pc' := 80) (w_iconst X (1) dX12_gap_79 (by decide)) ?_
                  refine g1 (pc' := 84) (w_goto X dX12_gap_80 (by decide)) ?_
                  exact g_end [0, 1, 2, 4] rfl rfl rfl
              · show Gz x 5 84 [(0, .ref (xb x + o0)), (1, .int x1), (2, .int x2), (4, .int s55.2.1)] [.int j13, .int s55.1] KDF r12.2 _ _
                refine g1 (pc' := 85) (w_iadd X dX12_gap_84) ?_
                refine g_lt (pc' := 86) (fun v15 => [(3, .int v15), (0, .ref (xb x + o0)), (1, .int x1), (2, .int x2), (4, .int s55.2.1)]) (fun v15 => []) (fun v15 => r12.2) (w_istore_n X dX12_gap_85 rfl (by decide) rfl) (fun v15 => ?_)
                show Gz x 5 86 [(3, .int v15), (0, .ref (xb x + o0)), (1, .int x1), (2, .int x2), (4, .int s55.2.1)] [] KDF r12.2 _ _
                refine g_lt (pc' := 89) (fun v16 => [(4, .int v16), (3, .int v15), (0, .ref (xb x + o0)), (1, .int x1), (2, .int x2)]) (fun v16 => []) (fun v16 => r12.2) (w_iinc X dX12_gap_86 4 rfl rfl (by decide) rfl) (fun v16 => ?_)
                show Gz x 5 89 [(4, .int v16), (3, .int v15), (0, .ref (xb x + o0)), (1, .int x1), (2, .int x2)] [] KDF r12.2 _ _
                refine g1 (pc' := 55) (w_goto X dX12_gap_89 (by decide)) ?_
                refine g_inl ?_
                exact g_end [2, 3, 4, 1, 0] rfl rfl rfl
          · show Gz x 5 92 [(3, .int e17.1)] [] KDF e17.2 _ _
            refine g1 (pc' := 93) (w_iload_n X dX12_gap_92 rfl 0 rfl) ?_
            exact g_rI2 X dX12_gap_93
  exact G _ h _ rfl
theorem k_X12_gap {x : Cxt} {cc : ByteArray} {nL : Nat} {own : String} {ret : Option FieldType} (X : Ok x cc nL own ret) {d : Nat} (hR : Rm x d KDF) (hN : Nst x) (Z : xz x = 0) {pc : Nat} {lv : List (Nat × Value)} {rest : List Value} {M : Mm} {o0 : Nat} {x1 : Int32} {x2 : Int32} (hk0 : KDF[o0]? = some (12, 0)) {idx : Nat} (hw : Cond.methodLink own idx yX12_gap ∈ tbG) (hdd : 5 + 1 ≤ d) (hrm : (rest.map fun v => v.category).sum ≤ 8) (hd : decode cc pc = .ok (.invokevirtual idx, 3)) {r : Int32} {M' : Mm} (h : f_X12_gap o0 x1 x2 M = some (r, M')) : StpZ x nL pc lv (.int x2 :: .int x1 :: .ref (xb x + o0) :: rest) KDF M (pc + 3) lv (.int r :: rest) KDF M' :=
  w_callV (st := []) (As := [.int x1, .int x2]) X hR hN (CtX0 Z (c_X12_gap hk0 h)) ⟨Nat.le_refl _, Nat.le_refl _⟩ ⟨Nat.le_refl _, Nat.le_refl _⟩ hk0 (ci := 12) (fs := fs_12 o0) (fun _ _ _ => rfl) rfl hw mw_1322 mw_1323 mw_72 mw_1324 (n := 2) (by decide +kernel) rfl hdd (by decide) hrm hd
def b_X12_dry_30 (x1 : Int32) (x2 : Int32) (s30 : Int64 × Int32) : Option ((Int64 × Int32) ⊕ (Int64)) :=
  (if x1 ≤ s30.2 then some (.inr s30.1) else Lt ((s30.1 * (Int32.toInt64 x2)) / (100 : Int64)) (fun v4 => Lt (s30.2 + (1 : Int32)) (fun v5 => some (.inl (v4, v5)))))
def f_X12_dry (o0 : Nat) (x1 : Int32) (x2 : Int32) : Option (Int32) :=
  (if (f_X12_in x1 (0 : Int32) (60 : Int32)) = 0 then some (-1000000002 : Int32) else (if (f_X12_in x2 (0 : Int32) (100 : Int32)) = 0 then some (-1000000002 : Int32) else Bd (Lp (b_X12_dry_30 x1 x2) 100000 ((1000000000 : Int64), (0 : Int32))) (fun e6 => some (Int64.toInt32 e6))))
set_option maxRecDepth 100000 in
set_option maxHeartbeats 4000000 in
theorem c_X12_dry {l : Launch} {D : va_G} {an : An} {b : Nat} {o0 : Nat} {x1 : Int32} {x2 : Int32} (hk0 : KDF[o0]? = some (12, 0)) {M : Mm} {r : Int32} (h : f_X12_dry o0 x1 x2 = some r) : Ct l D an b 0 yX12_dry cX12_dry 6 (some .int) 2 [.ref (b + o0), .int x1, .int x2] KDF M (some (.int r)) KDF M := by
  refine CtX.mk (as := fun b => [.ref (b + o0), .int x1, .int x2]) (rv := fun b => (some (.int r))) (by decide) (fun b => Nat.le_of_ble_eq_true rfl) ⟨Nat.le_refl _, Nat.le_refl _⟩ (fun x X hR Z hN _ _ => ?_)
  have X : Ok x cX12_dry 6 RX12 (some .int) := X
  have G : Gz x 6 0 [(0, .ref (xb x + o0)), (1, .int x1), (2, .int x2)] [] KDF M (f_X12_dry o0 x1 x2) (PsI x KDF M) := by
    unfold f_X12_dry
    refine g1 (pc' := 1) (w_iload_n X dX12_dry_0 rfl 1 rfl) ?_
    refine g1 (pc' := 2) (w_iconst X (0) dX12_dry_1 (by decide)) ?_
    refine g1 (pc' := 4) (w_bipush X (60) dX12_dry_2 (by decide)) ?_
    refine g1 (pc' := 7) (k_X12_in X hR hN Z  mw_1055 (by decide) (Nat.le_of_ble_eq_true rfl) dX12_dry_4) ?_
    refine g_if (pcT := 20) (pcF := 10) (w_if_eq (tgt := 20) X dX12_dry_7 (by decide)) (fun h1 => ?_) (fun h1 => ?_)
    · refine g1 (pc' := 22) (w_ldc (v := -1000000002) X dX12_dry_20 mw_1058) ?_
      exact g_rI X dX12_dry_22
    · refine g1 (pc' := 11) (w_iload_n X dX12_dry_10 rfl 2 rfl) ?_
      refine g1 (pc' := 12) (w_iconst X (0) dX12_dry_11 (by decide)) ?_
      refine g1 (pc' := 14) (w_bipush X (100) dX12_dry_12 (by decide)) ?_
      refine g1 (pc' := 17) (k_X12_in X hR hN Z  mw_1055 (by decide) (Nat.le_of_ble_eq_true rfl) dX12_dry_14) ?_
      refine g_if (pcT := 20) (pcF := 23) (w_if_ne (tgt := 23) X dX12_dry_17 (by decide)) (fun h2 => ?_) (fun h2 => ?_)
      · refine g1 (pc' := 22) (w_ldc (v := -1000000002) X dX12_dry_20 mw_1058) ?_
        exact g_rI X dX12_dry_22
      · refine g1 (pc' := 26) (w_ldc2 (v := 1000000000) X dX12_dry_23 mw_1333) ?_
        refine g1 (pc' := 27) (lv' := [(3, .long (1000000000 : Int64)), (0, .ref (xb x + o0)), (1, .int x1), (2, .int x2)]) (w_lstore_n X dX12_dry_26 rfl (by decide) rfl) ?_
        refine g1 (pc' := 28) (w_iconst X (0) dX12_dry_27 (by decide)) ?_
        refine g1 (pc' := 30) (lv' := [(5, .int (0 : Int32)), (3, .long (1000000000 : Int64)), (0, .ref (xb x + o0)), (1, .int x1), (2, .int x2)]) (w_istore X dX12_dry_28 (by decide) rfl) ?_
        refine g_pick (lv' := [(1, .int x1), (2, .int x2), (3, .long (1000000000 : Int64)), (5, .int (0 : Int32))]) [3, 4, 1, 0] rfl ?_
        refine g_bdJ (J := 51) (fun e6 => [(3, .long e6)]) (fun e6 => []) (fun e6 => M) (g_lp (fun s30 => [(1, .int x1), (2, .int x2), (3, .long s30.1), (5, .int s30.2)]) (fun s30 => M) (fun s30 => ?_) 100000 ((1000000000 : Int64), (0 : Int32))) (fun e6 => ?_)
        · show Gz x 6 30 [(1, .int x1), (2, .int x2), (3, .long s30.1), (5, .int s30.2)] [] KDF M (b_X12_dry_30 x1 x2 s30) _
          unfold b_X12_dry_30
          refine g1 (pc' := 32) (w_iload X dX12_dry_30 3 rfl) ?_
          refine g1 (pc' := 33) (w_iload_n X dX12_dry_32 rfl 0 rfl) ?_
          refine g_if (pcT := 51) (pcF := 36) (w_icmp_ge (tgt := 51) X dX12_dry_33 (by decide)) (fun h3 => ?_) (fun h3 => ?_)
          · refine g_inr ?_
            exact g_end [2] rfl rfl rfl
          · refine g1 (pc' := 37) (w_lload_n X dX12_dry_36 rfl 2 rfl) ?_
            refine g1 (pc' := 38) (w_iload_n X dX12_dry_37 rfl 1 rfl) ?_
            refine g1 (pc' := 39) (w_i2l X dX12_dry_38) ?_
            refine g1 (pc' := 40) (w_lmul X dX12_dry_39) ?_
            refine g1 (pc' := 43) (w_ldc2 (v := 100) X dX12_dry_40 mw_1334) ?_
            refine g1 (pc' := 44) (w_ldiv X dX12_dry_43 (by decide)) ?_
            refine g_lt (pc' := 45) (fun v4 => [(3, .long v4), (1, .int x1), (2, .int x2), (5, .int s30.2)]) (fun v4 => []) (fun v4 => M) (w_lstore_n X dX12_dry_44 rfl (by decide) rfl) (fun v4 => ?_)
            show Gz x 6 45 [(3, .long v4), (1, .int x1), (2, .int x2), (5, .int s30.2)] [] KDF M _ _
            refine g_lt (pc' := 48) (fun v5 => [(5, .int v5), (3, .long v4), (1, .int x1), (2, .int x2)]) (fun v5 => []) (fun v5 => M) (w_iinc X dX12_dry_45 3 rfl rfl (by decide) rfl) (fun v5 => ?_)
            show Gz x 6 48 [(5, .int v5), (3, .long v4), (1, .int x1), (2, .int x2)] [] KDF M _ _
            refine g1 (pc' := 30) (w_goto X dX12_dry_48 (by decide)) ?_
            refine g_inl ?_
            exact g_end [2, 3, 1, 0] rfl rfl rfl
        · show Gz x 6 51 [(3, .long e6)] [] KDF M _ _
          refine g1 (pc' := 52) (w_lload_n X dX12_dry_51 rfl 0 rfl) ?_
          refine g1 (pc' := 53) (w_l2i X dX12_dry_52) ?_
          exact g_rI X dX12_dry_53
  exact G _ h _ rfl
theorem k_X12_dry {x : Cxt} {cc : ByteArray} {nL : Nat} {own : String} {ret : Option FieldType} (X : Ok x cc nL own ret) {d : Nat} (hR : Rm x d KDF) (hN : Nst x) (Z : xz x = 0) {pc : Nat} {lv : List (Nat × Value)} {rest : List Value} {M : Mm} {o0 : Nat} {x1 : Int32} {x2 : Int32} (hk0 : KDF[o0]? = some (12, 0)) {idx : Nat} (hw : Cond.methodLink own idx yX12_dry ∈ tbG) (hdd : 2 + 1 ≤ d) (hrm : (rest.map fun v => v.category).sum ≤ 8) (hd : decode cc pc = .ok (.invokevirtual idx, 3)) {r : Int32} (h : f_X12_dry o0 x1 x2 = some r) : StpZ x nL pc lv (.int x2 :: .int x1 :: .ref (xb x + o0) :: rest) KDF M (pc + 3) lv (.int r :: rest) KDF M :=
  w_callV (st := []) (As := [.int x1, .int x2]) X hR hN (CtX0 Z (c_X12_dry hk0 h)) ⟨Nat.le_refl _, Nat.le_refl _⟩ ⟨Nat.le_refl _, Nat.le_refl _⟩ hk0 (ci := 12) (fs := fs_12 o0) (fun _ _ _ => rfl) rfl hw mw_1330 mw_1331 mw_72 mw_1332 (n := 2) (by decide +kernel) rfl hdd (by decide) hrm hd
def f_X12_hear (o0 : Nat) (x1 : Int32) (x2 : Int32) (M : Mm) : Option (Int32 × Mm) :=
  (if (f_X12_in x1 (0 : Int32) (500 : Int32)) = 0 then some ((-1000000002 : Int32), M) else Bd (f_X12_layRow o0 x2 M) (fun r2 => (if r2.1 = 0 then some ((-1000000002 : Int32), r2.2) else (if (r2.2 o0 31) = (6 : Int32) then some ((-1000000004 : Int32), r2.2) else Gd (ib ((2 : Int32) * (r2.2 o0 31)) 12) (Lt (st2 r2.2 142 (ix ((2 : Int32) * (r2.2 o0 31))) x1) (fun M6 => Gd (ib (((2 : Int32) * (M6 o0 31)) + (1 : Int32)) 12) (Lt (st2 M6 142 (ix (((2 : Int32) * (M6 o0 31)) + (1 : Int32))) x2) (fun M8 => Lt (st2 M8 o0 31 ((M8 o0 31) + (1 : Int32))) (fun M9 => some ((M9 o0 31), M9))))))))))
set_option maxRecDepth 100000 in
set_option maxHeartbeats 4000000 in
theorem c_X12_hear {l : Launch} {D : va_G} {an : An} {b : Nat} {o0 : Nat} {x1 : Int32} {x2 : Int32} (hk0 : KDF[o0]? = some (12, 0)) {M : Mm} {r : Int32} {M' : Mm} (h : f_X12_hear o0 x1 x2 M = some (r, M')) : Ct l D an b 0 yX12_hear cX12_hear 3 (some .int) 4 [.ref (b + o0), .int x1, .int x2] KDF M (some (.int r)) KDF M' := by
  refine CtX.mk (as := fun b => [.ref (b + o0), .int x1, .int x2]) (rv := fun b => (some (.int r))) (by decide) (fun b => Nat.le_of_ble_eq_true rfl) ⟨Nat.le_refl _, Nat.le_refl _⟩ (fun x X hR Z hN _ _ => ?_)
  have X : Ok x cX12_hear 3 RX12 (some .int) := X
  have G : Gz x 3 0 [(0, .ref (xb x + o0)), (1, .int x1), (2, .int x2)] [] KDF M (f_X12_hear o0 x1 x2 M) (PsI2 x KDF) := by
    unfold f_X12_hear
    refine g1 (pc' := 1) (w_iload_n X dX12_hear_0 rfl 1 rfl) ?_
    refine g1 (pc' := 2) (w_iconst X (0) dX12_hear_1 (by decide)) ?_
    refine g1 (pc' := 5) (w_sipush X (500) dX12_hear_2 (by decide)) ?_
    refine g1 (pc' := 8) (k_X12_in X hR hN Z  mw_1055 (by decide) (Nat.le_of_ble_eq_true rfl) dX12_hear_5) ?_
    refine g_if (pcT := 19) (pcF := 11) (w_if_eq (tgt := 19) X dX12_hear_8 (by decide)) (fun h1 => ?_) (fun h1 => ?_)
    · refine g1 (pc' := 21) (w_ldc (v := -1000000002) X dX12_hear_19 mw_1058) ?_
      exact g_rI2 X dX12_hear_21
    · refine g1 (pc' := 12) (w_aload_n X dX12_hear_11 rfl 0 rfl) ?_
      refine g1 (pc' := 13) (w_iload_n X dX12_hear_12 rfl 2 rfl) ?_
      refine g_bd (pc' := 16) (fun r2 => [(0, .ref (xb x + o0)), (1, .int x1), (2, .int x2)]) (fun r2 => [.int r2.1]) (fun r2 => r2.2) (fun r2 h => k_X12_layRow X hR hN Z hk0 mw_1313 (by decide) (Nat.le_of_ble_eq_true rfl) dX12_hear_13 h) (fun r2 => ?_)
      show Gz x 3 16 [(0, .ref (xb x + o0)), (1, .int x1), (2, .int x2)] [.int r2.1] KDF r2.2 _ _
      refine g_if (pcT := 19) (pcF := 22) (w_if_ne (tgt := 22) X dX12_hear_16 (by decide)) (fun h3 => ?_) (fun h3 => ?_)
      · refine g1 (pc' := 21) (w_ldc (v := -1000000002) X dX12_hear_19 mw_1058) ?_
        exact g_rI2 X dX12_hear_21
      · refine g1 (pc' := 23) (w_aload_n X dX12_hear_22 rfl 0 rfl) ?_
        refine g1 (pc' := 26) (gt_12_31 X hk0 mw_960 dX12_hear_23) ?_
        refine g1 (pc' := 28) (w_bipush X (6) dX12_hear_26 (by decide)) ?_
        refine g_if (pcT := 31) (pcF := 34) (w_icmp_ne (tgt := 34) X dX12_hear_28 (by decide)) (fun h4 => ?_) (fun h4 => ?_)
        · refine g1 (pc' := 33) (w_ldc (v := -1000000004) X dX12_hear_31 mw_1059) ?_
          exact g_rI2 X dX12_hear_33
        · refine g1 (pc' := 35) (w_aload_n X dX12_hear_34 rfl 0 rfl) ?_
          refine g1 (pc' := 38) (gt_12_32 X hk0 mw_961 dX12_hear_35) ?_
          refine g1 (pc' := 39) (w_iconst X (2) dX12_hear_38 (by decide)) ?_
          refine g1 (pc' := 40) (w_aload_n X dX12_hear_39 rfl 0 rfl) ?_
          refine g1 (pc' := 43) (gt_12_31 X hk0 mw_960 dX12_hear_40) ?_
          refine g1 (pc' := 44) (w_imul X dX12_hear_43) ?_
          refine g1 (pc' := 45) (w_iload_n X dX12_hear_44 rfl 1 rfl) ?_
          refine g_gd (fun h5 => ?_)
          refine g_lt (pc' := 46) (fun M6 => [(0, .ref (xb x + o0)), (1, .int x1), (2, .int x2)]) (fun M6 => []) (fun M6 => M6) (w_iast X Z kd_142 h5 dX12_hear_45) (fun M6 => ?_)
          show Gz x 3 46 [(0, .ref (xb x + o0)), (1, .int x1), (2, .int x2)] [] KDF M6 _ _
          refine g1 (pc' := 47) (w_aload_n X dX12_hear_46 rfl 0 rfl) ?_
          refine g1 (pc' := 50) (gt_12_32 X hk0 mw_961 dX12_hear_47) ?_
          refine g1 (pc' := 51) (w_iconst X (2) dX12_hear_50 (by decide)) ?_
          refine g1 (pc' := 52) (w_aload_n X dX12_hear_51 rfl 0 rfl) ?_
          refine g1 (pc' := 55) (gt_12_31 X hk0 mw_960 dX12_hear_52) ?_
          refine g1 (pc' := 56) (w_imul X dX12_hear_55) ?_
          refine g1 (pc' := 57) (w_iconst X (1) dX12_hear_56 (by decide)) ?_
          refine g1 (pc' := 58) (w_iadd X dX12_hear_57) ?_
          refine g1 (pc' := 59) (w_iload_n X dX12_hear_58 rfl 2 rfl) ?_
          refine g_gd (fun h7 => ?_)
          refine g_lt (pc' := 60) (fun M8 => [(0, .ref (xb x + o0)), (1, .int x1), (2, .int x2)]) (fun M8 => []) (fun M8 => M8) (w_iast X Z kd_142 h7 dX12_hear_59) (fun M8 => ?_)
          show Gz x 3 60 [(0, .ref (xb x + o0)), (1, .int x1), (2, .int x2)] [] KDF M8 _ _
          refine g1 (pc' := 61) (w_aload_n X dX12_hear_60 rfl 0 rfl) ?_
          refine g1 (pc' := 62) (w_dup X dX12_hear_61 rfl) ?_
          refine g1 (pc' := 65) (gt_12_31 X hk0 mw_960 dX12_hear_62) ?_
          refine g1 (pc' := 66) (w_iconst X (1) dX12_hear_65 (by decide)) ?_
          refine g1 (pc' := 67) (w_iadd X dX12_hear_66) ?_
          refine g_lt (pc' := 70) (fun M9 => [(0, .ref (xb x + o0)), (1, .int x1), (2, .int x2)]) (fun M9 => []) (fun M9 => M9) (pt_12_31 X Z hk0 mw_960 dX12_hear_67) (fun M9 => ?_)
          show Gz x 3 70 [(0, .ref (xb x + o0)), (1, .int x1), (2, .int x2)] [] KDF M9 _ _
          refine g1 (pc' := 71) (w_aload_n X dX12_hear_70 rfl 0 rfl) ?_
          refine g1 (pc' := 74) (gt_12_31 X hk0 mw_960 dX12_hear_71) ?_
          exact g_rI2 X dX12_hear_74
  exact G _ h _ rfl
theorem k_X12_hear {x : Cxt} {cc : ByteArray} {nL : Nat} {own : String} {ret : Option FieldType} (X : Ok x cc nL own ret) {d : Nat} (hR : Rm x d KDF) (hN : Nst x) (Z : xz x = 0) {pc : Nat} {lv : List (Nat × Value)} {rest : List Value} {M : Mm} {o0 : Nat} {x1 : Int32} {x2 : Int32} (hk0 : KDF[o0]? = some (12, 0)) {idx : Nat} (hw : Cond.methodLink own idx yX12_hear ∈ tbG) (hdd : 4 + 1 ≤ d) (hrm : (rest.map fun v => v.category).sum ≤ 8) (hd : decode cc pc = .ok (.invokevirtual idx, 3)) {r : Int32} {M' : Mm} (h : f_X12_hear o0 x1 x2 M = some (r, M')) : StpZ x nL pc lv (.int x2 :: .int x1 :: .ref (xb x + o0) :: rest) KDF M (pc + 3) lv (.int r :: rest) KDF M' :=
  w_callV (st := []) (As := [.int x1, .int x2]) X hR hN (CtX0 Z (c_X12_hear hk0 h)) ⟨Nat.le_refl _, Nat.le_refl _⟩ ⟨Nat.le_refl _, Nat.le_refl _⟩ hk0 (ci := 12) (fs := fs_12 o0) (fun _ _ _ => rfl) rfl hw mw_1336 mw_1337 mw_72 mw_1338 (n := 2) (by decide +kernel) rfl hdd (by decide) hrm hd
def b_X12_listen_41 (o0 : Nat) (s41 : Int32 × Mm) : Option ((Int32 × Mm) ⊕ (Mm)) :=
  (if (s41.2 o0 16) ≤ s41.1 then some (.inr s41.2) else Bd (f_X12_heardOf o0 s41.1 s41.2) (fun r7 => Gd (ib s41.1 6) (Lt (st2 r7.2 147 (ix s41.1) r7.1) (fun M9 => Lt (s41.1 + (1 : Int32)) (fun v10 => some (.inl (v10, M9)))))))
def b_X12_listen_90 (o0 : Nat) (r2 : Int32 × Mm) (e11 : Mm) (s75 : Int32 × Int32) (s90 : Int32 × Int32) : Option ((Int32 × Int32) ⊕ (Int32)) :=
  (if (e11 o0 16) ≤ s90.2 then some (.inr s90.1) else Bd (((if (f_X12_has r2.1 s75.2) = 0 then some (0 : Int32) else (if (f_X12_has r2.1 s90.2) = 0 then some (0 : Int32) else Gd (ib s75.2 6) (Gd (ib s90.2 6) ((if (e11 147 (ix s75.2)) = (e11 147 (ix s90.2)) then some (1 : Int32) else some (0 : Int32))))))) : Option (Int32)) (fun j16 => Lt (s90.1 + j16) (fun v22 => Lt (s90.2 + (1 : Int32)) (fun v23 => some (.inl (v22, v23))))))
def b_X12_listen_75 (o0 : Nat) (r2 : Int32 × Mm) (e11 : Mm) (s75 : Int32 × Int32) : Option ((Int32 × Int32) ⊕ (Int32)) :=
  (if (e11 o0 16) ≤ s75.2 then some (.inr s75.1) else Bd (Lp (b_X12_listen_90 o0 r2 e11 s75) 100000 ((0 : Int32), (0 : Int32))) (fun e24 => Lt (((if e24 ≤ s75.1 then s75.1 else e24)) : Int32) (fun j25 => Lt (s75.2 + (1 : Int32)) (fun v27 => some (.inl (j25, v27))))))
def b_X12_listen_25 (o0 : Nat) (r2 : Int32 × Mm) (s25 : Int32 × Int32 × Int32 × Mm) : Option ((Int32 × Int32 × Int32 × Mm) ⊕ (Int32 × Mm)) :=
  (if (100 : Int32) ≤ s25.2.2.1 then some (.inr (s25.1, s25.2.2.2)) else Bd (f_X12_layTrue o0 s25.2.2.1 s25.2.2.2) (fun r5 => Bd (Lp (b_X12_listen_41 o0) 100000 ((0 : Int32), r5)) (fun e11 => Bd (Lp (b_X12_listen_75 o0 r2 e11) 100000 ((0 : Int32), (0 : Int32))) (fun e28 => Lt (((if s25.2.1 ≤ e28 then s25.1 else s25.2.2.1)) : Int32) (fun j29 => Lt (((if s25.2.1 ≤ e28 then s25.2.1 else e28)) : Int32) (fun j31 => Lt (s25.2.2.1 + (1 : Int32)) (fun v33 => some (.inl (j29, j31, v33, e11)))))))))
def f_X12_listen (o0 : Nat) (M : Mm) : Option (Int32 × Mm) :=
  (if (f_X12_isTower o0 M) = 0 then some ((-1000000003 : Int32), M) else Bd (f_X12_lateOnes o0 M) (fun r2 => Bd (f_X12_bits r2.1) (fun r3 => Bd (Lp (b_X12_listen_25 o0 r2) 100000 ((-1 : Int32), r3, (0 : Int32), r2.2)) (fun e34 => some (e34.1, e34.2)))))
set_option maxRecDepth 100000 in
set_option maxHeartbeats 4000000 in
theorem c_X12_listen {l : Launch} {D : va_G} {an : An} {b : Nat} {o0 : Nat} (hk0 : KDF[o0]? = some (12, 0)) {M : Mm} {r : Int32} {M' : Mm} (h : f_X12_listen o0 M = some (r, M')) : Ct l D an b 0 yX12_listen cX12_listen 9 (some .int) 5 [.ref (b + o0)] KDF M (some (.int r)) KDF M' := by
  refine CtX.mk (as := fun b => [.ref (b + o0)]) (rv := fun b => (some (.int r))) (by decide) (fun b => Nat.le_of_ble_eq_true rfl) ⟨Nat.le_refl _, Nat.le_refl _⟩ (fun x X hR Z hN _ _ => ?_)
  have X : Ok x cX12_listen 9 RX12 (some .int) := X
  have G : Gz x 9 0 [(0, .ref (xb x + o0))] [] KDF M (f_X12_listen o0 M) (PsI2 x KDF) := by
    unfold f_X12_listen
    refine g1 (pc' := 1) (w_aload_n X dX12_listen_0 rfl 0 rfl) ?_
    refine g1 (pc' := 4) (k_X12_isTower X hR hN Z hk0 mw_1160 (by decide) (Nat.le_of_ble_eq_true rfl) dX12_listen_1) ?_
    refine g_if (pcT := 7) (pcF := 10) (w_if_ne (tgt := 10) X dX12_listen_4 (by decide)) (fun h1 => ?_) (fun h1 => ?_)
    · refine g1 (pc' := 9) (w_ldc (v := -1000000003) X dX12_listen_7 mw_1164) ?_
      exact g_rI2 X dX12_listen_9
    · refine g1 (pc' := 11) (w_aload_n X dX12_listen_10 rfl 0 rfl) ?_
      refine g_bd (pc' := 14) (fun r2 => [(0, .ref (xb x + o0))]) (fun r2 => [.int r2.1]) (fun r2 => r2.2) (fun r2 h => k_X12_lateOnes X hR hN Z hk0 mw_1136 (by decide) (Nat.le_of_ble_eq_true rfl) dX12_listen_11 h) (fun r2 => ?_)
      show Gz x 9 14 [(0, .ref (xb x + o0))] [.int r2.1] KDF r2.2 _ _
      refine g1 (pc' := 15) (lv' := [(1, .int r2.1), (0, .ref (xb x + o0))]) (w_istore_n X dX12_listen_14 rfl (by decide) rfl) ?_
      refine g1 (pc' := 16) (w_iconst X (-1) dX12_listen_15 (by decide)) ?_
      refine g1 (pc' := 17) (lv' := [(2, .int (-1 : Int32)), (1, .int r2.1), (0, .ref (xb x + o0))]) (w_istore_n X dX12_listen_16 rfl (by decide) rfl) ?_
      refine g1 (pc' := 18) (w_iload_n X dX12_listen_17 rfl 1 rfl) ?_
      refine g_bd (pc' := 21) (fun r3 => [(2, .int (-1 : Int32)), (1, .int r2.1), (0, .ref (xb x + o0))]) (fun r3 => [.int r3]) (fun r3 => r2.2) (fun r3 h => k_X12_bits X hR hN Z  mw_1343 (by decide) (Nat.le_of_ble_eq_true rfl) dX12_listen_18 h) (fun r3 => ?_)
      show Gz x 9 21 [(2, .int (-1 : Int32)), (1, .int r2.1), (0, .ref (xb x + o0))] [.int r3] KDF r2.2 _ _
      refine g1 (pc' := 22) (lv' := [(3, .int r3), (2, .int (-1 : Int32)), (1, .int r2.1), (0, .ref (xb x + o0))]) (w_istore_n X dX12_listen_21 rfl (by decide) rfl) ?_
      refine g1 (pc' := 23) (w_iconst X (0) dX12_listen_22 (by decide)) ?_
      refine g1 (pc' := 25) (lv' := [(4, .int (0 : Int32)), (3, .int r3), (2, .int (-1 : Int32)), (1, .int r2.1), (0, .ref (xb x + o0))]) (w_istore X dX12_listen_23 (by decide) rfl) ?_
      refine g_pick (lv' := [(0, .ref (xb x + o0)), (1, .int r2.1), (2, .int (-1 : Int32)), (3, .int r3), (4, .int (0 : Int32))]) [4, 3, 2, 1, 0] rfl ?_
      refine g_bdJ (J := 204) (fun e34 => [(2, .int e34.1)]) (fun e34 => []) (fun e34 => e34.2) (g_lp (fun s25 => [(0, .ref (xb x + o0)), (1, .int r2.1), (2, .int s25.1), (3, .int s25.2.1), (4, .int s25.2.2.1)]) (fun s25 => s25.2.2.2) (fun s25 => ?_) 100000 ((-1 : Int32), r3, (0 : Int32), r2.2)) (fun e34 => ?_)
      · show Gz x 9 25 [(0, .ref (xb x + o0)), (1, .int r2.1), (2, .int s25.1), (3, .int s25.2.1), (4, .int s25.2.2.1)] [] KDF s25.2.2.2 (b_X12_listen_25 o0 r2 s25) _
        unfold b_X12_listen_25
        refine g1 (pc' := 27) (w_iload X dX12_listen_25 4 rfl) ?_
        refine g1 (pc' := 29) (w_bipush X (100) dX12_listen_27 (by decide)) ?_
        refine g_if (pcT := 204) (pcF := 32) (w_icmp_ge (tgt := 204) X dX12_listen_29 (by decide)) (fun h4 => ?_) (fun h4 => ?_)
        · refine g_inr ?_
          exact g_end [2] rfl rfl rfl
        · refine g1 (pc' := 33) (w_aload_n X dX12_listen_32 rfl 0 rfl) ?_
          refine g1 (pc' := 35) (w_iload X dX12_listen_33 4 rfl) ?_
          refine g_bd (pc' := 38) (fun r5 => [(0, .ref (xb x + o0)), (1, .int r2.1), (2, .int s25.1), (3, .int s25.2.1), (4, .int s25.2.2.1)]) (fun r5 => []) (fun r5 => r5) (fun r5 h => k_X12_layTrue X hR hN Z hk0 mw_1140 (by decide) (Nat.le_of_ble_eq_true rfl) dX12_listen_35 h) (fun r5 => ?_)
          show Gz x 9 38 [(0, .ref (xb x + o0)), (1, .int r2.1), (2, .int s25.1), (3, .int s25.2.1), (4, .int s25.2.2.1)] [] KDF r5 _ _
          refine g1 (pc' := 39) (w_iconst X (0) dX12_listen_38 (by decide)) ?_
          refine g1 (pc' := 41) (lv' := [(5, .int (0 : Int32)), (0, .ref (xb x + o0)), (1, .int r2.1), (2, .int s25.1), (3, .int s25.2.1), (4, .int s25.2.2.1)]) (w_istore X dX12_listen_39 (by decide) rfl) ?_
          refine g_pick (lv' := [(0, .ref (xb x + o0)), (1, .int r2.1), (2, .int s25.1), (3, .int s25.2.1), (4, .int s25.2.2.1), (5, .int (0 : Int32))]) [1, 2, 3, 4, 5, 0] rfl ?_
          refine g_bdJ (J := 69) (fun e11 => [(0, .ref (xb x + o0)), (1, .int r2.1), (2, .int s25.1), (3, .int s25.2.1), (4, .int s25.2.2.1)]) (fun e11 => []) (fun e11 => e11) (g_lp (fun s41 => [(0, .ref (xb x + o0)), (1, .int r2.1), (2, .int s25.1), (3, .int s25.2.1), (4, .int s25.2.2.1), (5, .int s41.1)]) (fun s41 => s41.2) (fun s41 => ?_) 100000 ((0 : Int32), r5)) (fun e11 => ?_)
          · show Gz x 9 41 [(0, .ref (xb x + o0)), (1, .int r2.1), (2, .int s25.1), (3, .int s25.2.1), (4, .int s25.2.2.1), (5, .int s41.1)] [] KDF s41.2 (b_X12_listen_41 o0 s41) _
            unfold b_X12_listen_41
            refine g1 (pc' := 43) (w_iload X dX12_listen_41 5 rfl) ?_
            refine g1 (pc' := 44) (w_aload_n X dX12_listen_43 rfl 0 rfl) ?_
            refine g1 (pc' := 47) (gt_12_16 X hk0 mw_945 dX12_listen_44) ?_
            refine g_if (pcT := 69) (pcF := 50) (w_icmp_ge (tgt := 69) X dX12_listen_47 (by decide)) (fun h6 => ?_) (fun h6 => ?_)
            · refine g_inr ?_
              exact g_end [0, 1, 2, 3, 4] rfl rfl rfl
            · refine g1 (pc' := 51) (w_aload_n X dX12_listen_50 rfl 0 rfl) ?_
              refine g1 (pc' := 54) (gt_12_39 X hk0 mw_968 dX12_listen_51) ?_
              refine g1 (pc' := 56) (w_iload X dX12_listen_54 5 rfl) ?_
              refine g1 (pc' := 57) (w_aload_n X dX12_listen_56 rfl 0 rfl) ?_
              refine g1 (pc' := 59) (w_iload X dX12_listen_57 5 rfl) ?_
              refine g_bd (pc' := 62) (fun r7 => [(0, .ref (xb x + o0)), (1, .int r2.1), (2, .int s25.1), (3, .int s25.2.1), (4, .int s25.2.2.1), (5, .int s41.1)]) (fun r7 => [.int r7.1, .int s41.1, .ref (xb x + 147)]) (fun r7 => r7.2) (fun r7 h => k_X12_heardOf X hR hN Z hk0 mw_1148 (by decide) (Nat.le_of_ble_eq_true rfl) dX12_listen_59 h) (fun r7 => ?_)
              show Gz x 9 62 [(0, .ref (xb x + o0)), (1, .int r2.1), (2, .int s25.1), (3, .int s25.2.1), (4, .int s25.2.2.1), (5, .int s41.1)] [.int r7.1, .int s41.1, .ref (xb x + 147)] KDF r7.2 _ _
              refine g_gd (fun h8 => ?_)
              refine g_lt (pc' := 63) (fun M9 => [(0, .ref (xb x + o0)), (1, .int r2.1), (2, .int s25.1), (3, .int s25.2.1), (4, .int s25.2.2.1), (5, .int s41.1)]) (fun M9 => []) (fun M9 => M9) (w_iast X Z kd_147 h8 dX12_listen_62) (fun M9 => ?_)
              show Gz x 9 63 [(0, .ref (xb x + o0)), (1, .int r2.1), (2, .int s25.1), (3, .int s25.2.1), (4, .int s25.2.2.1), (5, .int s41.1)] [] KDF M9 _ _
              refine g_lt (pc' := 66) (fun v10 => [(5, .int v10), (0, .ref (xb x + o0)), (1, .int r2.1), (2, .int s25.1), (3, .int s25.2.1), (4, .int s25.2.2.1)]) (fun v10 => []) (fun v10 => M9) (w_iinc X dX12_listen_63 5 rfl rfl (by decide) rfl) (fun v10 => ?_)
              show Gz x 9 66 [(5, .int v10), (0, .ref (xb x + o0)), (1, .int r2.1), (2, .int s25.1), (3, .int s25.2.1), (4, .int s25.2.2.1)] [] KDF M9 _ _
              refine g1 (pc' := 41) (w_goto X dX12_listen_66 (by decide)) ?_
              refine g_inl ?_
              exact g_end [1, 2, 3, 4, 5, 0] rfl rfl rfl
          · show Gz x 9 69 [(0, .ref (xb x + o0)), (1, .int r2.1), (2, .int s25.1), (3, .int s25.2.1), (4, .int s25.2.2.1)] [] KDF e11 _ _
            refine g1 (pc' := 70) (w_iconst X (0) dX12_listen_69 (by decide)) ?_
            refine g1 (pc' := 72) (lv' := [(5, .int (0 : Int32)), (0, .ref (xb x + o0)), (1, .int r2.1), (2, .int s25.1), (3, .int s25.2.1), (4, .int s25.2.2.1)]) (w_istore X dX12_listen_70 (by decide) rfl) ?_
            refine g1 (pc' := 73) (w_iconst X (0) dX12_listen_72 (by decide)) ?_
            refine g1 (pc' := 75) (lv' := [(6, .int (0 : Int32)), (5, .int (0 : Int32)), (0, .ref (xb x + o0)), (1, .int r2.1), (2, .int s25.1), (3, .int s25.2.1), (4, .int s25.2.2.1)]) (w_istore X dX12_listen_73 (by decide) rfl) ?_
            refine g_pick (lv' := [(0, .ref (xb x + o0)), (1, .int r2.1), (2, .int s25.1), (3, .int s25.2.1), (4, .int s25.2.2.1), (5, .int (0 : Int32)), (6, .int (0 : Int32))]) [2, 3, 4, 5, 6, 1, 0] rfl ?_
            refine g_bdJ (J := 172) (fun e28 => [(0, .ref (xb x + o0)), (1, .int r2.1), (2, .int s25.1), (3, .int s25.2.1), (4, .int s25.2.2.1), (5, .int e28)]) (fun e28 => []) (fun e28 => e11) (g_lp (fun s75 => [(0, .ref (xb x + o0)), (1, .int r2.1), (2, .int s25.1), (3, .int s25.2.1), (4, .int s25.2.2.1), (5, .int s75.1), (6, .int s75.2)]) (fun s75 => e11) (fun s75 => ?_) 100000 ((0 : Int32), (0 : Int32))) (fun e28 => ?_)
            · show Gz x 9 75 [(0, .ref (xb x + o0)), (1, .int r2.1), (2, .int s25.1), (3, .int s25.2.1), (4, .int s25.2.2.1), (5, .int s75.1), (6, .int s75.2)] [] KDF e11 (b_X12_listen_75 o0 r2 e11 s75) _
              unfold b_X12_listen_75
              refine g1 (pc' := 77) (w_iload X dX12_listen_75 6 rfl) ?_
              refine g1 (pc' := 78) (w_aload_n X dX12_listen_77 rfl 0 rfl) ?_
              refine g1 (pc' := 81) (gt_12_16 X hk0 mw_945 dX12_listen_78) ?_
              refine g_if (pcT := 172) (pcF := 84) (w_icmp_ge (tgt := 172) X dX12_listen_81 (by decide)) (fun h12 => ?_) (fun h12 => ?_)
              · refine g_inr ?_
                exact g_end [0, 1, 2, 3, 4, 5] rfl rfl rfl
              · refine g1 (pc' := 85) (w_iconst X (0) dX12_listen_84 (by decide)) ?_
                refine g1 (pc' := 87) (lv' := [(7, .int (0 : Int32)), (0, .ref (xb x + o0)), (1, .int r2.1), (2, .int s25.1), (3, .int s25.2.1), (4, .int s25.2.2.1), (5, .int s75.1), (6, .int s75.2)]) (w_istore X dX12_listen_85 (by decide) rfl) ?_
                refine g1 (pc' := 88) (w_iconst X (0) dX12_listen_87 (by decide)) ?_
                refine g1 (pc' := 90) (lv' := [(8, .int (0 : Int32)), (7, .int (0 : Int32)), (0, .ref (xb x + o0)), (1, .int r2.1), (2, .int s25.1), (3, .int s25.2.1), (4, .int s25.2.2.1), (5, .int s75.1), (6, .int s75.2)]) (w_istore X dX12_listen_88 (by decide) rfl) ?_
                refine g_pick (lv' := [(0, .ref (xb x + o0)), (1, .int r2.1), (2, .int s25.1), (3, .int s25.2.1), (4, .int s25.2.2.1), (5, .int s75.1), (6, .int s75.2), (7, .int (0 : Int32)), (8, .int (0 : Int32))]) [2, 3, 4, 5, 6, 7, 8, 1, 0] rfl ?_
                refine g_bdJ (J := 150) (fun e24 => [(0, .ref (xb x + o0)), (1, .int r2.1), (2, .int s25.1), (3, .int s25.2.1), (4, .int s25.2.2.1), (5, .int s75.1), (6, .int s75.2), (7, .int e24)]) (fun e24 => []) (fun e24 => e11) (g_lp (fun s90 => [(0, .ref (xb x + o0)), (1, .int r2.1), (2, .int s25.1), (3, .int s25.2.1), (4, .int s25.2.2.1), (5, .int s75.1), (6, .int s75.2), (7, .int s90.1), (8, .int s90.2)]) (fun s90 => e11) (fun s90 => ?_) 100000 ((0 : Int32), (0 : Int32))) (fun e24 => ?_)
                · show Gz x 9 90 [(0, .ref (xb x + o0)), (1, .int r2.1), (2, .int s25.1), (3, .int s25.2.1), (4, .int s25.2.2.1), (5, .int s75.1), (6, .int s75.2), (7, .int s90.1), (8, .int s90.2)] [] KDF e11 (b_X12_listen_90 o0 r2 e11 s75 s90) _
                  unfold b_X12_listen_90
                  refine g1 (pc' := 92) (w_iload X dX12_listen_90 8 rfl) ?_
                  refine g1 (pc' := 93) (w_aload_n X dX12_listen_92 rfl 0 rfl) ?_
                  refine g1 (pc' := 96) (gt_12_16 X hk0 mw_945 dX12_listen_93) ?_
                  refine g_if (pcT := 150) (pcF := 99) (w_icmp_ge (tgt := 150) X dX12_listen_96 (by decide)) (fun h13 => ?_) (fun h13 => ?_)
                  · refine g_inr ?_
                    exact g_end [0, 1, 2, 3, 4, 5, 6, 7] rfl rfl rfl
                  · refine g1 (pc' := 101) (w_iload X dX12_listen_99 7 rfl) ?_
                    refine g1 (pc' := 102) (w_iload_n X dX12_listen_101 rfl 1 rfl) ?_
                    refine g1 (pc' := 104) (w_iload X dX12_listen_102 6 rfl) ?_
                    refine g1 (pc' := 107) (k_X12_has X hR hN Z  mw_1099 (by decide) (Nat.le_of_ble_eq_true rfl) dX12_listen_104) ?_
                    refine g_bdJ (J := 141) (fun j16 => [(0, .ref (xb x + o0)), (1, .int r2.1), (2, .int s25.1), (3, .int s25.2.1), (4, .int s25.2.2.1), (5, .int s75.1), (6, .int s75.2), (8, .int s90.2)]) (fun j16 => [.int j16, .int s90.1]) (fun j16 => e11) ?_ (fun j16 => ?_)
                    · refine g_if (pcT := 140) (pcF := 110) (w_if_eq (tgt := 140) X dX12_listen_107 (by decide)) (fun h17 => ?_) (fun h17 => ?_)
                      · refine g1 (pc' := 141) (w_iconst X (0) dX12_listen_140 (by decide)) ?_
                        exact g_end [0, 1, 2, 3, 4, 5, 6, 8] rfl rfl rfl
                      · refine g1 (pc' := 111) (w_iload_n X dX12_listen_110 rfl 1 rfl) ?_
                        refine g1 (pc' := 113) (w_iload X dX12_listen_111 8 rfl) ?_
                        refine g1 (pc' := 116) (k_X12_has X hR hN Z  mw_1099 (by decide) (Nat.le_of_ble_eq_true rfl) dX12_listen_113) ?_
                        refine g_if (pcT := 140) (pcF := 119) (w_if_eq (tgt := 140) X dX12_listen_116 (by decide)) (fun h18 => ?_) (fun h18 => ?_)
                        · refine g1 (pc' := 141) (w_iconst X (0) dX12_listen_140 (by decide)) ?_
                          exact g_end [0, 1, 2, 3, 4, 5, 6, 8] rfl rfl rfl
                        · refine g1 (pc' := 120) (w_aload_n X dX12_listen_119 rfl 0 rfl) ?_
                          refine g1 (pc' := 123) (gt_12_39 X hk0 mw_968 dX12_listen_120) ?_
                          refine g1 (pc' := 125) (w_iload X dX12_listen_123 6 rfl) ?_
                          refine g_gd (fun h19 => ?_)
                          refine g1 (pc' := 126) (w_iald X kd_147 h19 dX12_listen_125) ?_
                          refine g1 (pc' := 127) (w_aload_n X dX12_listen_126 rfl 0 rfl) ?_
                          refine g1 (pc' := 130) (gt_12_39 X hk0 mw_968 dX12_listen_127) ?_
                          refine g1 (pc' := 132) (w_iload X dX12_listen_130 8 rfl) ?_
                          refine g_gd (fun h20 => ?_)
                          refine g1 (pc' := 133) (w_iald X kd_147 h20 dX12_listen_132) ?_
                          refine g_if (pcT := 136) (pcF := 140) (w_icmp_ne (tgt := 140) X dX12_listen_133 (by decide)) (fun h21 => ?_) (fun h21 => ?_)
                          · refine g1 (pc' := 137) (w_iconst X (1) dX12_listen_136 (by decide)) ?_
                            refine g1 (pc' := 141) (w_goto X dX12_listen_137 (by decide)) ?_
                            exact g_end [0, 1, 2, 3, 4, 5, 6, 8] rfl rfl rfl
                          · refine g1 (pc' := 141) (w_iconst X (0) dX12_listen_140 (by decide)) ?_
                            exact g_end [0, 1, 2, 3, 4, 5, 6, 8] rfl rfl rfl
                    · show Gz x 9 141 [(0, .ref (xb x + o0)), (1, .int r2.1), (2, .int s25.1), (3, .int s25.2.1), (4, .int s25.2.2.1), (5, .int s75.1), (6, .int s75.2), (8, .int s90.2)] [.int j16, .int s90.1] KDF e11 _ _
                      refine g1 (pc' := 142) (w_iadd X dX12_listen_141) ?_
                      refine g_lt (pc' := 144) (fun v22 => [(7, .int v22), (0, .ref (xb x + o0)), (1, .int r2.1), (2, .int s25.1), (3, .int s25.2.1), (4, .int s25.2.2.1), (5, .int s75.1), (6, .int s75.2), (8, .int s90.2)]) (fun v22 => []) (fun v22 => e11) (w_istore X dX12_listen_142 (by decide) rfl) (fun v22 => ?_)
                      show Gz x 9 144 [(7, .int v22), (0, .ref (xb x + o0)), (1, .int r2.1), (2, .int s25.1), (3, .int s25.2.1), (4, .int s25.2.2.1), (5, .int s75.1), (6, .int s75.2), (8, .int s90.2)] [] KDF e11 _ _
                      refine g_lt (pc' := 147) (fun v23 => [(8, .int v23), (7, .int v22), (0, .ref (xb x + o0)), (1, .int r2.1), (2, .int s25.1), (3, .int s25.2.1), (4, .int s25.2.2.1), (5, .int s75.1), (6, .int s75.2)]) (fun v23 => []) (fun v23 => e11) (w_iinc X dX12_listen_144 8 rfl rfl (by decide) rfl) (fun v23 => ?_)
                      show Gz x 9 147 [(8, .int v23), (7, .int v22), (0, .ref (xb x + o0)), (1, .int r2.1), (2, .int s25.1), (3, .int s25.2.1), (4, .int s25.2.2.1), (5, .int s75.1), (6, .int s75.2)] [] KDF e11 _ _
                      refine g1 (pc' := 90) (w_goto X dX12_listen_147 (by decide)) ?_
                      refine g_inl ?_
                      exact g_end [2, 3, 4, 5, 6, 7, 8, 1, 0] rfl rfl rfl
                · show Gz x 9 150 [(0, .ref (xb x + o0)), (1, .int r2.1), (2, .int s25.1), (3, .int s25.2.1), (4, .int s25.2.2.1), (5, .int s75.1), (6, .int s75.2), (7, .int e24)] [] KDF e11 _ _
                  refine g1 (pc' := 152) (w_iload X dX12_listen_150 7 rfl) ?_
                  refine g1 (pc' := 154) (w_iload X dX12_listen_152 5 rfl) ?_
                  refine g_ltJ (J := 164) (fun j25 => [(0, .ref (xb x + o0)), (1, .int r2.1), (2, .int s25.1), (3, .int s25.2.1), (4, .int s25.2.2.1), (6, .int s75.2)]) (fun j25 => [.int j25]) (fun j25 => e11) ?_ (fun j25 => ?_)
                  · refine g_ifS (pcT := 162) (pcF := 157) (w_icmp_le (tgt := 162) X dX12_listen_154 (by decide)) (fun h26 => ?_) (fun h26 => ?_)
                    · refine g1 (pc' := 164) (w_iload X dX12_listen_162 5 rfl) ?_
                      exact g_end [0, 1, 2, 3, 4, 6] rfl rfl rfl
                    · refine g1 (pc' := 159) (w_iload X dX12_listen_157 7 rfl) ?_
                      refine g1 (pc' := 164) (w_goto X dX12_listen_159 (by decide)) ?_
                      exact g_end [0, 1, 2, 3, 4, 6] rfl rfl rfl
                  · show Gz x 9 164 [(0, .ref (xb x + o0)), (1, .int r2.1), (2, .int s25.1), (3, .int s25.2.1), (4, .int s25.2.2.1), (6, .int s75.2)] [.int j25] KDF e11 _ _
                    refine g1 (pc' := 166) (lv' := [(5, .int j25), (0, .ref (xb x + o0)), (1, .int r2.1), (2, .int s25.1), (3, .int s25.2.1), (4, .int s25.2.2.1), (6, .int s75.2)]) (w_istore X dX12_listen_164 (by decide) rfl) ?_
                    refine g_lt (pc' := 169) (fun v27 => [(6, .int v27), (5, .int j25), (0, .ref (xb x + o0)), (1, .int r2.1), (2, .int s25.1), (3, .int s25.2.1), (4, .int s25.2.2.1)]) (fun v27 => []) (fun v27 => e11) (w_iinc X dX12_listen_166 6 rfl rfl (by decide) rfl) (fun v27 => ?_)
                    show Gz x 9 169 [(6, .int v27), (5, .int j25), (0, .ref (xb x + o0)), (1, .int r2.1), (2, .int s25.1), (3, .int s25.2.1), (4, .int s25.2.2.1)] [] KDF e11 _ _
                    refine g1 (pc' := 75) (w_goto X dX12_listen_169 (by decide)) ?_
                    refine g_inl ?_
                    exact g_end [2, 3, 4, 5, 6, 1, 0] rfl rfl rfl
            · show Gz x 9 172 [(0, .ref (xb x + o0)), (1, .int r2.1), (2, .int s25.1), (3, .int s25.2.1), (4, .int s25.2.2.1), (5, .int e28)] [] KDF e11 _ _
              refine g1 (pc' := 174) (w_iload X dX12_listen_172 5 rfl) ?_
              refine g1 (pc' := 175) (w_iload_n X dX12_listen_174 rfl 3 rfl) ?_
              refine g_ltJ (J := 184) (fun j29 => [(0, .ref (xb x + o0)), (1, .int r2.1), (3, .int s25.2.1), (4, .int s25.2.2.1), (5, .int e28)]) (fun j29 => [.int j29]) (fun j29 => e11) ?_ (fun j29 => ?_)
              · refine g_ifS (pcT := 183) (pcF := 178) (w_icmp_ge (tgt := 183) X dX12_listen_175 (by decide)) (fun h30 => ?_) (fun h30 => ?_)
                · refine g1 (pc' := 184) (w_iload_n X dX12_listen_183 rfl 2 rfl) ?_
                  exact g_end [0, 1, 3, 4, 5] rfl rfl rfl
                · refine g1 (pc' := 180) (w_iload X dX12_listen_178 4 rfl) ?_
                  refine g1 (pc' := 184) (w_goto X dX12_listen_180 (by decide)) ?_
                  exact g_end [0, 1, 3, 4, 5] rfl rfl rfl
              · show Gz x 9 184 [(0, .ref (xb x + o0)), (1, .int r2.1), (3, .int s25.2.1), (4, .int s25.2.2.1), (5, .int e28)] [.int j29] KDF e11 _ _
                refine g1 (pc' := 185) (lv' := [(2, .int j29), (0, .ref (xb x + o0)), (1, .int r2.1), (3, .int s25.2.1), (4, .int s25.2.2.1), (5, .int e28)]) (w_istore_n X dX12_listen_184 rfl (by decide) rfl) ?_
                refine g1 (pc' := 187) (w_iload X dX12_listen_185 5 rfl) ?_
                refine g1 (pc' := 188) (w_iload_n X dX12_listen_187 rfl 3 rfl) ?_
                refine g_ltJ (J := 197) (fun j31 => [(0, .ref (xb x + o0)), (1, .int r2.1), (2, .int j29), (4, .int s25.2.2.1)]) (fun j31 => [.int j31]) (fun j31 => e11) ?_ (fun j31 => ?_)
                · refine g_ifS (pcT := 196) (pcF := 191) (w_icmp_ge (tgt := 196) X dX12_listen_188 (by decide)) (fun h32 => ?_) (fun h32 => ?_)
                  · refine g1 (pc' := 197) (w_iload_n X dX12_listen_196 rfl 3 rfl) ?_
                    exact g_end [1, 2, 0, 4] rfl rfl rfl
                  · refine g1 (pc' := 193) (w_iload X dX12_listen_191 5 rfl) ?_
                    refine g1 (pc' := 197) (w_goto X dX12_listen_193 (by decide)) ?_
                    exact g_end [1, 2, 0, 4] rfl rfl rfl
                · show Gz x 9 197 [(0, .ref (xb x + o0)), (1, .int r2.1), (2, .int j29), (4, .int s25.2.2.1)] [.int j31] KDF e11 _ _
                  refine g1 (pc' := 198) (lv' := [(3, .int j31), (0, .ref (xb x + o0)), (1, .int r2.1), (2, .int j29), (4, .int s25.2.2.1)]) (w_istore_n X dX12_listen_197 rfl (by decide) rfl) ?_
                  refine g_lt (pc' := 201) (fun v33 => [(4, .int v33), (3, .int j31), (0, .ref (xb x + o0)), (1, .int r2.1), (2, .int j29)]) (fun v33 => []) (fun v33 => e11) (w_iinc X dX12_listen_198 4 rfl rfl (by decide) rfl) (fun v33 => ?_)
                  show Gz x 9 201 [(4, .int v33), (3, .int j31), (0, .ref (xb x + o0)), (1, .int r2.1), (2, .int j29)] [] KDF e11 _ _
                  refine g1 (pc' := 25) (w_goto X dX12_listen_201 (by decide)) ?_
                  refine g_inl ?_
                  exact g_end [2, 3, 4, 1, 0] rfl rfl rfl
      · show Gz x 9 204 [(2, .int e34.1)] [] KDF e34.2 _ _
        refine g1 (pc' := 205) (w_iload_n X dX12_listen_204 rfl 0 rfl) ?_
        exact g_rI2 X dX12_listen_205
  exact G _ h _ rfl
theorem k_X12_listen {x : Cxt} {cc : ByteArray} {nL : Nat} {own : String} {ret : Option FieldType} (X : Ok x cc nL own ret) {d : Nat} (hR : Rm x d KDF) (hN : Nst x) (Z : xz x = 0) {pc : Nat} {lv : List (Nat × Value)} {rest : List Value} {M : Mm} {o0 : Nat} (hk0 : KDF[o0]? = some (12, 0)) {idx : Nat} (hw : Cond.methodLink own idx yX12_listen ∈ tbG) (hdd : 5 + 1 ≤ d) (hrm : (rest.map fun v => v.category).sum ≤ 8) (hd : decode cc pc = .ok (.invokevirtual idx, 3)) {r : Int32} {M' : Mm} (h : f_X12_listen o0 M = some (r, M')) : StpZ x nL pc lv (.ref (xb x + o0) :: rest) KDF M (pc + 3) lv (.int r :: rest) KDF M' :=
  w_callV (st := []) (As := []) X hR hN (CtX0 Z (c_X12_listen hk0 h)) ⟨Nat.le_refl _, Nat.le_refl _⟩ ⟨Nat.le_refl _, Nat.le_refl _⟩ hk0 (ci := 12) (fs := fs_12 o0) (fun _ _ _ => rfl) rfl hw mw_1340 mw_1341 mw_72 mw_1342 (n := 0) (by decide +kernel) rfl hdd (by decide) hrm hd
def f_X12_write (o0 : Nat) (x1 : Int32) (x2 : Int32) (M : Mm) : Option (Int32 × Mm) :=
  (if (f_X12_isBell o0 x1 M) = 0 then some ((-1000000001 : Int32), M) else (if (f_X12_isBell o0 x2 M) = 0 then some ((-1000000001 : Int32), M) else (if (M o0 33) = (15 : Int32) then some ((-1000000004 : Int32), M) else Gd (ib ((2 : Int32) * (M o0 33)) 30) (Lt (st2 M 143 (ix ((2 : Int32) * (M o0 33))) x1) (fun M5 => Gd (ib (((2 : Int32) * (M5 o0 33)) + (1 : Int32)) 30) (Lt (st2 M5 143 (ix (((2 : Int32) * (M5 o0 33)) + (1 : Int32))) x2) (fun M7 => Lt (st2 M7 o0 33 ((M7 o0 33) + (1 : Int32))) (fun M8 => some ((M8 o0 33), M8)))))))))
set_option maxRecDepth 100000 in
set_option maxHeartbeats 4000000 in
theorem c_X12_write {l : Launch} {D : va_G} {an : An} {b : Nat} {o0 : Nat} {x1 : Int32} {x2 : Int32} (hk0 : KDF[o0]? = some (12, 0)) {M : Mm} {r : Int32} {M' : Mm} (h : f_X12_write o0 x1 x2 M = some (r, M')) : Ct l D an b 0 yX12_write cX12_write 3 (some .int) 3 [.ref (b + o0), .int x1, .int x2] KDF M (some (.int r)) KDF M' := by
  refine CtX.mk (as := fun b => [.ref (b + o0), .int x1, .int x2]) (rv := fun b => (some (.int r))) (by decide) (fun b => Nat.le_of_ble_eq_true rfl) ⟨Nat.le_refl _, Nat.le_refl _⟩ (fun x X hR Z hN _ _ => ?_)
  have X : Ok x cX12_write 3 RX12 (some .int) := X
  have G : Gz x 3 0 [(0, .ref (xb x + o0)), (1, .int x1), (2, .int x2)] [] KDF M (f_X12_write o0 x1 x2 M) (PsI2 x KDF) := by
    unfold f_X12_write
    refine g1 (pc' := 1) (w_aload_n X dX12_write_0 rfl 0 rfl) ?_
    refine g1 (pc' := 2) (w_iload_n X dX12_write_1 rfl 1 rfl) ?_
    refine g1 (pc' := 5) (k_X12_isBell X hR hN Z hk0 mw_1169 (by decide) (Nat.le_of_ble_eq_true rfl) dX12_write_2) ?_
    refine g_if (pcT := 16) (pcF := 8) (w_if_eq (tgt := 16) X dX12_write_5 (by decide)) (fun h1 => ?_) (fun h1 => ?_)
    · refine g1 (pc' := 18) (w_ldc (v := -1000000001) X dX12_write_16 mw_1173) ?_
      exact g_rI2 X dX12_write_18
    · refine g1 (pc' := 9) (w_aload_n X dX12_write_8 rfl 0 rfl) ?_
      refine g1 (pc' := 10) (w_iload_n X dX12_write_9 rfl 2 rfl) ?_
      refine g1 (pc' := 13) (k_X12_isBell X hR hN Z hk0 mw_1169 (by decide) (Nat.le_of_ble_eq_true rfl) dX12_write_10) ?_
      refine g_if (pcT := 16) (pcF := 19) (w_if_ne (tgt := 19) X dX12_write_13 (by decide)) (fun h2 => ?_) (fun h2 => ?_)
      · refine g1 (pc' := 18) (w_ldc (v := -1000000001) X dX12_write_16 mw_1173) ?_
        exact g_rI2 X dX12_write_18
      · refine g1 (pc' := 20) (w_aload_n X dX12_write_19 rfl 0 rfl) ?_
        refine g1 (pc' := 23) (gt_12_33 X hk0 mw_962 dX12_write_20) ?_
        refine g1 (pc' := 25) (w_bipush X (15) dX12_write_23 (by decide)) ?_
        refine g_if (pcT := 28) (pcF := 31) (w_icmp_ne (tgt := 31) X dX12_write_25 (by decide)) (fun h3 => ?_) (fun h3 => ?_)
        · refine g1 (pc' := 30) (w_ldc (v := -1000000004) X dX12_write_28 mw_1059) ?_
          exact g_rI2 X dX12_write_30
        · refine g1 (pc' := 32) (w_aload_n X dX12_write_31 rfl 0 rfl) ?_
          refine g1 (pc' := 35) (gt_12_34 X hk0 mw_963 dX12_write_32) ?_
          refine g1 (pc' := 36) (w_iconst X (2) dX12_write_35 (by decide)) ?_
          refine g1 (pc' := 37) (w_aload_n X dX12_write_36 rfl 0 rfl) ?_
          refine g1 (pc' := 40) (gt_12_33 X hk0 mw_962 dX12_write_37) ?_
          refine g1 (pc' := 41) (w_imul X dX12_write_40) ?_
          refine g1 (pc' := 42) (w_iload_n X dX12_write_41 rfl 1 rfl) ?_
          refine g_gd (fun h4 => ?_)
          refine g_lt (pc' := 43) (fun M5 => [(0, .ref (xb x + o0)), (1, .int x1), (2, .int x2)]) (fun M5 => []) (fun M5 => M5) (w_iast X Z kd_143 h4 dX12_write_42) (fun M5 => ?_)
          show Gz x 3 43 [(0, .ref (xb x + o0)), (1, .int x1), (2, .int x2)] [] KDF M5 _ _
          refine g1 (pc' := 44) (w_aload_n X dX12_write_43 rfl 0 rfl) ?_
          refine g1 (pc' := 47) (gt_12_34 X hk0 mw_963 dX12_write_44) ?_
          refine g1 (pc' := 48) (w_iconst X (2) dX12_write_47 (by decide)) ?_
          refine g1 (pc' := 49) (w_aload_n X dX12_write_48 rfl 0 rfl) ?_
          refine g1 (pc' := 52) (gt_12_33 X hk0 mw_962 dX12_write_49) ?_
          refine g1 (pc' := 53) (w_imul X dX12_write_52) ?_
          refine g1 (pc' := 54) (w_iconst X (1) dX12_write_53 (by decide)) ?_
          refine g1 (pc' := 55) (w_iadd X dX12_write_54) ?_
          refine g1 (pc' := 56) (w_iload_n X dX12_write_55 rfl 2 rfl) ?_
          refine g_gd (fun h6 => ?_)
          refine g_lt (pc' := 57) (fun M7 => [(0, .ref (xb x + o0)), (1, .int x1), (2, .int x2)]) (fun M7 => []) (fun M7 => M7) (w_iast X Z kd_143 h6 dX12_write_56) (fun M7 => ?_)
          show Gz x 3 57 [(0, .ref (xb x + o0)), (1, .int x1), (2, .int x2)] [] KDF M7 _ _
          refine g1 (pc' := 58) (w_aload_n X dX12_write_57 rfl 0 rfl) ?_
          refine g1 (pc' := 59) (w_dup X dX12_write_58 rfl) ?_
          refine g1 (pc' := 62) (gt_12_33 X hk0 mw_962 dX12_write_59) ?_
          refine g1 (pc' := 63) (w_iconst X (1) dX12_write_62 (by decide)) ?_
          refine g1 (pc' := 64) (w_iadd X dX12_write_63) ?_
          refine g_lt (pc' := 67) (fun M8 => [(0, .ref (xb x + o0)), (1, .int x1), (2, .int x2)]) (fun M8 => []) (fun M8 => M8) (pt_12_33 X Z hk0 mw_962 dX12_write_64) (fun M8 => ?_)
          show Gz x 3 67 [(0, .ref (xb x + o0)), (1, .int x1), (2, .int x2)] [] KDF M8 _ _
          refine g1 (pc' := 68) (w_aload_n X dX12_write_67 rfl 0 rfl) ?_
          refine g1 (pc' := 71) (gt_12_33 X hk0 mw_962 dX12_write_68) ?_
          exact g_rI2 X dX12_write_71
  exact G _ h _ rfl
theorem k_X12_write {x : Cxt} {cc : ByteArray} {nL : Nat} {own : String} {ret : Option FieldType} (X : Ok x cc nL own ret) {d : Nat} (hR : Rm x d KDF) (hN : Nst x) (Z : xz x = 0) {pc : Nat} {lv : List (Nat × Value)} {rest : List Value} {M : Mm} {o0 : Nat} {x1 : Int32} {x2 : Int32} (hk0 : KDF[o0]? = some (12, 0)) {idx : Nat} (hw : Cond.methodLink own idx yX12_write ∈ tbG) (hdd : 3 + 1 ≤ d) (hrm : (rest.map fun v => v.category).sum ≤ 8) (hd : decode cc pc = .ok (.invokevirtual idx, 3)) {r : Int32} {M' : Mm} (h : f_X12_write o0 x1 x2 M = some (r, M')) : StpZ x nL pc lv (.int x2 :: .int x1 :: .ref (xb x + o0) :: rest) KDF M (pc + 3) lv (.int r :: rest) KDF M' :=
  w_callV (st := []) (As := [.int x1, .int x2]) X hR hN (CtX0 Z (c_X12_write hk0 h)) ⟨Nat.le_refl _, Nat.le_refl _⟩ ⟨Nat.le_refl _, Nat.le_refl _⟩ hk0 (ci := 12) (fs := fs_12 o0) (fun _ _ _ => rfl) rfl hw mw_1347 mw_1348 mw_72 mw_1349 (n := 2) (by decide +kernel) rfl hdd (by decide) hrm hd
def f_X12_tear (o0 : Nat) (M : Mm) : Option (Int32 × Mm) :=
  Lt ((M o0 31) + (M o0 33)) (fun v1 => Lt (st2 M o0 31 (0 : Int32)) (fun M2 => Lt (st2 M2 o0 33 (0 : Int32)) (fun M3 => some (v1, M3))))
set_option maxRecDepth 100000 in
set_option maxHeartbeats 4000000 in
theorem c_X12_tear {l : Launch} {D : va_G} {an : An} {b : Nat} {o0 : Nat} (hk0 : KDF[o0]? = some (12, 0)) {M : Mm} {r : Int32} {M' : Mm} (h : f_X12_tear o0 M = some (r, M')) : Ct l D an b 0 yX12_tear cX12_tear 2 (some .int) 1 [.ref (b + o0)] KDF M (some (.int r)) KDF M' := by
  refine CtX.mk (as := fun b => [.ref (b + o0)]) (rv := fun b => (some (.int r))) (by decide) (fun b => Nat.le_of_ble_eq_true rfl) ⟨Nat.le_refl _, Nat.le_refl _⟩ (fun x X hR Z hN _ _ => ?_)
  have X : Ok x cX12_tear 2 RX12 (some .int) := X
  have G : Gz x 2 0 [(0, .ref (xb x + o0))] [] KDF M (f_X12_tear o0 M) (PsI2 x KDF) := by
    unfold f_X12_tear
    refine g1 (pc' := 1) (w_aload_n X dX12_tear_0 rfl 0 rfl) ?_
    refine g1 (pc' := 4) (gt_12_31 X hk0 mw_960 dX12_tear_1) ?_
    refine g1 (pc' := 5) (w_aload_n X dX12_tear_4 rfl 0 rfl) ?_
    refine g1 (pc' := 8) (gt_12_33 X hk0 mw_962 dX12_tear_5) ?_
    refine g1 (pc' := 9) (w_iadd X dX12_tear_8) ?_
    refine g_lt (pc' := 10) (fun v1 => [(1, .int v1), (0, .ref (xb x + o0))]) (fun v1 => []) (fun v1 => M) (w_istore_n X dX12_tear_9 rfl (by decide) rfl) (fun v1 => ?_)
    show Gz x 2 10 [(1, .int v1), (0, .ref (xb x + o0))] [] KDF M _ _
    refine g1 (pc' := 11) (w_aload_n X dX12_tear_10 rfl 1 rfl) ?_
    refine g1 (pc' := 12) (w_iconst X (0) dX12_tear_11 (by decide)) ?_
    refine g_lt (pc' := 15) (fun M2 => [(1, .int v1), (0, .ref (xb x + o0))]) (fun M2 => []) (fun M2 => M2) (pt_12_31 X Z hk0 mw_960 dX12_tear_12) (fun M2 => ?_)
    show Gz x 2 15 [(1, .int v1), (0, .ref (xb x + o0))] [] KDF M2 _ _
    refine g1 (pc' := 16) (w_aload_n X dX12_tear_15 rfl 1 rfl) ?_
    refine g1 (pc' := 17) (w_iconst X (0) dX12_tear_16 (by decide)) ?_
    refine g_lt (pc' := 20) (fun M3 => [(1, .int v1), (0, .ref (xb x + o0))]) (fun M3 => []) (fun M3 => M3) (pt_12_33 X Z hk0 mw_962 dX12_tear_17) (fun M3 => ?_)
    show Gz x 2 20 [(1, .int v1), (0, .ref (xb x + o0))] [] KDF M3 _ _
    refine g1 (pc' := 21) (w_iload_n X dX12_tear_20 rfl 0 rfl) ?_
    exact g_rI2 X dX12_tear_21
  exact G _ h _ rfl
theorem k_X12_tear {x : Cxt} {cc : ByteArray} {nL : Nat} {own : String} {ret : Option FieldType} (X : Ok x cc nL own ret) {d : Nat} (hR : Rm x d KDF) (hN : Nst x) (Z : xz x = 0) {pc : Nat} {lv : List (Nat × Value)} {rest : List Value} {M : Mm} {o0 : Nat} (hk0 : KDF[o0]? = some (12, 0)) {idx : Nat} (hw : Cond.methodLink own idx yX12_tear ∈ tbG) (hdd : 1 + 1 ≤ d) (hrm : (rest.map fun v => v.category).sum ≤ 8) (hd : decode cc pc = .ok (.invokevirtual idx, 3)) {r : Int32} {M' : Mm} (h : f_X12_tear o0 M = some (r, M')) : StpZ x nL pc lv (.ref (xb x + o0) :: rest) KDF M (pc + 3) lv (.int r :: rest) KDF M' :=
  w_callV (st := []) (As := []) X hR hN (CtX0 Z (c_X12_tear hk0 h)) ⟨Nat.le_refl _, Nat.le_refl _⟩ ⟨Nat.le_refl _, Nat.le_refl _⟩ hk0 (ci := 12) (fs := fs_12 o0) (fun _ _ _ => rfl) rfl hw mw_1351 mw_1352 mw_72 mw_1353 (n := 0) (by decide +kernel) rfl hdd (by decide) hrm hd
def b_X12_judge_2 (o0 : Nat) (M : Mm) (s2 : Int32) : Option ((Int32) ⊕ ((Int32) ⊕ (Unit))) :=
  (if (M o0 33) ≤ s2 then some (.inr (.inr ())) else Gd (ib ((2 : Int32) * s2) 30) (Bd (f_X12_placeOf o0 136 (M 143 (ix ((2 : Int32) * s2))) M) (fun r3 => Gd (ib (((2 : Int32) * s2) + (1 : Int32)) 30) ((if r3 = (M 143 (ix (((2 : Int32) * s2) + (1 : Int32)))) then Lt (s2 + (1 : Int32)) (fun v6 => some (.inl v6)) else some (.inr (.inl s2)))))))
def f_X12_judge (o0 : Nat) (M : Mm) : Option (Int32) :=
  BdS (Lp (b_X12_judge_2 o0 M) 100000 (0 : Int32)) (fun e7 => some (-1 : Int32))
set_option maxRecDepth 100000 in
set_option maxHeartbeats 4000000 in
theorem c_X12_judge {l : Launch} {D : va_G} {an : An} {b : Nat} {o0 : Nat} (hk0 : KDF[o0]? = some (12, 0)) {M : Mm} {r : Int32} (h : f_X12_judge o0 M = some r) : Ct l D an b 0 yX12_judge cX12_judge 2 (some .int) 2 [.ref (b + o0)] KDF M (some (.int r)) KDF M := by
  refine CtX.mk (as := fun b => [.ref (b + o0)]) (rv := fun b => (some (.int r))) (by decide) (fun b => Nat.le_of_ble_eq_true rfl) ⟨Nat.le_refl _, Nat.le_refl _⟩ (fun x X hR Z hN _ _ => ?_)
  have X : Ok x cX12_judge 2 RX12 (some .int) := X
  have G : Gz x 2 0 [(0, .ref (xb x + o0))] [] KDF M (f_X12_judge o0 M) (PsI x KDF M) := by
    unfold f_X12_judge
    refine g1 (pc' := 1) (w_iconst X (0) dX12_judge_0 (by decide)) ?_
    refine g1 (pc' := 2) (lv' := [(1, .int (0 : Int32)), (0, .ref (xb x + o0))]) (w_istore_n X dX12_judge_1 rfl (by decide) rfl) ?_
    refine g_pick (lv' := [(0, .ref (xb x + o0)), (1, .int (0 : Int32))]) [1, 0] rfl ?_
    refine g_bdS (J := 47) (fun e7 => []) (fun e7 => []) (fun e7 => M) (g_lp (fun s2 => [(0, .ref (xb x + o0)), (1, .int s2)]) (fun s2 => M) (fun s2 => ?_) 100000 (0 : Int32)) (fun e7 => ?_)
    · show Gz x 2 2 [(0, .ref (xb x + o0)), (1, .int s2)] [] KDF M (b_X12_judge_2 o0 M s2) _
      unfold b_X12_judge_2
      refine g1 (pc' := 3) (w_iload_n X dX12_judge_2 rfl 1 rfl) ?_
      refine g1 (pc' := 4) (w_aload_n X dX12_judge_3 rfl 0 rfl) ?_
      refine g1 (pc' := 7) (gt_12_33 X hk0 mw_962 dX12_judge_4) ?_
      refine g_if (pcT := 47) (pcF := 10) (w_icmp_ge (tgt := 47) X dX12_judge_7 (by decide)) (fun h1 => ?_) (fun h1 => ?_)
      · refine g_inr ?_
        refine g_inr ?_
        exact g_end [] rfl rfl rfl
      · refine g1 (pc' := 11) (w_aload_n X dX12_judge_10 rfl 0 rfl) ?_
        refine g1 (pc' := 12) (w_aload_n X dX12_judge_11 rfl 0 rfl) ?_
        refine g1 (pc' := 15) (gt_12_23 X hk0 mw_952 dX12_judge_12) ?_
        refine g1 (pc' := 16) (w_aload_n X dX12_judge_15 rfl 0 rfl) ?_
        refine g1 (pc' := 19) (gt_12_34 X hk0 mw_963 dX12_judge_16) ?_
        refine g1 (pc' := 20) (w_iconst X (2) dX12_judge_19 (by decide)) ?_
        refine g1 (pc' := 21) (w_iload_n X dX12_judge_20 rfl 1 rfl) ?_
        refine g1 (pc' := 22) (w_imul X dX12_judge_21) ?_
        refine g_gd (fun h2 => ?_)
        refine g1 (pc' := 23) (w_iald X kd_143 h2 dX12_judge_22) ?_
        refine g_bd (pc' := 26) (fun r3 => [(0, .ref (xb x + o0)), (1, .int s2)]) (fun r3 => [.int r3]) (fun r3 => M) (fun r3 h => k_X12_placeOf X hR hN Z hk0 (kln_of kd_136) mw_1152 (by decide) (Nat.le_of_ble_eq_true rfl) dX12_judge_23 h) (fun r3 => ?_)
        show Gz x 2 26 [(0, .ref (xb x + o0)), (1, .int s2)] [.int r3] KDF M _ _
        refine g1 (pc' := 27) (w_aload_n X dX12_judge_26 rfl 0 rfl) ?_
        refine g1 (pc' := 30) (gt_12_34 X hk0 mw_963 dX12_judge_27) ?_
        refine g1 (pc' := 31) (w_iconst X (2) dX12_judge_30 (by decide)) ?_
        refine g1 (pc' := 32) (w_iload_n X dX12_judge_31 rfl 1 rfl) ?_
        refine g1 (pc' := 33) (w_imul X dX12_judge_32) ?_
        refine g1 (pc' := 34) (w_iconst X (1) dX12_judge_33 (by decide)) ?_
        refine g1 (pc' := 35) (w_iadd X dX12_judge_34) ?_
        refine g_gd (fun h4 => ?_)
        refine g1 (pc' := 36) (w_iald X kd_143 h4 dX12_judge_35) ?_
        refine g_if (pcT := 41) (pcF := 39) (w_icmp_eq (tgt := 41) X dX12_judge_36 (by decide)) (fun h5 => ?_) (fun h5 => ?_)
        · refine g_lt (pc' := 44) (fun v6 => [(1, .int v6), (0, .ref (xb x + o0))]) (fun v6 => []) (fun v6 => M) (w_iinc X dX12_judge_41 1 rfl rfl (by decide) rfl) (fun v6 => ?_)
          show Gz x 2 44 [(1, .int v6), (0, .ref (xb x + o0))] [] KDF M _ _
          refine g1 (pc' := 2) (w_goto X dX12_judge_44 (by decide)) ?_
          refine g_inl ?_
          exact g_end [1, 0] rfl rfl rfl
        · refine g1 (pc' := 40) (w_iload_n X dX12_judge_39 rfl 1 rfl) ?_
          refine g_inr ?_
          refine g_inl ?_
          exact g_rI X dX12_judge_40
    · show Gz x 2 47 [] [] KDF M _ _
      refine g1 (pc' := 48) (w_iconst X (-1) dX12_judge_47 (by decide)) ?_
      exact g_rI X dX12_judge_48
  exact G _ h _ rfl
theorem k_X12_judge {x : Cxt} {cc : ByteArray} {nL : Nat} {own : String} {ret : Option FieldType} (X : Ok x cc nL own ret) {d : Nat} (hR : Rm x d KDF) (hN : Nst x) (Z : xz x = 0) {pc : Nat} {lv : List (Nat × Value)} {rest : List Value} {M : Mm} {o0 : Nat} (hk0 : KDF[o0]? = some (12, 0)) {idx : Nat} (hw : Cond.methodLink own idx yX12_judge ∈ tbG) (hdd : 2 + 1 ≤ d) (hrm : (rest.map fun v => v.category).sum ≤ 8) (hd : decode cc pc = .ok (.invokevirtual idx, 3)) {r : Int32} (h : f_X12_judge o0 M = some r) : StpZ x nL pc lv (.ref (xb x + o0) :: rest) KDF M (pc + 3) lv (.int r :: rest) KDF M :=
  w_callV (st := []) (As := []) X hR hN (CtX0 Z (c_X12_judge hk0 h)) ⟨Nat.le_refl _, Nat.le_refl _⟩ ⟨Nat.le_refl _, Nat.le_refl _⟩ hk0 (ci := 12) (fs := fs_12 o0) (fun _ _ _ => rfl) rfl hw mw_1355 mw_1356 mw_72 mw_1357 (n := 0) (by decide +kernel) rfl hdd (by decide) hrm hd
def f_X12_seed (o0 : Nat) (x1 : Int32) (M : Mm) : Option (Int32 × Mm) :=
  (if 0 ≤ x1 then Lt (M o0 30) (fun v2 => Lt (st2 M o0 30 x1) (fun M3 => some (v2, M3))) else some ((-1000000002 : Int32), M))
set_option maxRecDepth 100000 in
set_option maxHeartbeats 4000000 in
theorem c_X12_seed {l : Launch} {D : va_G} {an : An} {b : Nat} {o0 : Nat} {x1 : Int32} (hk0 : KDF[o0]? = some (12, 0)) {M : Mm} {r : Int32} {M' : Mm} (h : f_X12_seed o0 x1 M = some (r, M')) : Ct l D an b 0 yX12_seed cX12_seed 3 (some .int) 1 [.ref (b + o0), .int x1] KDF M (some (.int r)) KDF M' := by
  refine CtX.mk (as := fun b => [.ref (b + o0), .int x1]) (rv := fun b => (some (.int r))) (by decide) (fun b => Nat.le_of_ble_eq_true rfl) ⟨Nat.le_refl _, Nat.le_refl _⟩ (fun x X hR Z hN _ _ => ?_)
  have X : Ok x cX12_seed 3 RX12 (some .int) := X
  have G : Gz x 3 0 [(0, .ref (xb x + o0)), (1, .int x1)] [] KDF M (f_X12_seed o0 x1 M) (PsI2 x KDF) := by
    unfold f_X12_seed
    refine g1 (pc' := 1) (w_iload_n X dX12_seed_0 rfl 1 rfl) ?_
    refine g_if (pcT := 7) (pcF := 4) (w_if_ge (tgt := 7) X dX12_seed_1 (by decide)) (fun h1 => ?_) (fun h1 => ?_)
    · refine g1 (pc' := 8) (w_aload_n X dX12_seed_7 rfl 0 rfl) ?_
      refine g1 (pc' := 11) (gt_12_30 X hk0 mw_959 dX12_seed_8) ?_
      refine g_lt (pc' := 12) (fun v2 => [(2, .int v2), (0, .ref (xb x + o0)), (1, .int x1)]) (fun v2 => []) (fun v2 => M) (w_istore_n X dX12_seed_11 rfl (by decide) rfl) (fun v2 => ?_)
      show Gz x 3 12 [(2, .int v2), (0, .ref (xb x + o0)), (1, .int x1)] [] KDF M _ _
      refine g1 (pc' := 13) (w_aload_n X dX12_seed_12 rfl 1 rfl) ?_
      refine g1 (pc' := 14) (w_iload_n X dX12_seed_13 rfl 2 rfl) ?_
      refine g_lt (pc' := 17) (fun M3 => [(2, .int v2), (0, .ref (xb x + o0)), (1, .int x1)]) (fun M3 => []) (fun M3 => M3) (pt_12_30 X Z hk0 mw_959 dX12_seed_14) (fun M3 => ?_)
      show Gz x 3 17 [(2, .int v2), (0, .ref (xb x + o0)), (1, .int x1)] [] KDF M3 _ _
      refine g1 (pc' := 18) (w_iload_n X dX12_seed_17 rfl 0 rfl) ?_
      exact g_rI2 X dX12_seed_18
    · refine g1 (pc' := 6) (w_ldc (v := -1000000002) X dX12_seed_4 mw_1058) ?_
      exact g_rI2 X dX12_seed_6
  exact G _ h _ rfl
theorem k_X12_seed {x : Cxt} {cc : ByteArray} {nL : Nat} {own : String} {ret : Option FieldType} (X : Ok x cc nL own ret) {d : Nat} (hR : Rm x d KDF) (hN : Nst x) (Z : xz x = 0) {pc : Nat} {lv : List (Nat × Value)} {rest : List Value} {M : Mm} {o0 : Nat} {x1 : Int32} (hk0 : KDF[o0]? = some (12, 0)) {idx : Nat} (hw : Cond.methodLink own idx yX12_seed ∈ tbG) (hdd : 1 + 1 ≤ d) (hrm : (rest.map fun v => v.category).sum ≤ 8) (hd : decode cc pc = .ok (.invokevirtual idx, 3)) {r : Int32} {M' : Mm} (h : f_X12_seed o0 x1 M = some (r, M')) : StpZ x nL pc lv (.int x1 :: .ref (xb x + o0) :: rest) KDF M (pc + 3) lv (.int r :: rest) KDF M' :=
  w_callV (st := []) (As := [.int x1]) X hR hN (CtX0 Z (c_X12_seed hk0 h)) ⟨Nat.le_refl _, Nat.le_refl _⟩ ⟨Nat.le_refl _, Nat.le_refl _⟩ hk0 (ci := 12) (fs := fs_12 o0) (fun _ _ _ => rfl) rfl hw mw_1359 mw_1360 mw_72 mw_1361 (n := 1) (by decide +kernel) rfl hdd (by decide) hrm hd
def f_X12_keep (o0 : Nat) (x1 : Int32) (M : Mm) : Option (Int32 × Mm) :=
  (if (f_X12_in x1 (0 : Int32) (1 : Int32)) = 0 then some ((-1000000001 : Int32), M) else Bd (f_X12_bring 136 (0 : Int32) 139 ((23 : Int32) * x1) (23 : Int32) M) (fun r2 => Gd (ib x1 2) (Lt (st2 r2 140 (ix x1) (r2 o0 30)) (fun M4 => Gd (ib x1 2) (Lt (st2 M4 141 (ix x1) (vp_nar .boolean (1 : Int32))) (fun M6 => Lt (st2 M6 o0 26 (0 : Int32)) (fun M7 => some ((1 : Int32), M7))))))))
set_option maxRecDepth 100000 in
set_option maxHeartbeats 4000000 in
theorem c_X12_keep {l : Launch} {D : va_G} {an : An} {b : Nat} {o0 : Nat} {x1 : Int32} (hk0 : KDF[o0]? = some (12, 0)) {M : Mm} {r : Int32} {M' : Mm} (h : f_X12_keep o0 x1 M = some (r, M')) : Ct l D an b 0 yX12_keep cX12_keep 2 (some .int) 2 [.ref (b + o0), .int x1] KDF M (some (.int r)) KDF M' := by
  refine CtX.mk (as := fun b => [.ref (b + o0), .int x1]) (rv := fun b => (some (.int r))) (by decide) (fun b => Nat.le_of_ble_eq_true rfl) ⟨Nat.le_refl _, Nat.le_refl _⟩ (fun x X hR Z hN _ _ => ?_)
  have X : Ok x cX12_keep 2 RX12 (some .int) := X
  have G : Gz x 2 0 [(0, .ref (xb x + o0)), (1, .int x1)] [] KDF M (f_X12_keep o0 x1 M) (PsI2 x KDF) := by
    unfold f_X12_keep
    refine g1 (pc' := 1) (w_iload_n X dX12_keep_0 rfl 1 rfl) ?_
    refine g1 (pc' := 2) (w_iconst X (0) dX12_keep_1 (by decide)) ?_
    refine g1 (pc' := 3) (w_iconst X (1) dX12_keep_2 (by decide)) ?_
    refine g1 (pc' := 6) (k_X12_in X hR hN Z  mw_1055 (by decide) (Nat.le_of_ble_eq_true rfl) dX12_keep_3) ?_
    refine g_if (pcT := 9) (pcF := 12) (w_if_ne (tgt := 12) X dX12_keep_6 (by decide)) (fun h1 => ?_) (fun h1 => ?_)
    · refine g1 (pc' := 11) (w_ldc (v := -1000000001) X dX12_keep_9 mw_1173) ?_
      exact g_rI2 X dX12_keep_11
    · refine g1 (pc' := 13) (w_aload_n X dX12_keep_12 rfl 0 rfl) ?_
      refine g1 (pc' := 16) (gt_12_23 X hk0 mw_952 dX12_keep_13) ?_
      refine g1 (pc' := 17) (w_iconst X (0) dX12_keep_16 (by decide)) ?_
      refine g1 (pc' := 18) (w_aload_n X dX12_keep_17 rfl 0 rfl) ?_
      refine g1 (pc' := 21) (gt_12_27 X hk0 mw_956 dX12_keep_18) ?_
      refine g1 (pc' := 23) (w_bipush X (23) dX12_keep_21 (by decide)) ?_
      refine g1 (pc' := 24) (w_iload_n X dX12_keep_23 rfl 1 rfl) ?_
      refine g1 (pc' := 25) (w_imul X dX12_keep_24) ?_
      refine g1 (pc' := 27) (w_bipush X (23) dX12_keep_25 (by decide)) ?_
      refine g_bd (pc' := 30) (fun r2 => [(0, .ref (xb x + o0)), (1, .int x1)]) (fun r2 => []) (fun r2 => r2) (fun r2 h => k_X12_bring X hR hN Z (kln_of kd_136) (kln_of kd_139) mw_1114 (by decide) (Nat.le_of_ble_eq_true rfl) dX12_keep_27 h) (fun r2 => ?_)
      show Gz x 2 30 [(0, .ref (xb x + o0)), (1, .int x1)] [] KDF r2 _ _
      refine g1 (pc' := 31) (w_aload_n X dX12_keep_30 rfl 0 rfl) ?_
      refine g1 (pc' := 34) (gt_12_28 X hk0 mw_957 dX12_keep_31) ?_
      refine g1 (pc' := 35) (w_iload_n X dX12_keep_34 rfl 1 rfl) ?_
      refine g1 (pc' := 36) (w_aload_n X dX12_keep_35 rfl 0 rfl) ?_
      refine g1 (pc' := 39) (gt_12_30 X hk0 mw_959 dX12_keep_36) ?_
      refine g_gd (fun h3 => ?_)
      refine g_lt (pc' := 40) (fun M4 => [(0, .ref (xb x + o0)), (1, .int x1)]) (fun M4 => []) (fun M4 => M4) (w_iast X Z kd_140 h3 dX12_keep_39) (fun M4 => ?_)
      show Gz x 2 40 [(0, .ref (xb x + o0)), (1, .int x1)] [] KDF M4 _ _
      refine g1 (pc' := 41) (w_aload_n X dX12_keep_40 rfl 0 rfl) ?_
      refine g1 (pc' := 44) (gt_12_29 X hk0 mw_958 dX12_keep_41) ?_
      refine g1 (pc' := 45) (w_iload_n X dX12_keep_44 rfl 1 rfl) ?_
      refine g1 (pc' := 46) (w_iconst X (1) dX12_keep_45 (by decide)) ?_
      refine g_gd (fun h5 => ?_)
      refine g_lt (pc' := 47) (fun M6 => [(0, .ref (xb x + o0)), (1, .int x1)]) (fun M6 => []) (fun M6 => M6) (w_zast X Z kd_141 h5 dX12_keep_46) (fun M6 => ?_)
      show Gz x 2 47 [(0, .ref (xb x + o0)), (1, .int x1)] [] KDF M6 _ _
      refine g1 (pc' := 48) (w_aload_n X dX12_keep_47 rfl 0 rfl) ?_
      refine g1 (pc' := 49) (w_iconst X (0) dX12_keep_48 (by decide)) ?_
      refine g_lt (pc' := 52) (fun M7 => [(0, .ref (xb x + o0)), (1, .int x1)]) (fun M7 => []) (fun M7 => M7) (pt_12_26 X Z hk0 mw_955 dX12_keep_49) (fun M7 => ?_)
      show Gz x 2 52 [(0, .ref (xb x + o0)), (1, .int x1)] [] KDF M7 _ _
      refine g1 (pc' := 53) (w_iconst X (1) dX12_keep_52 (by decide)) ?_
      exact g_rI2 X dX12_keep_53
  exact G _ h _ rfl
theorem k_X12_keep {x : Cxt} {cc : ByteArray} {nL : Nat} {own : String} {ret : Option FieldType} (X : Ok x cc nL own ret) {d : Nat} (hR : Rm x d KDF) (hN : Nst x) (Z : xz x = 0) {pc : Nat} {lv : List (Nat × Value)} {rest : List Value} {M : Mm} {o0 : Nat} {x1 : Int32} (hk0 : KDF[o0]? = some (12, 0)) {idx : Nat} (hw : Cond.methodLink own idx yX12_keep ∈ tbG) (hdd : 2 + 1 ≤ d) (hrm : (rest.map fun v => v.category).sum ≤ 8) (hd : decode cc pc = .ok (.invokevirtual idx, 3)) {r : Int32} {M' : Mm} (h : f_X12_keep o0 x1 M = some (r, M')) : StpZ x nL pc lv (.int x1 :: .ref (xb x + o0) :: rest) KDF M (pc + 3) lv (.int r :: rest) KDF M' :=
  w_callV (st := []) (As := [.int x1]) X hR hN (CtX0 Z (c_X12_keep hk0 h)) ⟨Nat.le_refl _, Nat.le_refl _⟩ ⟨Nat.le_refl _, Nat.le_refl _⟩ hk0 (ci := 12) (fs := fs_12 o0) (fun _ _ _ => rfl) rfl hw mw_1363 mw_1364 mw_72 mw_1365 (n := 1) (by decide +kernel) rfl hdd (by decide) hrm hd
def f_X12_goBack (o0 : Nat) (x1 : Int32) (M : Mm) : Option (Int32 × Mm) :=
  (if (f_X12_in x1 (0 : Int32) (1 : Int32)) = 0 then some ((-1000000001 : Int32), M) else Gd (ib x1 2) ((if (M 141 (ix x1)) = 0 then some ((-1000000003 : Int32), M) else Bd (f_X12_bring 139 ((23 : Int32) * x1) 136 (0 : Int32) (23 : Int32) M) (fun r4 => Gd (ib x1 2) (Lt (st2 r4 o0 30 (r4 140 (ix x1))) (fun M6 => Lt (st2 M6 o0 26 (0 : Int32)) (fun M7 => some ((1 : Int32), M7))))))))
set_option maxRecDepth 100000 in
set_option maxHeartbeats 4000000 in
theorem c_X12_goBack {l : Launch} {D : va_G} {an : An} {b : Nat} {o0 : Nat} {x1 : Int32} (hk0 : KDF[o0]? = some (12, 0)) {M : Mm} {r : Int32} {M' : Mm} (h : f_X12_goBack o0 x1 M = some (r, M')) : Ct l D an b 0 yX12_goBack cX12_goBack 2 (some .int) 2 [.ref (b + o0), .int x1] KDF M (some (.int r)) KDF M' := by
  refine CtX.mk (as := fun b => [.ref (b + o0), .int x1]) (rv := fun b => (some (.int r))) (by decide) (fun b => Nat.le_of_ble_eq_true rfl) ⟨Nat.le_refl _, Nat.le_refl _⟩ (fun x X hR Z hN _ _ => ?_)
  have X : Ok x cX12_goBack 2 RX12 (some .int) := X
  have G : Gz x 2 0 [(0, .ref (xb x + o0)), (1, .int x1)] [] KDF M (f_X12_goBack o0 x1 M) (PsI2 x KDF) := by
    unfold f_X12_goBack
    refine g1 (pc' := 1) (w_iload_n X dX12_goBack_0 rfl 1 rfl) ?_
    refine g1 (pc' := 2) (w_iconst X (0) dX12_goBack_1 (by decide)) ?_
    refine g1 (pc' := 3) (w_iconst X (1) dX12_goBack_2 (by decide)) ?_
    refine g1 (pc' := 6) (k_X12_in X hR hN Z  mw_1055 (by decide) (Nat.le_of_ble_eq_true rfl) dX12_goBack_3) ?_
    refine g_if (pcT := 9) (pcF := 12) (w_if_ne (tgt := 12) X dX12_goBack_6 (by decide)) (fun h1 => ?_) (fun h1 => ?_)
    · refine g1 (pc' := 11) (w_ldc (v := -1000000001) X dX12_goBack_9 mw_1173) ?_
      exact g_rI2 X dX12_goBack_11
    · refine g1 (pc' := 13) (w_aload_n X dX12_goBack_12 rfl 0 rfl) ?_
      refine g1 (pc' := 16) (gt_12_29 X hk0 mw_958 dX12_goBack_13) ?_
      refine g1 (pc' := 17) (w_iload_n X dX12_goBack_16 rfl 1 rfl) ?_
      refine g_gd (fun h2 => ?_)
      refine g1 (pc' := 18) (w_zald X kd_141 h2 dX12_goBack_17) ?_
      refine g_if (pcT := 21) (pcF := 24) (w_if_ne (tgt := 24) X dX12_goBack_18 (by decide)) (fun h3 => ?_) (fun h3 => ?_)
      · refine g1 (pc' := 23) (w_ldc (v := -1000000003) X dX12_goBack_21 mw_1164) ?_
        exact g_rI2 X dX12_goBack_23
      · refine g1 (pc' := 25) (w_aload_n X dX12_goBack_24 rfl 0 rfl) ?_
        refine g1 (pc' := 28) (gt_12_27 X hk0 mw_956 dX12_goBack_25) ?_
        refine g1 (pc' := 30) (w_bipush X (23) dX12_goBack_28 (by decide)) ?_
        refine g1 (pc' := 31) (w_iload_n X dX12_goBack_30 rfl 1 rfl) ?_
        refine g1 (pc' := 32) (w_imul X dX12_goBack_31) ?_
        refine g1 (pc' := 33) (w_aload_n X dX12_goBack_32 rfl 0 rfl) ?_
        refine g1 (pc' := 36) (gt_12_23 X hk0 mw_952 dX12_goBack_33) ?_
        refine g1 (pc' := 37) (w_iconst X (0) dX12_goBack_36 (by decide)) ?_
        refine g1 (pc' := 39) (w_bipush X (23) dX12_goBack_37 (by decide)) ?_
        refine g_bd (pc' := 42) (fun r4 => [(0, .ref (xb x + o0)), (1, .int x1)]) (fun r4 => []) (fun r4 => r4) (fun r4 h => k_X12_bring X hR hN Z (kln_of kd_139) (kln_of kd_136) mw_1114 (by decide) (Nat.le_of_ble_eq_true rfl) dX12_goBack_39 h) (fun r4 => ?_)
        show Gz x 2 42 [(0, .ref (xb x + o0)), (1, .int x1)] [] KDF r4 _ _
        refine g1 (pc' := 43) (w_aload_n X dX12_goBack_42 rfl 0 rfl) ?_
        refine g1 (pc' := 44) (w_aload_n X dX12_goBack_43 rfl 0 rfl) ?_
        refine g1 (pc' := 47) (gt_12_28 X hk0 mw_957 dX12_goBack_44) ?_
        refine g1 (pc' := 48) (w_iload_n X dX12_goBack_47 rfl 1 rfl) ?_
        refine g_gd (fun h5 => ?_)
        refine g1 (pc' := 49) (w_iald X kd_140 h5 dX12_goBack_48) ?_
        refine g_lt (pc' := 52) (fun M6 => [(0, .ref (xb x + o0)), (1, .int x1)]) (fun M6 => []) (fun M6 => M6) (pt_12_30 X Z hk0 mw_959 dX12_goBack_49) (fun M6 => ?_)
        show Gz x 2 52 [(0, .ref (xb x + o0)), (1, .int x1)] [] KDF M6 _ _
        refine g1 (pc' := 53) (w_aload_n X dX12_goBack_52 rfl 0 rfl) ?_
        refine g1 (pc' := 54) (w_iconst X (0) dX12_goBack_53 (by decide)) ?_
        refine g_lt (pc' := 57) (fun M7 => [(0, .ref (xb x + o0)), (1, .int x1)]) (fun M7 => []) (fun M7 => M7) (pt_12_26 X Z hk0 mw_955 dX12_goBack_54) (fun M7 => ?_)
        show Gz x 2 57 [(0, .ref (xb x + o0)), (1, .int x1)] [] KDF M7 _ _
        refine g1 (pc' := 58) (w_iconst X (1) dX12_goBack_57 (by decide)) ?_
        exact g_rI2 X dX12_goBack_58
  exact G _ h _ rfl
theorem k_X12_goBack {x : Cxt} {cc : ByteArray} {nL : Nat} {own : String} {ret : Option FieldType} (X : Ok x cc nL own ret) {d : Nat} (hR : Rm x d KDF) (hN : Nst x) (Z : xz x = 0) {pc : Nat} {lv : List (Nat × Value)} {rest : List Value} {M : Mm} {o0 : Nat} {x1 : Int32} (hk0 : KDF[o0]? = some (12, 0)) {idx : Nat} (hw : Cond.methodLink own idx yX12_goBack ∈ tbG) (hdd : 2 + 1 ≤ d) (hrm : (rest.map fun v => v.category).sum ≤ 8) (hd : decode cc pc = .ok (.invokevirtual idx, 3)) {r : Int32} {M' : Mm} (h : f_X12_goBack o0 x1 M = some (r, M')) : StpZ x nL pc lv (.int x1 :: .ref (xb x + o0) :: rest) KDF M (pc + 3) lv (.int r :: rest) KDF M' :=
  w_callV (st := []) (As := [.int x1]) X hR hN (CtX0 Z (c_X12_goBack hk0 h)) ⟨Nat.le_refl _, Nat.le_refl _⟩ ⟨Nat.le_refl _, Nat.le_refl _⟩ hk0 (ci := 12) (fs := fs_12 o0) (fun _ _ _ => rfl) rfl hw mw_1367 mw_1368 mw_72 mw_1369 (n := 1) (by decide +kernel) rfl hdd (by decide) hrm hd
