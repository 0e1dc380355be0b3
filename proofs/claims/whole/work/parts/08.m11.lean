def b_X12_touch_44 (o0 : Nat) (x1 : Int32) (s44 : Int32 × Int32 × Int32 × Mm) : Option ((Int32 × Int32 × Int32 × Mm) ⊕ (Int32 × Int32 × Mm)) :=
  (if s44.2.2.1 < 0 then some (.inr (s44.1, s44.2.1, s44.2.2.2)) else Bd (f_X12_isTouch o0 x1 s44.2.2.1 s44.2.2.2) (fun r6 => Lt (((if r6.1 = 0 then (0 : Int32) else (1 : Int32))) : Int32) (fun j7 => Lt (s44.1 + j7) (fun v9 => Lt (((if r6.1 = 0 then s44.2.1 else s44.2.2.1)) : Int32) (fun j10 => Lt (s44.2.2.1 + (-1 : Int32)) (fun v12 => some (.inl (v9, j10, v12, r6.2))))))))
def f_X12_touch (o0 : Nat) (x1 : Int32) (x2 : Int32) (M : Mm) : Option (Int32 × Mm) :=
  (if (f_X12_in x1 (1 : Int32) (8 : Int32)) = 0 then some ((-1000000002 : Int32), M) else (if (f_X12_in x2 (0 : Int32) (1 : Int32)) = 0 then some ((-1000000002 : Int32), M) else (if (f_X12_isTower o0 M) = 0 then some ((-1000000003 : Int32), M) else Lt ((sl (1 : Int32) x1) - (1 : Int32)) (fun v4 => Bd (Lp (b_X12_touch_44 o0 x1) 100000 ((0 : Int32), (-1 : Int32), v4, M)) (fun e13 => (if x2 = 0 then some (e13.1, e13.2.2) else some (e13.2.1, e13.2.2)))))))
set_option maxRecDepth 100000 in
set_option maxHeartbeats 4000000 in
theorem c_X12_touch {l : Launch} {D : va_G} {an : An} {b : Nat} {o0 : Nat} {x1 : Int32} {x2 : Int32} (hk0 : KDF[o0]? = some (12, 0)) {M : Mm} {r : Int32} {M' : Mm} (h : f_X12_touch o0 x1 x2 M = some (r, M')) : Ct l D an b 0 yX12_touch cX12_touch 7 (some .int) 6 [.ref (b + o0), .int x1, .int x2] KDF M (some (.int r)) KDF M' := by
  refine CtX.mk (as := fun b => [.ref (b + o0), .int x1, .int x2]) (rv := fun b => (some (.int r))) (by decide) (fun b => Nat.le_of_ble_eq_true rfl) ⟨Nat.le_refl _, Nat.le_refl _⟩ (fun x X hR Z hN _ _ => ?_)
  have X : Ok x cX12_touch 7 RX12 (some .int) := X
  have G : Gz x 7 0 [(0, .ref (xb x + o0)), (1, .int x1), (2, .int x2)] [] KDF M (f_X12_touch o0 x1 x2 M) (PsI2 x KDF) := by
    unfold f_X12_touch
    refine g1 (pc' := 1) (w_iload_n X dX12_touch_0 rfl 1 rfl) ?_
    refine g1 (pc' := 2) (w_iconst X (1) dX12_touch_1 (by decide)) ?_
    refine g1 (pc' := 4) (w_bipush X (8) dX12_touch_2 (by decide)) ?_
    refine g1 (pc' := 7) (k_X12_in X hR hN Z  mw_1055 (by decide) (Nat.le_of_ble_eq_true rfl) dX12_touch_4) ?_
    refine g_if (pcT := 19) (pcF := 10) (w_if_eq (tgt := 19) X dX12_touch_7 (by decide)) (fun h1 => ?_) (fun h1 => ?_)
    · refine g1 (pc' := 21) (w_ldc (v := -1000000002) X dX12_touch_19 mw_1058) ?_
      exact g_rI2 X dX12_touch_21
    · refine g1 (pc' := 11) (w_iload_n X dX12_touch_10 rfl 2 rfl) ?_
      refine g1 (pc' := 12) (w_iconst X (0) dX12_touch_11 (by decide)) ?_
      refine g1 (pc' := 13) (w_iconst X (1) dX12_touch_12 (by decide)) ?_
      refine g1 (pc' := 16) (k_X12_in X hR hN Z  mw_1055 (by decide) (Nat.le_of_ble_eq_true rfl) dX12_touch_13) ?_
      refine g_if (pcT := 19) (pcF := 22) (w_if_ne (tgt := 22) X dX12_touch_16 (by decide)) (fun h2 => ?_) (fun h2 => ?_)
      · refine g1 (pc' := 21) (w_ldc (v := -1000000002) X dX12_touch_19 mw_1058) ?_
        exact g_rI2 X dX12_touch_21
      · refine g1 (pc' := 23) (w_aload_n X dX12_touch_22 rfl 0 rfl) ?_
        refine g1 (pc' := 26) (k_X12_isTower X hR hN Z hk0 mw_1160 (by decide) (Nat.le_of_ble_eq_true rfl) dX12_touch_23) ?_
        refine g_if (pcT := 29) (pcF := 32) (w_if_ne (tgt := 32) X dX12_touch_26 (by decide)) (fun h3 => ?_) (fun h3 => ?_)
        · refine g1 (pc' := 31) (w_ldc (v := -1000000003) X dX12_touch_29 mw_1164) ?_
          exact g_rI2 X dX12_touch_31
        · refine g1 (pc' := 33) (w_iconst X (0) dX12_touch_32 (by decide)) ?_
          refine g1 (pc' := 34) (lv' := [(3, .int (0 : Int32)), (0, .ref (xb x + o0)), (1, .int x1), (2, .int x2)]) (w_istore_n X dX12_touch_33 rfl (by decide) rfl) ?_
          refine g1 (pc' := 35) (w_iconst X (-1) dX12_touch_34 (by decide)) ?_
          refine g1 (pc' := 37) (lv' := [(4, .int (-1 : Int32)), (3, .int (0 : Int32)), (0, .ref (xb x + o0)), (1, .int x1), (2, .int x2)]) (w_istore X dX12_touch_35 (by decide) rfl) ?_
          refine g1 (pc' := 38) (w_iconst X (1) dX12_touch_37 (by decide)) ?_
          refine g1 (pc' := 39) (w_iload_n X dX12_touch_38 rfl 3 rfl) ?_
          refine g1 (pc' := 40) (w_ishl X dX12_touch_39) ?_
          refine g1 (pc' := 41) (w_iconst X (1) dX12_touch_40 (by decide)) ?_
          refine g1 (pc' := 42) (w_isub X dX12_touch_41) ?_
          refine g_lt (pc' := 44) (fun v4 => [(5, .int v4), (4, .int (-1 : Int32)), (3, .int (0 : Int32)), (0, .ref (xb x + o0)), (1, .int x1), (2, .int x2)]) (fun v4 => []) (fun v4 => M) (w_istore X dX12_touch_42 (by decide) rfl) (fun v4 => ?_)
          show Gz x 7 44 [(5, .int v4), (4, .int (-1 : Int32)), (3, .int (0 : Int32)), (0, .ref (xb x + o0)), (1, .int x1), (2, .int x2)] [] KDF M _ _
          refine g_pick (lv' := [(0, .ref (xb x + o0)), (1, .int x1), (2, .int x2), (3, .int (0 : Int32)), (4, .int (-1 : Int32)), (5, .int v4)]) [3, 4, 5, 2, 1, 0] rfl ?_
          refine g_bdJ (J := 91) (fun e13 => [(2, .int x2), (3, .int e13.1), (4, .int e13.2.1)]) (fun e13 => []) (fun e13 => e13.2.2) (g_lp (fun s44 => [(0, .ref (xb x + o0)), (1, .int x1), (2, .int x2), (3, .int s44.1), (4, .int s44.2.1), (5, .int s44.2.2.1)]) (fun s44 => s44.2.2.2) (fun s44 => ?_) 100000 ((0 : Int32), (-1 : Int32), v4, M)) (fun e13 => ?_)
          · show Gz x 7 44 [(0, .ref (xb x + o0)), (1, .int x1), (2, .int x2), (3, .int s44.1), (4, .int s44.2.1), (5, .int s44.2.2.1)] [] KDF s44.2.2.2 (b_X12_touch_44 o0 x1 s44) _
            unfold b_X12_touch_44
            refine g1 (pc' := 46) (w_iload X dX12_touch_44 5 rfl) ?_
            refine g_if (pcT := 91) (pcF := 49) (w_if_lt (tgt := 91) X dX12_touch_46 (by decide)) (fun h5 => ?_) (fun h5 => ?_)
            · refine g_inr ?_
              exact g_end [2, 3, 4] rfl rfl rfl
            · refine g1 (pc' := 50) (w_aload_n X dX12_touch_49 rfl 0 rfl) ?_
              refine g1 (pc' := 51) (w_iload_n X dX12_touch_50 rfl 1 rfl) ?_
              refine g1 (pc' := 53) (w_iload X dX12_touch_51 5 rfl) ?_
              refine g_bd (pc' := 56) (fun r6 => [(0, .ref (xb x + o0)), (1, .int x1), (2, .int x2), (3, .int s44.1), (4, .int s44.2.1), (5, .int s44.2.2.1)]) (fun r6 => [.int r6.1]) (fun r6 => r6.2) (fun r6 h => k_X12_isTouch X hR hN Z hk0 mw_1285 (by decide) (Nat.le_of_ble_eq_true rfl) dX12_touch_53 h) (fun r6 => ?_)
              show Gz x 7 56 [(0, .ref (xb x + o0)), (1, .int x1), (2, .int x2), (3, .int s44.1), (4, .int s44.2.1), (5, .int s44.2.2.1)] [.int r6.1] KDF r6.2 _ _
              refine g1 (pc' := 58) (lv' := [(6, .int r6.1), (0, .ref (xb x + o0)), (1, .int x1), (2, .int x2), (3, .int s44.1), (4, .int s44.2.1), (5, .int s44.2.2.1)]) (w_istore X dX12_touch_56 (by decide) rfl) ?_
              refine g1 (pc' := 59) (w_iload_n X dX12_touch_58 rfl 4 rfl) ?_
              refine g1 (pc' := 61) (w_iload X dX12_touch_59 0 rfl) ?_
              refine g_ltJ (J := 69) (fun j7 => [(0, .ref (xb x + o0)), (1, .int x1), (2, .int x2), (4, .int s44.2.1), (5, .int s44.2.2.1), (6, .int r6.1)]) (fun j7 => [.int j7, .int s44.1]) (fun j7 => r6.2) ?_ (fun j7 => ?_)
              · refine g_ifS (pcT := 68) (pcF := 64) (w_if_eq (tgt := 68) X dX12_touch_61 (by decide)) (fun h8 => ?_) (fun h8 => ?_)
                · refine g1 (pc' := 69) (w_iconst X (0) dX12_touch_68 (by decide)) ?_
                  exact g_end [1, 2, 3, 5, 6, 0] rfl rfl rfl
                · refine g1 (pc' := 65) (w_iconst X (1) dX12_touch_64 (by decide)) ?_
                  refine g1 (pc' := 69) (w_goto X dX12_touch_65 (by decide)) ?_
                  exact g_end [1, 2, 3, 5, 6, 0] rfl rfl rfl
              · show Gz x 7 69 [(0, .ref (xb x + o0)), (1, .int x1), (2, .int x2), (4, .int s44.2.1), (5, .int s44.2.2.1), (6, .int r6.1)] [.int j7, .int s44.1] KDF r6.2 _ _
                refine g1 (pc' := 70) (w_iadd X dX12_touch_69) ?_
                refine g_lt (pc' := 71) (fun v9 => [(3, .int v9), (0, .ref (xb x + o0)), (1, .int x1), (2, .int x2), (4, .int s44.2.1), (5, .int s44.2.2.1), (6, .int r6.1)]) (fun v9 => []) (fun v9 => r6.2) (w_istore_n X dX12_touch_70 rfl (by decide) rfl) (fun v9 => ?_)
                show Gz x 7 71 [(3, .int v9), (0, .ref (xb x + o0)), (1, .int x1), (2, .int x2), (4, .int s44.2.1), (5, .int s44.2.2.1), (6, .int r6.1)] [] KDF r6.2 _ _
                refine g1 (pc' := 73) (w_iload X dX12_touch_71 6 rfl) ?_
                refine g_ltJ (J := 83) (fun j10 => [(0, .ref (xb x + o0)), (1, .int x1), (2, .int x2), (3, .int v9), (5, .int s44.2.2.1)]) (fun j10 => [.int j10]) (fun j10 => r6.2) ?_ (fun j10 => ?_)
                · refine g_ifS (pcT := 81) (pcF := 76) (w_if_eq (tgt := 81) X dX12_touch_73 (by decide)) (fun h11 => ?_) (fun h11 => ?_)
                  · refine g1 (pc' := 83) (w_iload X dX12_touch_81 4 rfl) ?_
                    exact g_end [1, 2, 3, 0, 5] rfl rfl rfl
                  · refine g1 (pc' := 78) (w_iload X dX12_touch_76 5 rfl) ?_
                    refine g1 (pc' := 83) (w_goto X dX12_touch_78 (by decide)) ?_
                    exact g_end [1, 2, 3, 0, 5] rfl rfl rfl
                · show Gz x 7 83 [(0, .ref (xb x + o0)), (1, .int x1), (2, .int x2), (3, .int v9), (5, .int s44.2.2.1)] [.int j10] KDF r6.2 _ _
                  refine g1 (pc' := 85) (lv' := [(4, .int j10), (0, .ref (xb x + o0)), (1, .int x1), (2, .int x2), (3, .int v9), (5, .int s44.2.2.1)]) (w_istore X dX12_touch_83 (by decide) rfl) ?_
                  refine g_lt (pc' := 88) (fun v12 => [(5, .int v12), (4, .int j10), (0, .ref (xb x + o0)), (1, .int x1), (2, .int x2), (3, .int v9)]) (fun v12 => []) (fun v12 => r6.2) (w_iinc X dX12_touch_85 5 rfl rfl (by decide) rfl) (fun v12 => ?_)
                  show Gz x 7 88 [(5, .int v12), (4, .int j10), (0, .ref (xb x + o0)), (1, .int x1), (2, .int x2), (3, .int v9)] [] KDF r6.2 _ _
                  refine g1 (pc' := 44) (w_goto X dX12_touch_88 (by decide)) ?_
                  refine g_inl ?_
                  exact g_end [2, 3, 4, 5, 1, 0] rfl rfl rfl
          · show Gz x 7 91 [(2, .int x2), (3, .int e13.1), (4, .int e13.2.1)] [] KDF e13.2.2 _ _
            refine g1 (pc' := 92) (w_iload_n X dX12_touch_91 rfl 0 rfl) ?_
            refine g_if (pcT := 95) (pcF := 99) (w_if_ne (tgt := 99) X dX12_touch_92 (by decide)) (fun h14 => ?_) (fun h14 => ?_)
            · refine g1 (pc' := 96) (w_iload_n X dX12_touch_95 rfl 1 rfl) ?_
              refine g1 (pc' := 101) (w_goto X dX12_touch_96 (by decide)) ?_
              exact g_rI2 X dX12_touch_101
            · refine g1 (pc' := 101) (w_iload X dX12_touch_99 2 rfl) ?_
              exact g_rI2 X dX12_touch_101
  exact G _ h _ rfl
theorem k_X12_touch {x : Cxt} {cc : ByteArray} {nL : Nat} {own : String} {ret : Option FieldType} (X : Ok x cc nL own ret) {d : Nat} (hR : Rm x d KDF) (hN : Nst x) (Z : xz x = 0) {pc : Nat} {lv : List (Nat × Value)} {rest : List Value} {M : Mm} {o0 : Nat} {x1 : Int32} {x2 : Int32} (hk0 : KDF[o0]? = some (12, 0)) {idx : Nat} (hw : Cond.methodLink own idx yX12_touch ∈ tbG) (hdd : 6 + 1 ≤ d) (hrm : (rest.map fun v => v.category).sum ≤ 8) (hd : decode cc pc = .ok (.invokevirtual idx, 3)) {r : Int32} {M' : Mm} (h : f_X12_touch o0 x1 x2 M = some (r, M')) : StpZ x nL pc lv (.int x2 :: .int x1 :: .ref (xb x + o0) :: rest) KDF M (pc + 3) lv (.int r :: rest) KDF M' :=
  w_callV (st := []) (As := [.int x1, .int x2]) X hR hN (CtX0 Z (c_X12_touch hk0 h)) ⟨Nat.le_refl _, Nat.le_refl _⟩ ⟨Nat.le_refl _, Nat.le_refl _⟩ hk0 (ci := 12) (fs := fs_12 o0) (fun _ _ _ => rfl) rfl hw mw_1282 mw_1283 mw_72 mw_1284 (n := 2) (by decide +kernel) rfl hdd (by decide) hrm hd
def b_X12_layPerm_12  (s12 : Int32 × Int32 × Int32 × Mm) : Option ((Int32 × Int32 × Int32 × Mm) ⊕ (Int32 × Mm)) :=
  (if s12.2.2.1 < 0 then some (.inr (s12.2.1, s12.2.2.2)) else Gd (ib s12.2.2.1 6) (Lt (st2 s12.2.2.2 145 (ix s12.2.2.1) (rm s12.1 (6 : Int32))) (fun M4 => Lt (s12.1 / (6 : Int32)) (fun v5 => Gd (ib s12.2.2.1 6) (Lt (s12.2.1 ||| (sl (1 : Int32) (M4 145 (ix s12.2.2.1)))) (fun v7 => Lt (s12.2.2.1 + (-1 : Int32)) (fun v8 => some (.inl (v5, v7, v8, M4)))))))))
def f_X12_layPerm (o0 : Nat) (x1 : Int32) (M : Mm) : Option (Int32 × Mm) :=
  Lt ((M o0 18) - (1 : Int32)) (fun v1 => Bd (Lp (b_X12_layPerm_12) 100000 (x1, (0 : Int32), v1, M)) (fun e9 => (if e9.1 = ((sl (1 : Int32) (e9.2 o0 18)) - (1 : Int32)) then some ((1 : Int32), e9.2) else some ((0 : Int32), e9.2))))
set_option maxRecDepth 100000 in
set_option maxHeartbeats 4000000 in
theorem c_X12_layPerm {l : Launch} {D : va_G} {an : An} {b : Nat} {o0 : Nat} {x1 : Int32} (hk0 : KDF[o0]? = some (12, 0)) {M : Mm} {r : Int32} {M' : Mm} (h : f_X12_layPerm o0 x1 M = some (r, M')) : Ct l D an b 0 yX12_layPerm cX12_layPerm 5 (some .boolean) 1 [.ref (b + o0), .int x1] KDF M (some (.int r)) KDF M' := by
  refine CtX.mk (as := fun b => [.ref (b + o0), .int x1]) (rv := fun b => (some (.int r))) (by decide) (fun b => Nat.le_of_ble_eq_true rfl) ⟨Nat.le_refl _, Nat.le_refl _⟩ (fun x X hR Z hN _ _ => ?_)
  have X : Ok x cX12_layPerm 5 RX12 (some .boolean) := X
  have G : Gz x 5 0 [(0, .ref (xb x + o0)), (1, .int x1)] [] KDF M (f_X12_layPerm o0 x1 M) (PsI2 x KDF) := by
    unfold f_X12_layPerm
    refine g1 (pc' := 1) (w_iload_n X dX12_layPerm_0 rfl 1 rfl) ?_
    refine g1 (pc' := 2) (lv' := [(2, .int x1), (0, .ref (xb x + o0)), (1, .int x1)]) (w_istore_n X dX12_layPerm_1 rfl (by decide) rfl) ?_
    refine g1 (pc' := 3) (w_iconst X (0) dX12_layPerm_2 (by decide)) ?_
    refine g1 (pc' := 4) (lv' := [(3, .int (0 : Int32)), (2, .int x1), (0, .ref (xb x + o0)), (1, .int x1)]) (w_istore_n X dX12_layPerm_3 rfl (by decide) rfl) ?_
    refine g1 (pc' := 5) (w_aload_n X dX12_layPerm_4 rfl 2 rfl) ?_
    refine g1 (pc' := 8) (gt_12_18 X hk0 mw_947 dX12_layPerm_5) ?_
    refine g1 (pc' := 9) (w_iconst X (1) dX12_layPerm_8 (by decide)) ?_
    refine g1 (pc' := 10) (w_isub X dX12_layPerm_9) ?_
    refine g_lt (pc' := 12) (fun v1 => [(4, .int v1), (3, .int (0 : Int32)), (2, .int x1), (0, .ref (xb x + o0)), (1, .int x1)]) (fun v1 => []) (fun v1 => M) (w_istore X dX12_layPerm_10 (by decide) rfl) (fun v1 => ?_)
    show Gz x 5 12 [(4, .int v1), (3, .int (0 : Int32)), (2, .int x1), (0, .ref (xb x + o0)), (1, .int x1)] [] KDF M _ _
    refine g_pick (lv' := [(0, .ref (xb x + o0)), (2, .int x1), (3, .int (0 : Int32)), (4, .int v1)]) [3, 2, 1, 0] rfl ?_
    refine g_bdJ (J := 51) (fun e9 => [(0, .ref (xb x + o0)), (3, .int e9.1)]) (fun e9 => []) (fun e9 => e9.2) (g_lp (fun s12 => [(0, .ref (xb x + o0)), (2, .int s12.1), (3, .int s12.2.1), (4, .int s12.2.2.1)]) (fun s12 => s12.2.2.2) (fun s12 => ?_) 100000 (x1, (0 : Int32), v1, M)) (fun e9 => ?_)
    · show Gz x 5 12 [(0, .ref (xb x + o0)), (2, .int s12.1), (3, .int s12.2.1), (4, .int s12.2.2.1)] [] KDF s12.2.2.2 (b_X12_layPerm_12 s12) _
      unfold b_X12_layPerm_12
      refine g1 (pc' := 14) (w_iload X dX12_layPerm_12 3 rfl) ?_
      refine g_if (pcT := 51) (pcF := 17) (w_if_lt (tgt := 51) X dX12_layPerm_14 (by decide)) (fun h2 => ?_) (fun h2 => ?_)
      · refine g_inr ?_
        exact g_end [0, 2] rfl rfl rfl
      · refine g1 (pc' := 18) (w_aload_n X dX12_layPerm_17 rfl 0 rfl) ?_
        refine g1 (pc' := 21) (gt_12_37 X hk0 mw_966 dX12_layPerm_18) ?_
        refine g1 (pc' := 23) (w_iload X dX12_layPerm_21 3 rfl) ?_
        refine g1 (pc' := 24) (w_iload_n X dX12_layPerm_23 rfl 1 rfl) ?_
        refine g1 (pc' := 26) (w_bipush X (6) dX12_layPerm_24 (by decide)) ?_
        refine g1 (pc' := 27) (w_irem X dX12_layPerm_26 (by decide)) ?_
        refine g_gd (fun h3 => ?_)
        refine g_lt (pc' := 28) (fun M4 => [(0, .ref (xb x + o0)), (2, .int s12.1), (3, .int s12.2.1), (4, .int s12.2.2.1)]) (fun M4 => []) (fun M4 => M4) (w_iast X Z kd_145 h3 dX12_layPerm_27) (fun M4 => ?_)
        show Gz x 5 28 [(0, .ref (xb x + o0)), (2, .int s12.1), (3, .int s12.2.1), (4, .int s12.2.2.1)] [] KDF M4 _ _
        refine g1 (pc' := 29) (w_iload_n X dX12_layPerm_28 rfl 1 rfl) ?_
        refine g1 (pc' := 31) (w_bipush X (6) dX12_layPerm_29 (by decide)) ?_
        refine g1 (pc' := 32) (w_idiv X dX12_layPerm_31 (by decide)) ?_
        refine g_lt (pc' := 33) (fun v5 => [(2, .int v5), (0, .ref (xb x + o0)), (3, .int s12.2.1), (4, .int s12.2.2.1)]) (fun v5 => []) (fun v5 => M4) (w_istore_n X dX12_layPerm_32 rfl (by decide) rfl) (fun v5 => ?_)
        show Gz x 5 33 [(2, .int v5), (0, .ref (xb x + o0)), (3, .int s12.2.1), (4, .int s12.2.2.1)] [] KDF M4 _ _
        refine g1 (pc' := 34) (w_iload_n X dX12_layPerm_33 rfl 2 rfl) ?_
        refine g1 (pc' := 35) (w_iconst X (1) dX12_layPerm_34 (by decide)) ?_
        refine g1 (pc' := 36) (w_aload_n X dX12_layPerm_35 rfl 1 rfl) ?_
        refine g1 (pc' := 39) (gt_12_37 X hk0 mw_966 dX12_layPerm_36) ?_
        refine g1 (pc' := 41) (w_iload X dX12_layPerm_39 3 rfl) ?_
        refine g_gd (fun h6 => ?_)
        refine g1 (pc' := 42) (w_iald X kd_145 h6 dX12_layPerm_41) ?_
        refine g1 (pc' := 43) (w_ishl X dX12_layPerm_42) ?_
        refine g1 (pc' := 44) (w_ior X dX12_layPerm_43) ?_
        refine g_lt (pc' := 45) (fun v7 => [(3, .int v7), (2, .int v5), (0, .ref (xb x + o0)), (4, .int s12.2.2.1)]) (fun v7 => []) (fun v7 => M4) (w_istore_n X dX12_layPerm_44 rfl (by decide) rfl) (fun v7 => ?_)
        show Gz x 5 45 [(3, .int v7), (2, .int v5), (0, .ref (xb x + o0)), (4, .int s12.2.2.1)] [] KDF M4 _ _
        refine g_lt (pc' := 48) (fun v8 => [(4, .int v8), (3, .int v7), (2, .int v5), (0, .ref (xb x + o0))]) (fun v8 => []) (fun v8 => M4) (w_iinc X dX12_layPerm_45 3 rfl rfl (by decide) rfl) (fun v8 => ?_)
        show Gz x 5 48 [(4, .int v8), (3, .int v7), (2, .int v5), (0, .ref (xb x + o0))] [] KDF M4 _ _
        refine g1 (pc' := 12) (w_goto X dX12_layPerm_48 (by decide)) ?_
        refine g_inl ?_
        exact g_end [3, 2, 1, 0] rfl rfl rfl
    · show Gz x 5 51 [(0, .ref (xb x + o0)), (3, .int e9.1)] [] KDF e9.2 _ _
      refine g1 (pc' := 52) (w_iload_n X dX12_layPerm_51 rfl 1 rfl) ?_
      refine g1 (pc' := 53) (w_iconst X (1) dX12_layPerm_52 (by decide)) ?_
      refine g1 (pc' := 54) (w_aload_n X dX12_layPerm_53 rfl 0 rfl) ?_
      refine g1 (pc' := 57) (gt_12_18 X hk0 mw_947 dX12_layPerm_54) ?_
      refine g1 (pc' := 58) (w_ishl X dX12_layPerm_57) ?_
      refine g1 (pc' := 59) (w_iconst X (1) dX12_layPerm_58 (by decide)) ?_
      refine g1 (pc' := 60) (w_isub X dX12_layPerm_59) ?_
      refine g_if (pcT := 63) (pcF := 67) (w_icmp_ne (tgt := 67) X dX12_layPerm_60 (by decide)) (fun h10 => ?_) (fun h10 => ?_)
      · refine g1 (pc' := 64) (w_iconst X (1) dX12_layPerm_63 (by decide)) ?_
        refine g1 (pc' := 68) (w_goto X dX12_layPerm_64 (by decide)) ?_
        exact g_rZ2 X zb1 dX12_layPerm_68
      · refine g1 (pc' := 68) (w_iconst X (0) dX12_layPerm_67 (by decide)) ?_
        exact g_rZ2 X zb0 dX12_layPerm_68
  exact G _ h _ rfl
theorem k_X12_layPerm {x : Cxt} {cc : ByteArray} {nL : Nat} {own : String} {ret : Option FieldType} (X : Ok x cc nL own ret) {d : Nat} (hR : Rm x d KDF) (hN : Nst x) (Z : xz x = 0) {pc : Nat} {lv : List (Nat × Value)} {rest : List Value} {M : Mm} {o0 : Nat} {x1 : Int32} (hk0 : KDF[o0]? = some (12, 0)) {idx : Nat} (hw : Cond.methodLink own idx yX12_layPerm ∈ tbG) (hdd : 1 + 1 ≤ d) (hrm : (rest.map fun v => v.category).sum ≤ 8) (hd : decode cc pc = .ok (.invokevirtual idx, 3)) {r : Int32} {M' : Mm} (h : f_X12_layPerm o0 x1 M = some (r, M')) : StpZ x nL pc lv (.int x1 :: .ref (xb x + o0) :: rest) KDF M (pc + 3) lv (.int r :: rest) KDF M' :=
  w_callV (st := []) (As := [.int x1]) X hR hN (CtX0 Z (c_X12_layPerm hk0 h)) ⟨Nat.le_refl _, Nat.le_refl _⟩ ⟨Nat.le_refl _, Nat.le_refl _⟩ hk0 (ci := 12) (fs := fs_12 o0) (fun _ _ _ => rfl) rfl hw mw_1299 mw_57 mw_72 mw_1300 (n := 1) (by decide +kernel) rfl hdd (by decide) hrm hd
def b_X12_layRopes_4 (o0 : Nat) (M : Mm) (s4 : Int32 × Int32) : Option ((Int32 × Int32) ⊕ (Int32)) :=
  (if (M o0 18) ≤ s4.2 then some (.inr s4.1) else Lt (s4.1 * (6 : Int32)) (fun v2 => Lt (s4.2 + (1 : Int32)) (fun v3 => some (.inl (v2, v3)))))
def b_X12_layRopes_46 (o0 : Nat) (r6 : Int32 × Mm) (s46 : Int32 × Int32) : Option ((Int32 × Int32) ⊕ (Int32)) :=
  (if (r6.2 o0 18) ≤ s46.2 then some (.inr s46.1) else Gd (ib s46.2 6) (Gd (ib (r6.2 145 (ix s46.2)) 6) (Gd (ib s46.2 6) (Lt ((r6.2 133 (ix (r6.2 145 (ix s46.2)))) - (r6.2 135 (ix s46.2))) (fun v13 => Lt (((if v13 ≤ 0 then (0 : Int32) else v13)) : Int32) (fun j14 => Lt (s46.1 + j14) (fun v16 => Lt (s46.2 + (1 : Int32)) (fun v17 => some (.inl (v16, v17))))))))))
def b_X12_layRopes_27 (o0 : Nat) (e4 : Int32) (s27 : Int32 × Int32 × Mm) : Option ((Int32 × Int32 × Mm) ⊕ (Int32 × Mm)) :=
  (if e4 ≤ s27.2.1 then some (.inr (s27.1, s27.2.2)) else Bd (f_X12_layPerm o0 s27.2.1 s27.2.2) (fun r6 => (if r6.1 = 0 then Lt (s27.2.1 + (1 : Int32)) (fun v8 => some (.inl (s27.1, v8, r6.2))) else Bd (Lp (b_X12_layRopes_46 o0 r6) 100000 ((0 : Int32), (0 : Int32))) (fun e18 => Bd (((if s27.1 = (-1 : Int32) then Bd (f_X12_bring 145 (0 : Int32) 146 (0 : Int32) (6 : Int32) r6.2) (fun r22 => some (e18, r22)) else (if s27.1 ≤ e18 then some (s27.1, r6.2) else Bd (f_X12_bring 145 (0 : Int32) 146 (0 : Int32) (6 : Int32) r6.2) (fun r24 => some (e18, r24))))) : Option (Int32 × Mm)) (fun j20 => Lt (s27.2.1 + (1 : Int32)) (fun v25 => some (.inl (j20.1, v25, j20.2))))))))
def f_X12_layRopes (o0 : Nat) (M : Mm) : Option (Int32 × Mm) :=
  Bd (Lp (b_X12_layRopes_4 o0 M) 100000 ((1 : Int32), (0 : Int32))) (fun e4 => Bd (Lp (b_X12_layRopes_27 o0 e4) 100000 ((-1 : Int32), (0 : Int32), M)) (fun e26 => some (e26.1, e26.2)))
set_option maxRecDepth 100000 in
set_option maxHeartbeats 4000000 in
theorem c_X12_layRopes {l : Launch} {D : va_G} {an : An} {b : Nat} {o0 : Nat} (hk0 : KDF[o0]? = some (12, 0)) {M : Mm} {r : Int32} {M' : Mm} (h : f_X12_layRopes o0 M = some (r, M')) : Ct l D an b 0 yX12_layRopes cX12_layRopes 7 (some .int) 2 [.ref (b + o0)] KDF M (some (.int r)) KDF M' := by
  refine CtX.mk (as := fun b => [.ref (b + o0)]) (rv := fun b => (some (.int r))) (by decide) (fun b => Nat.le_of_ble_eq_true rfl) ⟨Nat.le_refl _, Nat.le_refl _⟩ (fun x X hR Z hN _ _ => ?_)
  have X : Ok x cX12_layRopes 7 RX12 (some .int) := X
  have G : Gz x 7 0 [(0, .ref (xb x + o0))] [] KDF M (f_X12_layRopes o0 M) (PsI2 x KDF) := by
    unfold f_X12_layRopes
    refine g1 (pc' := 1) (w_iconst X (1) dX12_layRopes_0 (by decide)) ?_
    refine g1 (pc' := 2) (lv' := [(1, .int (1 : Int32)), (0, .ref (xb x + o0))]) (w_istore_n X dX12_layRopes_1 rfl (by decide) rfl) ?_
    refine g1 (pc' := 3) (w_iconst X (0) dX12_layRopes_2 (by decide)) ?_
    refine g1 (pc' := 4) (lv' := [(2, .int (0 : Int32)), (1, .int (1 : Int32)), (0, .ref (xb x + o0))]) (w_istore_n X dX12_layRopes_3 rfl (by decide) rfl) ?_
    refine g_pick (lv' := [(0, .ref (xb x + o0)), (1, .int (1 : Int32)), (2, .int (0 : Int32))]) [2, 1, 0] rfl ?_
    refine g_bdJ (J := 23) (fun e4 => [(0, .ref (xb x + o0)), (1, .int e4)]) (fun e4 => []) (fun e4 => M) (g_lp (fun s4 => [(0, .ref (xb x + o0)), (1, .int s4.1), (2, .int s4.2)]) (fun s4 => M) (fun s4 => ?_) 100000 ((1 : Int32), (0 : Int32))) (fun e4 => ?_)
    · show Gz x 7 4 [(0, .ref (xb x + o0)), (1, .int s4.1), (2, .int s4.2)] [] KDF M (b_X12_layRopes_4 o0 M s4) _
      unfold b_X12_layRopes_4
      refine g1 (pc' := 5) (w_iload_n X dX12_layRopes_4 rfl 2 rfl) ?_
      refine g1 (pc' := 6) (w_aload_n X dX12_layRopes_5 rfl 0 rfl) ?_
      refine g1 (pc' := 9) (gt_12_18 X hk0 mw_947 dX12_layRopes_6) ?_
      refine g_if (pcT := 23) (pcF := 12) (w_icmp_ge (tgt := 23) X dX12_layRopes_9 (by decide)) (fun h1 => ?_) (fun h1 => ?_)
      · refine g_inr ?_
        exact g_end [0, 1] rfl rfl rfl
      · refine g1 (pc' := 13) (w_iload_n X dX12_layRopes_12 rfl 1 rfl) ?_
        refine g1 (pc' := 15) (w_bipush X (6) dX12_layRopes_13 (by decide)) ?_
        refine g1 (pc' := 16) (w_imul X dX12_layRopes_15) ?_
        refine g_lt (pc' := 17) (fun v2 => [(1, .int v2), (0, .ref (xb x + o0)), (2, .int s4.2)]) (fun v2 => []) (fun v2 => M) (w_istore_n X dX12_layRopes_16 rfl (by decide) rfl) (fun v2 => ?_)
        show Gz x 7 17 [(1, .int v2), (0, .ref (xb x + o0)), (2, .int s4.2)] [] KDF M _ _
        refine g_lt (pc' := 20) (fun v3 => [(2, .int v3), (1, .int v2), (0, .ref (xb x + o0))]) (fun v3 => []) (fun v3 => M) (w_iinc X dX12_layRopes_17 2 rfl rfl (by decide) rfl) (fun v3 => ?_)
        show Gz x 7 20 [(2, .int v3), (1, .int v2), (0, .ref (xb x + o0))] [] KDF M _ _
        refine g1 (pc' := 4) (w_goto X dX12_layRopes_20 (by decide)) ?_
        refine g_inl ?_
        exact g_end [2, 1, 0] rfl rfl rfl
    · show Gz x 7 23 [(0, .ref (xb x + o0)), (1, .int e4)] [] KDF M _ _
      refine g1 (pc' := 24) (w_iconst X (-1) dX12_layRopes_23 (by decide)) ?_
      refine g1 (pc' := 25) (lv' := [(2, .int (-1 : Int32)), (0, .ref (xb x + o0)), (1, .int e4)]) (w_istore_n X dX12_layRopes_24 rfl (by decide) rfl) ?_
      refine g1 (pc' := 26) (w_iconst X (0) dX12_layRopes_25 (by decide)) ?_
      refine g1 (pc' := 27) (lv' := [(3, .int (0 : Int32)), (2, .int (-1 : Int32)), (0, .ref (xb x + o0)), (1, .int e4)]) (w_istore_n X dX12_layRopes_26 rfl (by decide) rfl) ?_
      refine g_pick (lv' := [(0, .ref (xb x + o0)), (1, .int e4), (2, .int (-1 : Int32)), (3, .int (0 : Int32))]) [2, 3, 1, 0] rfl ?_
      refine g_bdJ (J := 134) (fun e26 => [(2, .int e26.1)]) (fun e26 => []) (fun e26 => e26.2) (g_lp (fun s27 => [(0, .ref (xb x + o0)), (1, .int e4), (2, .int s27.1), (3, .int s27.2.1)]) (fun s27 => s27.2.2) (fun s27 => ?_) 100000 ((-1 : Int32), (0 : Int32), M)) (fun e26 => ?_)
      · show Gz x 7 27 [(0, .ref (xb x + o0)), (1, .int e4), (2, .int s27.1), (3, .int s27.2.1)] [] KDF s27.2.2 (b_X12_layRopes_27 o0 e4 s27) _
        unfold b_X12_layRopes_27
        refine g1 (pc' := 28) (w_iload_n X dX12_layRopes_27 rfl 3 rfl) ?_
        refine g1 (pc' := 29) (w_iload_n X dX12_layRopes_28 rfl 1 rfl) ?_
        refine g_if (pcT := 134) (pcF := 32) (w_icmp_ge (tgt := 134) X dX12_layRopes_29 (by decide)) (fun h5 => ?_) (fun h5 => ?_)
        · refine g_inr ?_
          exact g_end [2] rfl rfl rfl
        · refine g1 (pc' := 33) (w_aload_n X dX12_layRopes_32 rfl 0 rfl) ?_
          refine g1 (pc' := 34) (w_iload_n X dX12_layRopes_33 rfl 3 rfl) ?_
          refine g_bd (pc' := 37) (fun r6 => [(0, .ref (xb x + o0)), (1, .int e4), (2, .int s27.1), (3, .int s27.2.1)]) (fun r6 => [.int r6.1]) (fun r6 => r6.2) (fun r6 h => k_X12_layPerm X hR hN Z hk0 mw_1297 (by decide) (Nat.le_of_ble_eq_true rfl) dX12_layRopes_34 h) (fun r6 => ?_)
          show Gz x 7 37 [(0, .ref (xb x + o0)), (1, .int e4), (2, .int s27.1), (3, .int s27.2.1)] [.int r6.1] KDF r6.2 _ _
          refine g_if (pcT := 128) (pcF := 40) (w_if_eq (tgt := 128) X dX12_layRopes_37 (by decide)) (fun h7 => ?_) (fun h7 => ?_)
          · refine g_lt (pc' := 131) (fun v8 => [(3, .int v8), (0, .ref (xb x + o0)), (1, .int e4), (2, .int s27.1)]) (fun v8 => []) (fun v8 => r6.2) (w_iinc X dX12_layRopes_128 3 rfl rfl (by decide) rfl) (fun v8 => ?_)
            show Gz x 7 131 [(3, .int v8), (0, .ref (xb x + o0)), (1, .int e4), (2, .int s27.1)] [] KDF r6.2 _ _
            refine g1 (pc' := 27) (w_goto X dX12_layRopes_131 (by decide)) ?_
            refine g_inl ?_
            exact g_end [1, 2, 3, 0] rfl rfl rfl
          · refine g1 (pc' := 41) (w_iconst X (0) dX12_layRopes_40 (by decide)) ?_
            refine g1 (pc' := 43) (lv' := [(4, .int (0 : Int32)), (0, .ref (xb x + o0)), (1, .int e4), (2, .int s27.1), (3, .int s27.2.1)]) (w_istore X dX12_layRopes_41 (by decide) rfl) ?_
            refine g1 (pc' := 44) (w_iconst X (0) dX12_layRopes_43 (by decide)) ?_
            refine g1 (pc' := 46) (lv' := [(5, .int (0 : Int32)), (4, .int (0 : Int32)), (0, .ref (xb x + o0)), (1, .int e4), (2, .int s27.1), (3, .int s27.2.1)]) (w_istore X dX12_layRopes_44 (by decide) rfl) ?_
            refine g_pick (lv' := [(0, .ref (xb x + o0)), (1, .int e4), (2, .int s27.1), (3, .int s27.2.1), (4, .int (0 : Int32)), (5, .int (0 : Int32))]) [2, 3, 4, 5, 1, 0] rfl ?_
            refine g_bdJ (J := 99) (fun e18 => [(0, .ref (xb x + o0)), (1, .int e4), (2, .int s27.1), (3, .int s27.2.1), (4, .int e18)]) (fun e18 => []) (fun e18 => r6.2) (g_lp (fun s46 => [(0, .ref (xb x + o0)), (1, .int e4), (2, .int s27.1), (3, .int s27.2.1), (4, .int s46.1), (5, .int s46.2)]) (fun s46 => r6.2) (fun s46 => ?_) 100000 ((0 : Int32), (0 : Int32))) (fun e18 => ?_)
            · show Gz x 7 46 [(0, .ref (xb x + o0)), (1, .int e4), (2, .int s27.1), (3, .int s27.2.1), (4, .int s46.1), (5, .int s46.2)] [] KDF r6.2 (b_X12_layRopes_46 o0 r6 s46) _
              unfold b_X12_layRopes_46
              refine g1 (pc' := 48) (w_iload X dX12_layRopes_46 5 rfl) ?_
              refine g1 (pc' := 49) (w_aload_n X dX12_layRopes_48 rfl 0 rfl) ?_
              refine g1 (pc' := 52) (gt_12_18 X hk0 mw_947 dX12_layRopes_49) ?_
              refine g_if (pcT := 99) (pcF := 55) (w_icmp_ge (tgt := 99) X dX12_layRopes_52 (by decide)) (fun h9 => ?_) (fun h9 => ?_)
              · refine g_inr ?_
                exact g_end [0, 1, 2, 3, 4] rfl rfl rfl
              · refine g1 (pc' := 56) (w_aload_n X dX12_layRopes_55 rfl 0 rfl) ?_
                refine g1 (pc' := 59) (gt_12_20 X hk0 mw_949 dX12_layRopes_56) ?_
                refine g1 (pc' := 60) (w_aload_n X dX12_layRopes_59 rfl 0 rfl) ?_
                refine g1 (pc' := 63) (gt_12_37 X hk0 mw_966 dX12_layRopes_60) ?_
                refine g1 (pc' := 65) (w_iload X dX12_layRopes_63 5 rfl) ?_
                refine g_gd (fun h10 => ?_)
                refine g1 (pc' := 66) (w_iald X kd_145 h10 dX12_layRopes_65) ?_
                refine g_gd (fun h11 => ?_)
                refine g1 (pc' := 67) (w_iald X kd_133 h11 dX12_layRopes_66) ?_
                refine g1 (pc' := 68) (w_aload_n X dX12_layRopes_67 rfl 0 rfl) ?_
                refine g1 (pc' := 71) (gt_12_22 X hk0 mw_951 dX12_layRopes_68) ?_
                refine g1 (pc' := 73) (w_iload X dX12_layRopes_71 5 rfl) ?_
                refine g_gd (fun h12 => ?_)
                refine g1 (pc' := 74) (w_iald X kd_135 h12 dX12_layRopes_73) ?_
                refine g1 (pc' := 75) (w_isub X dX12_layRopes_74) ?_
                refine g_lt (pc' := 77) (fun v13 => [(6, .int v13), (0, .ref (xb x + o0)), (1, .int e4), (2, .int s27.1), (3, .int s27.2.1), (4, .int s46.1), (5, .int s46.2)]) (fun v13 => []) (fun v13 => r6.2) (w_istore X dX12_layRopes_75 (by decide) rfl) (fun v13 => ?_)
                show Gz x 7 77 [(6, .int v13), (0, .ref (xb x + o0)), (1, .int e4), (2, .int s27.1), (3, .int s27.2.1), (4, .int s46.1), (5, .int s46.2)] [] KDF r6.2 _ _
                refine g1 (pc' := 79) (w_iload X dX12_layRopes_77 5 rfl) ?_
                refine g1 (pc' := 81) (w_iload X dX12_layRopes_79 0 rfl) ?_
                refine g_ltJ (J := 90) (fun j14 => [(0, .ref (xb x + o0)), (1, .int e4), (2, .int s27.1), (3, .int s27.2.1), (5, .int s46.2)]) (fun j14 => [.int j14, .int s46.1]) (fun j14 => r6.2) ?_ (fun j14 => ?_)
                · refine g_ifS (pcT := 89) (pcF := 84) (w_if_le (tgt := 89) X dX12_layRopes_81 (by decide)) (fun h15 => ?_) (fun h15 => ?_)
                  · refine g1 (pc' := 90) (w_iconst X (0) dX12_layRopes_89 (by decide)) ?_
                    exact g_end [1, 2, 3, 4, 6] rfl rfl rfl
                  · refine g1 (pc' := 86) (w_iload X dX12_layRopes_84 0 rfl) ?_
                    refine g1 (pc' := 90) (w_goto X dX12_layRopes_86 (by decide)) ?_
                    exact g_end [1, 2, 3, 4, 6] rfl rfl rfl
                · show Gz x 7 90 [(0, .ref (xb x + o0)), (1, .int e4), (2, .int s27.1), (3, .int s27.2.1), (5, .int s46.2)] [.int j14, .int s46.1] KDF r6.2 _ _
                  refine g1 (pc' := 91) (w_iadd X dX12_layRopes_90) ?_
                  refine g_lt (pc' := 93) (fun v16 => [(4, .int v16), (0, .ref (xb x + o0)), (1, .int e4), (2, .int s27.1), (3, .int s27.2.1), (5, .int s46.2)]) (fun v16 => []) (fun v16 => r6.2) (w_istore X dX12_layRopes_91 (by decide) rfl) (fun v16 => ?_)
                  show Gz x 7 93 [(4, .int v16), (0, .ref (xb x + o0)), (1, .int e4), (2, .int s27.1), (3, .int s27.2.1), (5, .int s46.2)] [] KDF r6.2 _ _
                  refine g_lt (pc' := 96) (fun v17 => [(5, .int v17), (4, .int v16), (0, .ref (xb x + o0)), (1, .int e4), (2, .int s27.1), (3, .int s27.2.1)]) (fun v17 => []) (fun v17 => r6.2) (w_iinc X dX12_layRopes_93 5 rfl rfl (by decide) rfl) (fun v17 => ?_)
                  show Gz x 7 96 [(5, .int v17), (4, .int v16), (0, .ref (xb x + o0)), (1, .int e4), (2, .int s27.1), (3, .int s27.2.1)] [] KDF r6.2 _ _
                  refine g1 (pc' := 46) (w_goto X dX12_layRopes_96 (by decide)) ?_
                  refine g_inl ?_
                  exact g_end [2, 3, 4, 5, 1, 0] rfl rfl rfl
            · show Gz x 7 99 [(0, .ref (xb x + o0)), (1, .int e4), (2, .int s27.1), (3, .int s27.2.1), (4, .int e18)] [] KDF r6.2 _ _
              refine g1 (pc' := 100) (w_iload_n X dX12_layRopes_99 rfl 2 rfl) ?_
              refine g1 (pc' := 101) (w_iconst X (-1) dX12_layRopes_100 (by decide)) ?_
              refine g_bdJ (J := 128) (fun j20 => [(0, .ref (xb x + o0)), (1, .int e4), (2, .int j20.1), (3, .int s27.2.1)]) (fun j20 => []) (fun j20 => j20.2) ?_ (fun j20 => ?_)
              · refine g_if (pcT := 110) (pcF := 104) (w_icmp_eq (tgt := 110) X dX12_layRopes_101 (by decide)) (fun h21 => ?_) (fun h21 => ?_)
                · refine g1 (pc' := 112) (w_iload X dX12_layRopes_110 4 rfl) ?_
                  refine g1 (pc' := 113) (lv' := [(2, .int e18), (0, .ref (xb x + o0)), (1, .int e4), (3, .int s27.2.1), (4, .int e18)]) (w_istore_n X dX12_layRopes_112 rfl (by decide) rfl) ?_
                  refine g1 (pc' := 114) (w_aload_n X dX12_layRopes_113 rfl 1 rfl) ?_
                  refine g1 (pc' := 117) (gt_12_37 X hk0 mw_966 dX12_layRopes_114) ?_
                  refine g1 (pc' := 118) (w_iconst X (0) dX12_layRopes_117 (by decide)) ?_
                  refine g1 (pc' := 119) (w_aload_n X dX12_layRopes_118 rfl 1 rfl) ?_
                  refine g1 (pc' := 122) (gt_12_38 X hk0 mw_967 dX12_layRopes_119) ?_
                  refine g1 (pc' := 123) (w_iconst X (0) dX12_layRopes_122 (by decide)) ?_
                  refine g1 (pc' := 125) (w_bipush X (6) dX12_layRopes_123 (by decide)) ?_
                  refine g_bd (pc' := 128) (fun r22 => [(2, .int e18), (0, .ref (xb x + o0)), (1, .int e4), (3, .int s27.2.1), (4, .int e18)]) (fun r22 => []) (fun r22 => r22) (fun r22 h => k_X12_bring X hR hN Z (kln_of kd_145) (kln_of kd_146) mw_1114 (by decide) (Nat.le_of_ble_eq_true rfl) dX12_layRopes_125 h) (fun r22 => ?_)
                  show Gz x 7 128 [(2, .int e18), (0, .ref (xb x + o0)), (1, .int e4), (3, .int s27.2.1), (4, .int e18)] [] KDF r22 _ _
                  exact g_end [1, 2, 0, 3] rfl rfl rfl
                · refine g1 (pc' := 106) (w_iload X dX12_layRopes_104 4 rfl) ?_
                  refine g1 (pc' := 107) (w_iload_n X dX12_layRopes_106 rfl 2 rfl) ?_
                  refine g_if (pcT := 128) (pcF := 110) (w_icmp_ge (tgt := 128) X dX12_layRopes_107 (by decide)) (fun h23 => ?_) (fun h23 => ?_)
                  · exact g_end [0, 1, 2, 3] rfl rfl rfl
                  · refine g1 (pc' := 112) (w_iload X dX12_layRopes_110 4 rfl) ?_
                    refine g1 (pc' := 113) (lv' := [(2, .int e18), (0, .ref (xb x + o0)), (1, .int e4), (3, .int s27.2.1), (4, .int e18)]) (w_istore_n X dX12_layRopes_112 rfl (by decide) rfl) ?_
                    refine g1 (pc' := 114) (w_aload_n X dX12_layRopes_113 rfl 1 rfl) ?_
                    refine g1 (pc' := 117) (gt_12_37 X hk0 mw_966 dX12_layRopes_114) ?_
                    refine g1 (pc' := 118) (w_iconst X (0) dX12_layRopes_117 (by decide)) ?_
                    refine g1 (pc' := 119) (w_aload_n X dX12_layRopes_118 rfl 1 rfl) ?_
                    refine g1 (pc' := 122) (gt_12_38 X hk0 mw_967 dX12_layRopes_119) ?_
                    refine g1 (pc' := 123) (w_iconst X (0) dX12_layRopes_122 (by decide)) ?_
                    refine g1 (pc' := 125) (w_bipush X (6) dX12_layRopes_123 (by decide)) ?_
                    refine g_bd (pc' := 128) (fun r24 => [(2, .int e18), (0, .ref (xb x + o0)), (1, .int e4), (3, .int s27.2.1), (4, .int e18)]) (fun r24 => []) (fun r24 => r24) (fun r24 h => k_X12_bring X hR hN Z (kln_of kd_145) (kln_of kd_146) mw_1114 (by decide) (Nat.le_of_ble_eq_true rfl) dX12_layRopes_125 h) (fun r24 => ?_)
                    show Gz x 7 128 [(2, .int e18), (0, .ref (xb x + o0)), (1, .int e4), (3, .int s27.2.1), (4, .int e18)] [] KDF r24 _ _
                    exact g_end [1, 2, 0, 3] rfl rfl rfl
              · show Gz x 7 128 [(0, .ref (xb x + o0)), (1, .int e4), (2, .int j20.1), (3, .int s27.2.1)] [] KDF j20.2 _ _
                refine g_lt (pc' := 131) (fun v25 => [(3, .int v25), (0, .ref (xb x + o0)), (1, .int e4), (2, .int j20.1)]) (fun v25 => []) (fun v25 => j20.2) (w_iinc X dX12_layRopes_128 3 rfl rfl (by decide) rfl) (fun v25 => ?_)
                show Gz x 7 131 [(3, .int v25), (0, .ref (xb x + o0)), (1, .int e4), (2, .int j20.1)] [] KDF j20.2 _ _
                refine g1 (pc' := 27) (w_goto X dX12_layRopes_131 (by decide)) ?_
                refine g_inl ?_
                exact g_end [1, 2, 3, 0] rfl rfl rfl
      · show Gz x 7 134 [(2, .int e26.1)] [] KDF e26.2 _ _
        refine g1 (pc' := 135) (w_iload_n X dX12_layRopes_134 rfl 0 rfl) ?_
        exact g_rI2 X dX12_layRopes_135
  exact G _ h _ rfl
theorem k_X12_layRopes {x : Cxt} {cc : ByteArray} {nL : Nat} {own : String} {ret : Option FieldType} (X : Ok x cc nL own ret) {d : Nat} (hR : Rm x d KDF) (hN : Nst x) (Z : xz x = 0) {pc : Nat} {lv : List (Nat × Value)} {rest : List Value} {M : Mm} {o0 : Nat} (hk0 : KDF[o0]? = some (12, 0)) {idx : Nat} (hw : Cond.methodLink own idx yX12_layRopes ∈ tbG) (hdd : 2 + 1 ≤ d) (hrm : (rest.map fun v => v.category).sum ≤ 8) (hd : decode cc pc = .ok (.invokevirtual idx, 3)) {r : Int32} {M' : Mm} (h : f_X12_layRopes o0 M = some (r, M')) : StpZ x nL pc lv (.ref (xb x + o0) :: rest) KDF M (pc + 3) lv (.int r :: rest) KDF M' :=
  w_callV (st := []) (As := []) X hR hN (CtX0 Z (c_X12_layRopes hk0 h)) ⟨Nat.le_refl _, Nat.le_refl _⟩ ⟨Nat.le_refl _, Nat.le_refl _⟩ hk0 (ci := 12) (fs := fs_12 o0) (fun _ _ _ => rfl) rfl hw mw_1295 mw_56 mw_72 mw_1296 (n := 0) (by decide +kernel) rfl hdd (by decide) hrm hd
def f_X12_ropes (o0 : Nat) (x1 : Int32) (M : Mm) : Option (Int32 × Mm) :=
  (if x1 = (-1 : Int32) then Bd (f_X12_layRopes o0 M) (fun r2 => (if x1 = (-1 : Int32) then some (r2.1, r2.2) else Gd (ib x1 6) (some ((r2.2 146 (ix x1)), r2.2)))) else (if (f_X12_isSuitor o0 x1 M) = 0 then some ((-1000000001 : Int32), M) else Bd (f_X12_layRopes o0 M) (fun r6 => (if x1 = (-1 : Int32) then some (r6.1, r6.2) else Gd (ib x1 6) (some ((r6.2 146 (ix x1)), r6.2))))))
set_option maxRecDepth 100000 in
set_option maxHeartbeats 4000000 in
theorem c_X12_ropes {l : Launch} {D : va_G} {an : An} {b : Nat} {o0 : Nat} {x1 : Int32} (hk0 : KDF[o0]? = some (12, 0)) {M : Mm} {r : Int32} {M' : Mm} (h : f_X12_ropes o0 x1 M = some (r, M')) : Ct l D an b 0 yX12_ropes cX12_ropes 3 (some .int) 3 [.ref (b + o0), .int x1] KDF M (some (.int r)) KDF M' := by
  refine CtX.mk (as := fun b => [.ref (b + o0), .int x1]) (rv := fun b => (some (.int r))) (by decide) (fun b => Nat.le_of_ble_eq_true rfl) ⟨Nat.le_refl _, Nat.le_refl _⟩ (fun x X hR Z hN _ _ => ?_)
  have X : Ok x cX12_ropes 3 RX12 (some .int) := X
  have G : Gz x 3 0 [(0, .ref (xb x + o0)), (1, .int x1)] [] KDF M (f_X12_ropes o0 x1 M) (PsI2 x KDF) := by
    unfold f_X12_ropes
    refine g1 (pc' := 1) (w_iload_n X dX12_ropes_0 rfl 1 rfl) ?_
    refine g1 (pc' := 2) (w_iconst X (-1) dX12_ropes_1 (by decide)) ?_
    refine g_if (pcT := 16) (pcF := 5) (w_icmp_eq (tgt := 16) X dX12_ropes_2 (by decide)) (fun h1 => ?_) (fun h1 => ?_)
    · refine g1 (pc' := 17) (w_aload_n X dX12_ropes_16 rfl 0 rfl) ?_
      refine g_bd (pc' := 20) (fun r2 => [(0, .ref (xb x + o0)), (1, .int x1)]) (fun r2 => [.int r2.1]) (fun r2 => r2.2) (fun r2 h => k_X12_layRopes X hR hN Z hk0 mw_1293 (by decide) (Nat.le_of_ble_eq_true rfl) dX12_ropes_17 h) (fun r2 => ?_)
      show Gz x 3 20 [(0, .ref (xb x + o0)), (1, .int x1)] [.int r2.1] KDF r2.2 _ _
      refine g1 (pc' := 21) (lv' := [(2, .int r2.1), (0, .ref (xb x + o0)), (1, .int x1)]) (w_istore_n X dX12_ropes_20 rfl (by decide) rfl) ?_
      refine g1 (pc' := 22) (w_iload_n X dX12_ropes_21 rfl 2 rfl) ?_
      refine g1 (pc' := 23) (w_iconst X (-1) dX12_ropes_22 (by decide)) ?_
      refine g_if (pcT := 26) (pcF := 30) (w_icmp_ne (tgt := 30) X dX12_ropes_23 (by decide)) (fun h3 => ?_) (fun h3 => ?_)
      · refine g1 (pc' := 27) (w_iload_n X dX12_ropes_26 rfl 0 rfl) ?_
        refine g1 (pc' := 36) (w_goto X dX12_ropes_27 (by decide)) ?_
        exact g_rI2 X dX12_ropes_36
      · refine g1 (pc' := 31) (w_aload_n X dX12_ropes_30 rfl 1 rfl) ?_
        refine g1 (pc' := 34) (gt_12_38 X hk0 mw_967 dX12_ropes_31) ?_
        refine g1 (pc' := 35) (w_iload_n X dX12_ropes_34 rfl 2 rfl) ?_
        refine g_gd (fun h4 => ?_)
        refine g1 (pc' := 36) (w_iald X kd_146 h4 dX12_ropes_35) ?_
        exact g_rI2 X dX12_ropes_36
    · refine g1 (pc' := 6) (w_aload_n X dX12_ropes_5 rfl 0 rfl) ?_
      refine g1 (pc' := 7) (w_iload_n X dX12_ropes_6 rfl 1 rfl) ?_
      refine g1 (pc' := 10) (k_X12_isSuitor X hR hN Z hk0 mw_1182 (by decide) (Nat.le_of_ble_eq_true rfl) dX12_ropes_7) ?_
      refine g_if (pcT := 13) (pcF := 16) (w_if_ne (tgt := 16) X dX12_ropes_10 (by decide)) (fun h5 => ?_) (fun h5 => ?_)
      · refine g1 (pc' := 15) (w_ldc (v := -1000000001) X dX12_ropes_13 mw_1173) ?_
        exact g_rI2 X dX12_ropes_15
      · refine g1 (pc' := 17) (w_aload_n X dX12_ropes_16 rfl 0 rfl) ?_
        refine g_bd (pc' := 20) (fun r6 => [(0, .ref (xb x + o0)), (1, .int x1)]) (fun r6 => [.int r6.1]) (fun r6 => r6.2) (fun r6 h => k_X12_layRopes X hR hN Z hk0 mw_1293 (by decide) (Nat.le_of_ble_eq_true rfl) dX12_ropes_17 h) (fun r6 => ?_)
        show Gz x 3 20 [(0, .ref (xb x + o0)), (1, .int x1)] [.int r6.1] KDF r6.2 _ _
        refine g1 (pc' := 21) (lv' := [(2, .int r6.1), (0, .ref (xb x + o0)), (1, .int x1)]) (w_istore_n X dX12_ropes_20 rfl (by decide) rfl) ?_
        refine g1 (pc' := 22) (w_iload_n X dX12_ropes_21 rfl 2 rfl) ?_
        refine g1 (pc' := 23) (w_iconst X (-1) dX12_ropes_22 (by decide)) ?_
        refine g_if (pcT := 26) (pcF := 30) (w_icmp_ne (tgt := 30) X dX12_ropes_23 (by decide)) (fun h7 => ?_) (fun h7 => ?_)
        · refine g1 (pc' := 27) (w_iload_n X dX12_ropes_26 rfl 0 rfl) ?_
          refine g1 (pc' := 36) (w_goto X dX12_ropes_27 (by decide)) ?_
          exact g_rI2 X dX12_ropes_36
        · refine g1 (pc' := 31) (w_aload_n X dX12_ropes_30 rfl 1 rfl) ?_
          refine g1 (pc' := 34) (gt_12_38 X hk0 mw_967 dX12_ropes_31) ?_
          refine g1 (pc' := 35) (w_iload_n X dX12_ropes_34 rfl 2 rfl) ?_
          refine g_gd (fun h8 => ?_)
          refine g1 (pc' := 36) (w_iald X kd_146 h8 dX12_ropes_35) ?_
          exact g_rI2 X dX12_ropes_36
  exact G _ h _ rfl
theorem k_X12_ropes {x : Cxt} {cc : ByteArray} {nL : Nat} {own : String} {ret : Option FieldType} (X : Ok x cc nL own ret) {d : Nat} (hR : Rm x d KDF) (hN : Nst x) (Z : xz x = 0) {pc : Nat} {lv : List (Nat × Value)} {rest : List Value} {M : Mm} {o0 : Nat} {x1 : Int32} (hk0 : KDF[o0]? = some (12, 0)) {idx : Nat} (hw : Cond.methodLink own idx yX12_ropes ∈ tbG) (hdd : 3 + 1 ≤ d) (hrm : (rest.map fun v => v.category).sum ≤ 8) (hd : decode cc pc = .ok (.invokevirtual idx, 3)) {r : Int32} {M' : Mm} (h : f_X12_ropes o0 x1 M = some (r, M')) : StpZ x nL pc lv (.int x1 :: .ref (xb x + o0) :: rest) KDF M (pc + 3) lv (.int r :: rest) KDF M' :=
  w_callV (st := []) (As := [.int x1]) X hR hN (CtX0 Z (c_X12_ropes hk0 h)) ⟨Nat.le_refl _, Nat.le_refl _⟩ ⟨Nat.le_refl _, Nat.le_refl _⟩ hk0 (ci := 12) (fs := fs_12 o0) (fun _ _ _ => rfl) rfl hw mw_1290 mw_1291 mw_72 mw_1292 (n := 1) (by decide +kernel) rfl hdd (by decide) hrm hd
def b_X12_last_34 (o0 : Nat) (x1 : Int32) (x2 : Int32) (s34 : Int32 × Int32 × Mm) : Option ((Int32 × Int32 × Mm) ⊕ (Int32 × Mm)) :=
  (if x2 ≤ s34.2.1 then some (.inr (s34.1, s34.2.2)) else Bd (f_X12_goOn o0 (1 : Int32) s34.2.2) (fun r5 => Gd (ib (((5 : Int32) + (r5 o0 16)) - (1 : Int32)) 23) (Lt (((if (r5 137 (ix (((5 : Int32) + (r5 o0 16)) - (1 : Int32)))) = x1 then (1 : Int32) else (0 : Int32))) : Int32) (fun j7 => Lt (s34.1 + j7) (fun v9 => Lt (s34.2.1 + (1 : Int32)) (fun v10 => some (.inl (v9, v10, r5))))))))
def f_X12_last (o0 : Nat) (x1 : Int32) (x2 : Int32) (M : Mm) : Option (Int32 × Mm) :=
  (if (f_X12_isBell o0 x1 M) = 0 then some ((-1000000001 : Int32), M) else (if (f_X12_in x2 (1 : Int32) (500 : Int32)) = 0 then some ((-1000000002 : Int32), M) else Bd (f_X12_begin o0 M) (fun r3 => Bd (Lp (b_X12_last_34 o0 x1 x2) 100000 ((0 : Int32), (0 : Int32), r3)) (fun e11 => some (e11.1, e11.2)))))
set_option maxRecDepth 100000 in
set_option maxHeartbeats 4000000 in
theorem c_X12_last {l : Launch} {D : va_G} {an : An} {b : Nat} {o0 : Nat} {x1 : Int32} {x2 : Int32} (hk0 : KDF[o0]? = some (12, 0)) {M : Mm} {r : Int32} {M' : Mm} (h : f_X12_last o0 x1 x2 M = some (r, M')) : Ct l D an b 0 yX12_last cX12_last 5 (some .int) 5 [.ref (b + o0), .int x1, .int x2] KDF M (some (.int r)) KDF M' := by
  refine CtX.mk (as := fun b => [.ref (b + o0), .int x1, .int x2]) (rv := fun b => (some (.int r))) (by decide) (fun b => Nat.le_of_ble_eq_true rfl) ⟨Nat.le_refl _, Nat.le_refl _⟩ (fun x X hR Z hN _ _ => ?_)
  have X : Ok x cX12_last 5 RX12 (some .int) := X
  have G : Gz x 5 0 [(0, .ref (xb x + o0)), (1, .int x1), (2, .int x2)] [] KDF M (f_X12_last o0 x1 x2 M) (PsI2 x KDF) := by
    unfold f_X12_last
    refine g1 (pc' := 1) (w_aload_n X dX12_last_0 rfl 0 rfl) ?_
    refine g1 (pc' := 2) (w_iload_n X dX12_last_1 rfl 1 rfl) ?_
    refine g1 (pc' := 5) (k_X12_isBell X hR hN Z hk0 mw_1169 (by decide) (Nat.le_of_ble_eq_true rfl) dX12_last_2) ?_
    refine g_if (pcT := 8) (pcF := 11) (w_if_ne (tgt := 11) X dX12_last_5 (by decide)) (fun h1 => ?_) (fun h1 => ?_)
    · refine g1 (pc' := 10) (w_ldc (v := -1000000001) X dX12_last_8 mw_1173) ?_
      exact g_rI2 X dX12_last_10
    · refine g1 (pc' := 12) (w_iload_n X dX12_last_11 rfl 2 rfl) ?_
      refine g1 (pc' := 13) (w_iconst X (1) dX12_last_12 (by decide)) ?_
      refine g1 (pc' := 16) (w_sipush X (500) dX12_last_13 (by decide)) ?_
      refine g1 (pc' := 19) (k_X12_in X hR hN Z  mw_1055 (by decide) (Nat.le_of_ble_eq_true rfl) dX12_last_16) ?_
      refine g_if (pcT := 22) (pcF := 25) (w_if_ne (tgt := 25) X dX12_last_19 (by decide)) (fun h2 => ?_) (fun h2 => ?_)
      · refine g1 (pc' := 24) (w_ldc (v := -1000000002) X dX12_last_22 mw_1058) ?_
        exact g_rI2 X dX12_last_24
      · refine g1 (pc' := 26) (w_aload_n X dX12_last_25 rfl 0 rfl) ?_
        refine g_bd (pc' := 29) (fun r3 => [(0, .ref (xb x + o0)), (1, .int x1), (2, .int x2)]) (fun r3 => []) (fun r3 => r3) (fun r3 h => k_X12_begin X hR hN Z hk0 mw_1253 (by decide) (Nat.le_of_ble_eq_true rfl) dX12_last_26 h) (fun r3 => ?_)
        show Gz x 5 29 [(0, .ref (xb x + o0)), (1, .int x1), (2, .int x2)] [] KDF r3 _ _
        refine g1 (pc' := 30) (w_iconst X (0) dX12_last_29 (by decide)) ?_
        refine g1 (pc' := 31) (lv' := [(3, .int (0 : Int32)), (0, .ref (xb x + o0)), (1, .int x1), (2, .int x2)]) (w_istore_n X dX12_last_30 rfl (by decide) rfl) ?_
        refine g1 (pc' := 32) (w_iconst X (0) dX12_last_31 (by decide)) ?_
        refine g1 (pc' := 34) (lv' := [(4, .int (0 : Int32)), (3, .int (0 : Int32)), (0, .ref (xb x + o0)), (1, .int x1), (2, .int x2)]) (w_istore X dX12_last_32 (by decide) rfl) ?_
        refine g_pick (lv' := [(0, .ref (xb x + o0)), (1, .int x1), (2, .int x2), (3, .int (0 : Int32)), (4, .int (0 : Int32))]) [2, 3, 4, 1, 0] rfl ?_
        refine g_bdJ (J := 76) (fun e11 => [(3, .int e11.1)]) (fun e11 => []) (fun e11 => e11.2) (g_lp (fun s34 => [(0, .ref (xb x + o0)), (1, .int x1), (2, .int x2), (3, .int s34.1), (4, .int s34.2.1)]) (fun s34 => s34.2.2) (fun s34 => ?_) 100000 ((0 : Int32), (0 : Int32), r3)) (fun e11 => ?_)
        · show Gz x 5 34 [(0, .ref (xb x + o0)), (1, .int x1), (2, .int x2), (3, .int s34.1), (4, .int s34.2.1)] [] KDF s34.2.2 (b_X12_last_34 o0 x1 x2 s34) _
          unfold b_X12_last_34
          refine g1 (pc' := 36) (w_iload X dX12_last_34 4 rfl) ?_
          refine g1 (pc' := 37) (w_iload_n X dX12_last_36 rfl 2 rfl) ?_
          refine g_if (pcT := 76) (pcF := 40) (w_icmp_ge (tgt := 76) X dX12_last_37 (by decide)) (fun h4 => ?_) (fun h4 => ?_)
          · refine g_inr ?_
            exact g_end [3] rfl rfl rfl
          · refine g1 (pc' := 41) (w_aload_n X dX12_last_40 rfl 0 rfl) ?_
            refine g1 (pc' := 42) (w_iconst X (1) dX12_last_41 (by decide)) ?_
            refine g_bd (pc' := 45) (fun r5 => [(0, .ref (xb x + o0)), (1, .int x1), (2, .int x2), (3, .int s34.1), (4, .int s34.2.1)]) (fun r5 => []) (fun r5 => r5) (fun r5 h => k_X12_goOn X hR hN Z hk0 mw_1257 (by decide) (Nat.le_of_ble_eq_true rfl) dX12_last_42 h) (fun r5 => ?_)
            show Gz x 5 45 [(0, .ref (xb x + o0)), (1, .int x1), (2, .int x2), (3, .int s34.1), (4, .int s34.2.1)] [] KDF r5 _ _
            refine g1 (pc' := 46) (w_iload_n X dX12_last_45 rfl 3 rfl) ?_
            refine g1 (pc' := 47) (w_aload_n X dX12_last_46 rfl 0 rfl) ?_
            refine g1 (pc' := 50) (gt_12_24 X hk0 mw_953 dX12_last_47) ?_
            refine g1 (pc' := 51) (w_iconst X (5) dX12_last_50 (by decide)) ?_
            refine g1 (pc' := 52) (w_aload_n X dX12_last_51 rfl 0 rfl) ?_
            refine g1 (pc' := 55) (gt_12_16 X hk0 mw_945 dX12_last_52) ?_
            refine g1 (pc' := 56) (w_iadd X dX12_last_55) ?_
            refine g1 (pc' := 57) (w_iconst X (1) dX12_last_56 (by decide)) ?_
            refine g1 (pc' := 58) (w_isub X dX12_last_57) ?_
            refine g_gd (fun h6 => ?_)
            refine g1 (pc' := 59) (w_iald X kd_137 h6 dX12_last_58) ?_
            refine g1 (pc' := 60) (w_iload_n X dX12_last_59 rfl 1 rfl) ?_
            refine g_ltJ (J := 68) (fun j7 => [(0, .ref (xb x + o0)), (1, .int x1), (2, .int x2), (4, .int s34.2.1)]) (fun j7 => [.int j7, .int s34.1]) (fun j7 => r5) ?_ (fun j7 => ?_)
            · refine g_ifS (pcT := 63) (pcF := 67) (w_icmp_ne (tgt := 67) X dX12_last_60 (by decide)) (fun h8 => ?_) (fun h8 => ?_)
              · refine g1 (pc' := 64) (w_iconst X (1) dX12_last_63 (by decide)) ?_
                refine g1 (pc' := 68) (w_goto X dX12_last_64 (by decide)) ?_
                exact g_end [0, 1, 2, 4] rfl rfl rfl
              · refine g1 (pc' := 68) (w_iconst X (0) dX12_last_67 (by decide)) ?_
                exact g_end [0, 1, 2, 4] rfl rfl rfl
            · show Gz x 5 68 [(0, .ref (xb x + o0)), (1, .int x1), (2, .int x2), (4, .int s34.2.1)] [.int j7, .int s34.1] KDF r5 _ _
              refine g1 (pc' := 69) (w_iadd X dX12_last_68) ?_
              refine g_lt (pc' := 70) (fun v9 => [(3, .int v9), (0, .ref (xb x + o0)), (1, .int x1), (2, .int x2), (4, .int s34.2.1)]) (fun v9 => []) (fun v9 => r5) (w_istore_n X dX12_last_69 rfl (by decide) rfl) (fun v9 => ?_)
              show Gz x 5 70 [(3, .int v9), (0, .ref (xb x + o0)), (1, .int x1), (2, .int x2), (4, .int s34.2.1)] [] KDF r5 _ _
              refine g_lt (pc' := 73) (fun v10 => [(4, .int v10), (3, .int v9), (0, .ref (xb x + o0)), (1, .int x1), (2, .int x2)]) (fun v10 => []) (fun v10 => r5) (w_iinc X dX12_last_70 4 rfl rfl (by decide) rfl) (fun v10 => ?_)
              show Gz x 5 73 [(4, .int v10), (3, .int v9), (0, .ref (xb x + o0)), (1, .int x1), (2, .int x2)] [] KDF r5 _ _
              refine g1 (pc' := 34) (w_goto X dX12_last_73 (by decide)) ?_
              refine g_inl ?_
              exact g_end [2, 3, 4, 1, 0] rfl rfl rfl
        · show Gz x 5 76 [(3, .int e11.1)] [] KDF e11.2 _ _
          refine g1 (pc' := 77) (w_iload_n X dX12_last_76 rfl 0 rfl) ?_
          exact g_rI2 X dX12_last_77
  exact G _ h _ rfl
theorem k_X12_last {x : Cxt} {cc : ByteArray} {nL : Nat} {own : String} {ret : Option FieldType} (X : Ok x cc nL own ret) {d : Nat} (hR : Rm x d KDF) (hN : Nst x) (Z : xz x = 0) {pc : Nat} {lv : List (Nat × Value)} {rest : List Value} {M : Mm} {o0 : Nat} {x1 : Int32} {x2 : Int32} (hk0 : KDF[o0]? = some (12, 0)) {idx : Nat} (hw : Cond.methodLink own idx yX12_last ∈ tbG) (hdd : 5 + 1 ≤ d) (hrm : (rest.map fun v => v.category).sum ≤ 8) (hd : decode cc pc = .ok (.invokevirtual idx, 3)) {r : Int32} {M' : Mm} (h : f_X12_last o0 x1 x2 M = some (r, M')) : StpZ x nL pc lv (.int x2 :: .int x1 :: .ref (xb x + o0) :: rest) KDF M (pc + 3) lv (.int r :: rest) KDF M' :=
  w_callV (st := []) (As := [.int x1, .int x2]) X hR hN (CtX0 Z (c_X12_last hk0 h)) ⟨Nat.le_refl _, Nat.le_refl _⟩ ⟨Nat.le_refl _, Nat.le_refl _⟩ hk0 (ci := 12) (fs := fs_12 o0) (fun _ _ _ => rfl) rfl hw mw_1302 mw_1303 mw_72 mw_1304 (n := 2) (by decide +kernel) rfl hdd (by decide) hrm hd
def b_X12_nextOut_27 (o0 : Nat) (r4 : Mm) (s27 : Int32) : Option ((Int32) ⊕ (((Int32 × Mm) ⊕ ((Int32 × Mm) ⊕ (Mm))) ⊕ (Unit))) :=
  (if (r4 o0 18) ≤ s27 then some (.inr (.inr ())) else (if (f_X12_has ((r4 137 (ix (4 : Int32))) &&& ((r4 136 (ix (4 : Int32))) ^^^ (-1 : Int32))) s27) = 0 then Lt (s27 + (1 : Int32)) (fun v7 => some (.inl v7)) else some (.inr (.inl (.inr (.inl (s27, r4)))))))
def b_X12_nextOut_6 (o0 : Nat) (s6 : Int32 × Mm) : Option ((Int32 × Mm) ⊕ ((Int32 × Mm) ⊕ (Mm))) :=
  (if (500 : Int32) ≤ s6.1 then some (.inr (.inr s6.2)) else (if (f_X12_isTower o0 s6.2) = 0 then some (.inr (.inr s6.2)) else Bd (f_X12_goOn o0 (1 : Int32) s6.2) (fun r4 => BdS (Lp (b_X12_nextOut_27 o0 r4) 100000 (0 : Int32)) (fun e8 => Lt (s6.1 + (1 : Int32)) (fun v9 => some (.inl (v9, r4)))))))
def f_X12_nextOut (o0 : Nat) (M : Mm) : Option (Int32 × Mm) :=
  Bd (f_X12_begin o0 M) (fun r1 => BdS (Lp (b_X12_nextOut_6 o0) 100000 ((0 : Int32), r1)) (fun e10 => some ((-1 : Int32), e10)))
set_option maxRecDepth 100000 in
set_option maxHeartbeats 4000000 in
theorem c_X12_nextOut {l : Launch} {D : va_G} {an : An} {b : Nat} {o0 : Nat} (hk0 : KDF[o0]? = some (12, 0)) {M : Mm} {r : Int32} {M' : Mm} (h : f_X12_nextOut o0 M = some (r, M')) : Ct l D an b 0 yX12_nextOut cX12_nextOut 3 (some .int) 5 [.ref (b + o0)] KDF M (some (.int r)) KDF M' := by
  refine CtX.mk (as := fun b => [.ref (b + o0)]) (rv := fun b => (some (.int r))) (by decide) (fun b => Nat.le_of_ble_eq_true rfl) ⟨Nat.le_refl _, Nat.le_refl _⟩ (fun x X hR Z hN _ _ => ?_)
  have X : Ok x cX12_nextOut 3 RX12 (some .int) := X
  have G : Gz x 3 0 [(0, .ref (xb x + o0))] [] KDF M (f_X12_nextOut o0 M) (PsI2 x KDF) := by
    unfold f_X12_nextOut
    refine g1 (pc' := 1) (w_aload_n X dX12_nextOut_0 rfl 0 rfl) ?_
    refine g_bd (pc' := 4) (fun r1 => [(0, .ref (xb x + o0))]) (fun r1 => []) (fun r1 => r1) (fun r1 h => k_X12_begin X hR hN Z hk0 mw_1253 (by decide) (Nat.le_of_ble_eq_true rfl) dX12_nextOut_1 h) (fun r1 => ?_)
    show Gz x 3 4 [(0, .ref (xb x + o0))] [] KDF r1 _ _
    refine g1 (pc' := 5) (w_iconst X (0) dX12_nextOut_4 (by decide)) ?_
    refine g1 (pc' := 6) (lv' := [(1, .int (0 : Int32)), (0, .ref (xb x + o0))]) (w_istore_n X dX12_nextOut_5 rfl (by decide) rfl) ?_
    refine g_pick (lv' := [(0, .ref (xb x + o0)), (1, .int (0 : Int32))]) [1, 0] rfl ?_
    refine g_bdS (J := 71) (fun e10 => []) (fun e10 => []) (fun e10 => e10) (g_lp (fun s6 => [(0, .ref (xb x + o0)), (1, .int s6.1)]) (fun s6 => s6.2) (fun s6 => ?_) 100000 ((0 : Int32), r1)) (fun e10 => ?_)
    · show Gz x 3 6 [(0, .ref (xb x + o0)), (1, .int s6.1)] [] KDF s6.2 (b_X12_nextOut_6 o0 s6) _
      unfold b_X12_nextOut_6
      refine g1 (pc' := 7) (w_iload_n X dX12_nextOut_6 rfl 1 rfl) ?_
      refine g1 (pc' := 10) (w_sipush X (500) dX12_nextOut_7 (by decide)) ?_
      refine g_if (pcT := 71) (pcF := 13) (w_icmp_ge (tgt := 71) X dX12_nextOut_10 (by decide)) (fun h2 => ?_) (fun h2 => ?_)
      · refine g_inr ?_
        refine g_inr ?_
        exact g_end [] rfl rfl rfl
      · refine g1 (pc' := 14) (w_aload_n X dX12_nextOut_13 rfl 0 rfl) ?_
        refine g1 (pc' := 17) (k_X12_isTower X hR hN Z hk0 mw_1160 (by decide) (Nat.le_of_ble_eq_true rfl) dX12_nextOut_14) ?_
        refine g_if (pcT := 71) (pcF := 20) (w_if_eq (tgt := 71) X dX12_nextOut_17 (by decide)) (fun h3 => ?_) (fun h3 => ?_)
        · refine g_inr ?_
          refine g_inr ?_
          exact g_end [] rfl rfl rfl
        · refine g1 (pc' := 21) (w_aload_n X dX12_nextOut_20 rfl 0 rfl) ?_
          refine g1 (pc' := 22) (w_iconst X (1) dX12_nextOut_21 (by decide)) ?_
          refine g_bd (pc' := 25) (fun r4 => [(0, .ref (xb x + o0)), (1, .int s6.1)]) (fun r4 => []) (fun r4 => r4) (fun r4 h => k_X12_goOn X hR hN Z hk0 mw_1257 (by decide) (Nat.le_of_ble_eq_true rfl) dX12_nextOut_22 h) (fun r4 => ?_)
          show Gz x 3 25 [(0, .ref (xb x + o0)), (1, .int s6.1)] [] KDF r4 _ _
          refine g1 (pc' := 26) (w_iconst X (0) dX12_nextOut_25 (by decide)) ?_
          refine g1 (pc' := 27) (lv' := [(2, .int (0 : Int32)), (0, .ref (xb x + o0)), (1, .int s6.1)]) (w_istore_n X dX12_nextOut_26 rfl (by decide) rfl) ?_
          refine g_pick (lv' := [(0, .ref (xb x + o0)), (1, .int s6.1), (2, .int (0 : Int32))]) [1, 2, 0] rfl ?_
          refine g_bdS (J := 65) (fun e8 => [(0, .ref (xb x + o0)), (1, .int s6.1)]) (fun e8 => []) (fun e8 => r4) (g_lp (fun s27 => [(0, .ref (xb x + o0)), (1, .int s6.1), (2, .int s27)]) (fun s27 => r4) (fun s27 => ?_) 100000 (0 : Int32)) (fun e8 => ?_)
          · show Gz x 3 27 [(0, .ref (xb x + o0)), (1, .int s6.1), (2, .int s27)] [] KDF r4 (b_X12_nextOut_27 o0 r4 s27) _
            unfold b_X12_nextOut_27
            refine g1 (pc' := 28) (w_iload_n X dX12_nextOut_27 rfl 2 rfl) ?_
            refine g1 (pc' := 29) (w_aload_n X dX12_nextOut_28 rfl 0 rfl) ?_
            refine g1 (pc' := 32) (gt_12_18 X hk0 mw_947 dX12_nextOut_29) ?_
            refine g_if (pcT := 65) (pcF := 35) (w_icmp_ge (tgt := 65) X dX12_nextOut_32 (by decide)) (fun h5 => ?_) (fun h5 => ?_)
            · refine g_inr ?_
              refine g_inr ?_
              exact g_end [0, 1] rfl rfl rfl
            · refine g1 (pc' := 36) (w_aload_n X dX12_nextOut_35 rfl 0 rfl) ?_
              refine g1 (pc' := 39) (gt_12_24 X hk0 mw_953 dX12_nextOut_36) ?_
              refine g1 (pc' := 40) (w_iconst X (4) dX12_nextOut_39 (by decide)) ?_
              refine g1 (pc' := 41) (w_iald X kd_137 (ib_lit (by decide)) dX12_nextOut_40) ?_
              refine g1 (pc' := 42) (w_aload_n X dX12_nextOut_41 rfl 0 rfl) ?_
              refine g1 (pc' := 45) (gt_12_23 X hk0 mw_952 dX12_nextOut_42) ?_
              refine g1 (pc' := 46) (w_iconst X (4) dX12_nextOut_45 (by decide)) ?_
              refine g1 (pc' := 47) (w_iald X kd_136 (ib_lit (by decide)) dX12_nextOut_46) ?_
              refine g1 (pc' := 48) (w_iconst X (-1) dX12_nextOut_47 (by decide)) ?_
              refine g1 (pc' := 49) (w_ixor X dX12_nextOut_48) ?_
              refine g1 (pc' := 50) (w_iand X dX12_nextOut_49) ?_
              refine g1 (pc' := 51) (w_iload_n X dX12_nextOut_50 rfl 2 rfl) ?_
              refine g1 (pc' := 54) (k_X12_has X hR hN Z  mw_1099 (by decide) (Nat.le_of_ble_eq_true rfl) dX12_nextOut_51) ?_
              refine g_if (pcT := 59) (pcF := 57) (w_if_eq (tgt := 59) X dX12_nextOut_54 (by decide)) (fun h6 => ?_) (fun h6 => ?_)
              · refine g_lt (pc' := 62) (fun v7 => [(2, .int v7), (0, .ref (xb x + o0)), (1, .int s6.1)]) (fun v7 => []) (fun v7 => r4) (w_iinc X dX12_nextOut_59 2 rfl rfl (by decide) rfl) (fun v7 => ?_)
                show Gz x 3 62 [(2, .int v7), (0, .ref (xb x + o0)), (1, .int s6.1)] [] KDF r4 _ _
                refine g1 (pc' := 27) (w_goto X dX12_nextOut_62 (by decide)) ?_
                refine g_inl ?_
                exact g_end [1, 2, 0] rfl rfl rfl
              · refine g1 (pc' := 58) (w_iload_n X dX12_nextOut_57 rfl 2 rfl) ?_
                refine g_inr ?_
                refine g_inl ?_
                refine g_inr ?_
                refine g_inl ?_
                exact g_rI2 X dX12_nextOut_58
          · show Gz x 3 65 [(0, .ref (xb x + o0)), (1, .int s6.1)] [] KDF r4 _ _
            refine g_lt (pc' := 68) (fun v9 => [(1, .int v9), (0, .ref (xb x + o0))]) (fun v9 => []) (fun v9 => r4) (w_iinc X dX12_nextOut_65 1 rfl rfl (by decide) rfl) (fun v9 => ?_)
            show Gz x 3 68 [(1, .int v9), (0, .ref (xb x + o0))] [] KDF r4 _ _
            refine g1 (pc' := 6) (w_goto X dX12_nextOut_68 (by decide)) ?_
            refine g_inl ?_
            exact g_end [1, 0] rfl rfl rfl
    · show Gz x 3 71 [] [] KDF e10 _ _
      refine g1 (pc' := 72) (w_iconst X (-1) dX12_nextOut_71 (by decide)) ?_
      exact g_rI2 X dX12_nextOut_72
  exact G _ h _ rfl
theorem k_X12_nextOut {x : Cxt} {cc : ByteArray} {nL : Nat} {own : String} {ret : Option FieldType} (X : Ok x cc nL own ret) {d : Nat} (hR : Rm x d KDF) (hN : Nst x) (Z : xz x = 0) {pc : Nat} {lv : List (Nat × Value)} {rest : List Value} {M : Mm} {o0 : Nat} (hk0 : KDF[o0]? = some (12, 0)) {idx : Nat} (hw : Cond.methodLink own idx yX12_nextOut ∈ tbG) (hdd : 5 + 1 ≤ d) (hrm : (rest.map fun v => v.category).sum ≤ 8) (hd : decode cc pc = .ok (.invokevirtual idx, 3)) {r : Int32} {M' : Mm} (h : f_X12_nextOut o0 M = some (r, M')) : StpZ x nL pc lv (.ref (xb x + o0) :: rest) KDF M (pc + 3) lv (.int r :: rest) KDF M' :=
  w_callV (st := []) (As := []) X hR hN (CtX0 Z (c_X12_nextOut hk0 h)) ⟨Nat.le_refl _, Nat.le_refl _⟩ ⟨Nat.le_refl _, Nat.le_refl _⟩ hk0 (ci := 12) (fs := fs_12 o0) (fun _ _ _ => rfl) rfl hw mw_1306 mw_1307 mw_72 mw_1308 (n := 0) (by decide +kernel) rfl hdd (by decide) hrm hd
def b_X12_layRow_12 (o0 : Nat) (s12 : Int32 × Int32 × Int32 × Mm) : Option ((Int32 × Int32 × Int32 × Mm) ⊕ (Int32 × Int32 × Mm)) :=
  (if s12.2.2.1 < 0 then some (.inr (s12.1, s12.2.1, s12.2.2.2)) else Lt ((rm s12.1 (10 : Int32)) - (1 : Int32)) (fun v3 => Lt (s12.1 / (10 : Int32)) (fun v4 => Lt (((if (f_X12_isBell o0 v3 s12.2.2.2) = 0 then (0 : Int32) else (sl (1 : Int32) v3))) : Int32) (fun j5 => Lt (s12.2.1 ||| j5) (fun v7 => Gd (ib ((5 : Int32) + s12.2.2.1) 23) (Lt (st2 s12.2.2.2 137 (ix ((5 : Int32) + s12.2.2.1)) v3) (fun M9 => Lt (s12.2.2.1 + (-1 : Int32)) (fun v10 => some (.inl (v4, v7, v10, M9))))))))))
def f_X12_layRow (o0 : Nat) (x1 : Int32) (M : Mm) : Option (Int32 × Mm) :=
  Lt ((M o0 16) - (1 : Int32)) (fun v1 => Bd (Lp (b_X12_layRow_12 o0) 100000 (x1, (0 : Int32), v1, M)) (fun e11 => (if (f_X12_isTower o0 e11.2.2) = 0 then some ((0 : Int32), e11.2.2) else (if x1 ≤ 0 then some ((0 : Int32), e11.2.2) else (if e11.1 = 0 then (if e11.2.1 = ((sl (1 : Int32) (e11.2.2 o0 16)) - (1 : Int32)) then some ((1 : Int32), e11.2.2) else some ((0 : Int32), e11.2.2)) else some ((0 : Int32), e11.2.2))))))
set_option maxRecDepth 100000 in
set_option maxHeartbeats 4000000 in
theorem c_X12_layRow {l : Launch} {D : va_G} {an : An} {b : Nat} {o0 : Nat} {x1 : Int32} (hk0 : KDF[o0]? = some (12, 0)) {M : Mm} {r : Int32} {M' : Mm} (h : f_X12_layRow o0 x1 M = some (r, M')) : Ct l D an b 0 yX12_layRow cX12_layRow 6 (some .boolean) 3 [.ref (b + o0), .int x1] KDF M (some (.int r)) KDF M' := by
  refine CtX.mk (as := fun b => [.ref (b + o0), .int x1]) (rv := fun b => (some (.int r))) (by decide) (fun b => Nat.le_of_ble_eq_true rfl) ⟨Nat.le_refl _, Nat.le_refl _⟩ (fun x X hR Z hN _ _ => ?_)
  have X : Ok x cX12_layRow 6 RX12 (some .boolean) := X
  have G : Gz x 6 0 [(0, .ref (xb x + o0)), (1, .int x1)] [] KDF M (f_X12_layRow o0 x1 M) (PsI2 x KDF) := by
    unfold f_X12_layRow
    refine g1 (pc' := 1) (w_iload_n X dX12_layRow_0 rfl 1 rfl) ?_
    refine g1 (pc' := 2) (lv' := [(2, .int x1), (0, .ref (xb x + o0)), (1, .int x1)]) (w_istore_n X dX12_layRow_1 rfl (by decide) rfl) ?_
    refine g1 (pc' := 3) (w_iconst X (0) dX12_layRow_2 (by decide)) ?_
    refine g1 (pc' := 4) (lv' := [(3, .int (0 : Int32)), (2, .int x1), (0, .ref (xb x + o0)), (1, .int x1)]) (w_istore_n X dX12_layRow_3 rfl (by decide) rfl) ?_
    refine g1 (pc' := 5) (w_aload_n X dX12_layRow_4 rfl 2 rfl) ?_
    refine g1 (pc' := 8) (gt_12_16 X hk0 mw_945 dX12_layRow_5) ?_
    refine g1 (pc' := 9) (w_iconst X (1) dX12_layRow_8 (by decide)) ?_
    refine g1 (pc' := 10) (w_isub X dX12_layRow_9) ?_
    refine g_lt (pc' := 12) (fun v1 => [(4, .int v1), (3, .int (0 : Int32)), (2, .int x1), (0, .ref (xb x + o0)), (1, .int x1)]) (fun v1 => []) (fun v1 => M) (w_istore X dX12_layRow_10 (by decide) rfl) (fun v1 => ?_)
    show Gz x 6 12 [(4, .int v1), (3, .int (0 : Int32)), (2, .int x1), (0, .ref (xb x + o0)), (1, .int x1)] [] KDF M _ _
    refine g_pick (lv' := [(0, .ref (xb x + o0)), (1, .int x1), (2, .int x1), (3, .int (0 : Int32)), (4, .int v1)]) [3, 4, 2, 1, 0] rfl ?_
    refine g_bdJ (J := 67) (fun e11 => [(0, .ref (xb x + o0)), (1, .int x1), (2, .int e11.1), (3, .int e11.2.1)]) (fun e11 => []) (fun e11 => e11.2.2) (g_lp (fun s12 => [(0, .ref (xb x + o0)), (1, .int x1), (2, .int s12.1), (3, .int s12.2.1), (4, .int s12.2.2.1)]) (fun s12 => s12.2.2.2) (fun s12 => ?_) 100000 (x1, (0 : Int32), v1, M)) (fun e11 => ?_)
    · show Gz x 6 12 [(0, .ref (xb x + o0)), (1, .int x1), (2, .int s12.1), (3, .int s12.2.1), (4, .int s12.2.2.1)] [] KDF s12.2.2.2 (b_X12_layRow_12 o0 s12) _
      unfold b_X12_layRow_12
      refine g1 (pc' := 14) (w_iload X dX12_layRow_12 4 rfl) ?_
      refine g_if (pcT := 67) (pcF := 17) (w_if_lt (tgt := 67) X dX12_layRow_14 (by decide)) (fun h2 => ?_) (fun h2 => ?_)
      · refine g_inr ?_
        exact g_end [0, 1, 2, 3] rfl rfl rfl
      · refine g1 (pc' := 18) (w_iload_n X dX12_layRow_17 rfl 2 rfl) ?_
        refine g1 (pc' := 20) (w_bipush X (10) dX12_layRow_18 (by decide)) ?_
        refine g1 (pc' := 21) (w_irem X dX12_layRow_20 (by decide)) ?_
        refine g1 (pc' := 22) (w_iconst X (1) dX12_layRow_21 (by decide)) ?_
        refine g1 (pc' := 23) (w_isub X dX12_layRow_22) ?_
        refine g_lt (pc' := 25) (fun v3 => [(5, .int v3), (0, .ref (xb x + o0)), (1, .int x1), (2, .int s12.1), (3, .int s12.2.1), (4, .int s12.2.2.1)]) (fun v3 => []) (fun v3 => s12.2.2.2) (w_istore X dX12_layRow_23 (by decide) rfl) (fun v3 => ?_)
        show Gz x 6 25 [(5, .int v3), (0, .ref (xb x + o0)), (1, .int x1), (2, .int s12.1), (3, .int s12.2.1), (4, .int s12.2.2.1)] [] KDF s12.2.2.2 _ _
        refine g1 (pc' := 26) (w_iload_n X dX12_layRow_25 rfl 3 rfl) ?_
        refine g1 (pc' := 28) (w_bipush X (10) dX12_layRow_26 (by decide)) ?_
        refine g1 (pc' := 29) (w_idiv X dX12_layRow_28 (by decide)) ?_
        refine g_lt (pc' := 30) (fun v4 => [(2, .int v4), (5, .int v3), (0, .ref (xb x + o0)), (1, .int x1), (3, .int s12.2.1), (4, .int s12.2.2.1)]) (fun v4 => []) (fun v4 => s12.2.2.2) (w_istore_n X dX12_layRow_29 rfl (by decide) rfl) (fun v4 => ?_)
        show Gz x 6 30 [(2, .int v4), (5, .int v3), (0, .ref (xb x + o0)), (1, .int x1), (3, .int s12.2.1), (4, .int s12.2.2.1)] [] KDF s12.2.2.2 _ _
        refine g1 (pc' := 31) (w_iload_n X dX12_layRow_30 rfl 4 rfl) ?_
        refine g1 (pc' := 32) (w_aload_n X dX12_layRow_31 rfl 2 rfl) ?_
        refine g1 (pc' := 34) (w_iload X dX12_layRow_32 1 rfl) ?_
        refine g1 (pc' := 37) (k_X12_isBell X hR hN Z hk0 mw_1169 (by decide) (Nat.le_of_ble_eq_true rfl) dX12_layRow_34) ?_
        refine g_ltJ (J := 48) (fun j5 => [(0, .ref (xb x + o0)), (1, .int x1), (2, .int v4), (4, .int s12.2.2.1), (5, .int v3)]) (fun j5 => [.int j5, .int s12.2.1]) (fun j5 => s12.2.2.2) ?_ (fun j5 => ?_)
        · refine g_ifS (pcT := 47) (pcF := 40) (w_if_eq (tgt := 47) X dX12_layRow_37 (by decide)) (fun h6 => ?_) (fun h6 => ?_)
          · refine g1 (pc' := 48) (w_iconst X (0) dX12_layRow_47 (by decide)) ?_
            exact g_end [2, 3, 0, 5, 1] rfl rfl rfl
          · refine g1 (pc' := 41) (w_iconst X (1) dX12_layRow_40 (by decide)) ?_
            refine g1 (pc' := 43) (w_iload X dX12_layRow_41 1 rfl) ?_
            refine g1 (pc' := 44) (w_ishl X dX12_layRow_43) ?_
            refine g1 (pc' := 48) (w_goto X dX12_layRow_44 (by decide)) ?_
            exact g_end [2, 3, 0, 5, 1] rfl rfl rfl
        · show Gz x 6 48 [(0, .ref (xb x + o0)), (1, .int x1), (2, .int v4), (4, .int s12.2.2.1), (5, .int v3)] [.int j5, .int s12.2.1] KDF s12.2.2.2 _ _
          refine g1 (pc' := 49) (w_ior X dX12_layRow_48) ?_
          refine g_lt (pc' := 50) (fun v7 => [(3, .int v7), (0, .ref (xb x + o0)), (1, .int x1), (2, .int v4), (4, .int s12.2.2.1), (5, .int v3)]) (fun v7 => []) (fun v7 => s12.2.2.2) (w_istore_n X dX12_layRow_49 rfl (by decide) rfl) (fun v7 => ?_)
          show Gz x 6 50 [(3, .int v7), (0, .ref (xb x + o0)), (1, .int x1), (2, .int v4), (4, .int s12.2.2.1), (5, .int v3)] [] KDF s12.2.2.2 _ _
          refine g1 (pc' := 51) (w_aload_n X dX12_layRow_50 rfl 1 rfl) ?_
          refine g1 (pc' := 54) (gt_12_24 X hk0 mw_953 dX12_layRow_51) ?_
          refine g1 (pc' := 55) (w_iconst X (5) dX12_layRow_54 (by decide)) ?_
          refine g1 (pc' := 57) (w_iload X dX12_layRow_55 4 rfl) ?_
          refine g1 (pc' := 58) (w_iadd X dX12_layRow_57) ?_
          refine g1 (pc' := 60) (w_iload X dX12_layRow_58 5 rfl) ?_
          refine g_gd (fun h8 => ?_)
          refine g_lt (pc' := 61) (fun M9 => [(3, .int v7), (0, .ref (xb x + o0)), (1, .int x1), (2, .int v4), (4, .int s12.2.2.1), (5, .int v3)]) (fun M9 => []) (fun M9 => M9) (w_iast X Z kd_137 h8 dX12_layRow_60) (fun M9 => ?_)
          show Gz x 6 61 [(3, .int v7), (0, .ref (xb x + o0)), (1, .int x1), (2, .int v4), (4, .int s12.2.2.1), (5, .int v3)] [] KDF M9 _ _
          refine g_lt (pc' := 64) (fun v10 => [(4, .int v10), (3, .int v7), (0, .ref (xb x + o0)), (1, .int x1), (2, .int v4), (5, .int v3)]) (fun v10 => []) (fun v10 => M9) (w_iinc X dX12_layRow_61 4 rfl rfl (by decide) rfl) (fun v10 => ?_)
          show Gz x 6 64 [(4, .int v10), (3, .int v7), (0, .ref (xb x + o0)), (1, .int x1), (2, .int v4), (5, .int v3)] [] KDF M9 _ _
          refine g1 (pc' := 12) (w_goto X dX12_layRow_64 (by decide)) ?_
          refine g_inl ?_
          exact g_end [2, 3, 4, 1, 0] rfl rfl rfl
    · show Gz x 6 67 [(0, .ref (xb x + o0)), (1, .int x1), (2, .int e11.1), (3, .int e11.2.1)] [] KDF e11.2.2 _ _
      refine g1 (pc' := 68) (w_aload_n X dX12_layRow_67 rfl 0 rfl) ?_
      refine g1 (pc' := 71) (k_X12_isTower X hR hN Z hk0 mw_1160 (by decide) (Nat.le_of_ble_eq_true rfl) dX12_layRow_68) ?_
      refine g_if (pcT := 98) (pcF := 74) (w_if_eq (tgt := 98) X dX12_layRow_71 (by decide)) (fun h12 => ?_) (fun h12 => ?_)
      · refine g1 (pc' := 99) (w_iconst X (0) dX12_layRow_98 (by decide)) ?_
        exact g_rZ2 X zb0 dX12_layRow_99
      · refine g1 (pc' := 75) (w_iload_n X dX12_layRow_74 rfl 1 rfl) ?_
        refine g_if (pcT := 98) (pcF := 78) (w_if_le (tgt := 98) X dX12_layRow_75 (by decide)) (fun h13 => ?_) (fun h13 => ?_)
        · refine g1 (pc' := 99) (w_iconst X (0) dX12_layRow_98 (by decide)) ?_
          exact g_rZ2 X zb0 dX12_layRow_99
        · refine g1 (pc' := 79) (w_iload_n X dX12_layRow_78 rfl 2 rfl) ?_
          refine g_if (pcT := 82) (pcF := 98) (w_if_ne (tgt := 98) X dX12_layRow_79 (by decide)) (fun h14 => ?_) (fun h14 => ?_)
          · refine g1 (pc' := 83) (w_iload_n X dX12_layRow_82 rfl 3 rfl) ?_
            refine g1 (pc' := 84) (w_iconst X (1) dX12_layRow_83 (by decide)) ?_
            refine g1 (pc' := 85) (w_aload_n X dX12_layRow_84 rfl 0 rfl) ?_
            refine g1 (pc' := 88) (gt_12_16 X hk0 mw_945 dX12_layRow_85) ?_
            refine g1 (pc' := 89) (w_ishl X dX12_layRow_88) ?_
            refine g1 (pc' := 90) (w_iconst X (1) dX12_layRow_89 (by decide)) ?_
            refine g1 (pc' := 91) (w_isub X dX12_layRow_90) ?_
            refine g_if (pcT := 94) (pcF := 98) (w_icmp_ne (tgt := 98) X dX12_layRow_91 (by decide)) (fun h15 => ?_) (fun h15 => ?_)
            · refine g1 (pc' := 95) (w_iconst X (1) dX12_layRow_94 (by decide)) ?_
              refine g1 (pc' := 99) (w_goto X dX12_layRow_95 (by decide)) ?_
              exact g_rZ2 X zb1 dX12_layRow_99
            · refine g1 (pc' := 99) (w_iconst X (0) dX12_layRow_98 (by decide)) ?_
              exact g_rZ2 X zb0 dX12_layRow_99
          · refine g1 (pc' := 99) (w_iconst X (0) dX12_layRow_98 (by decide)) ?_
            exact g_rZ2 X zb0 dX12_layRow_99
  exact G _ h _ rfl
theorem k_X12_layRow {x : Cxt} {cc : ByteArray} {nL : Nat} {own : String} {ret : Option FieldType} (X : Ok x cc nL own ret) {d : Nat} (hR : Rm x d KDF) (hN : Nst x) (Z : xz x = 0) {pc : Nat} {lv : List (Nat × Value)} {rest : List Value} {M : Mm} {o0 : Nat} {x1 : Int32} (hk0 : KDF[o0]? = some (12, 0)) {idx : Nat} (hw : Cond.methodLink own idx yX12_layRow ∈ tbG) (hdd : 3 + 1 ≤ d) (hrm : (rest.map fun v => v.category).sum ≤ 8) (hd : decode cc pc = .ok (.invokevirtual idx, 3)) {r : Int32} {M' : Mm} (h : f_X12_layRow o0 x1 M = some (r, M')) : StpZ x nL pc lv (.int x1 :: .ref (xb x + o0) :: rest) KDF M (pc + 3) lv (.int r :: rest) KDF M' :=
  w_callV (st := []) (As := [.int x1]) X hR hN (CtX0 Z (c_X12_layRow hk0 h)) ⟨Nat.le_refl _, Nat.le_refl _⟩ ⟨Nat.le_refl _, Nat.le_refl _⟩ hk0 (ci := 12) (fs := fs_12 o0) (fun _ _ _ => rfl) rfl hw mw_1315 mw_58 mw_72 mw_1316 (n := 1) (by decide +kernel) rfl hdd (by decide) hrm hd
def b_X12_change_24 (o0 : Nat) (s24 : Int32 × Mm) : Option ((Int32 × Mm) ⊕ (Mm)) :=
  (if (s24.2 o0 16) ≤ s24.1 then some (.inr s24.2) else Gd (ib ((5 : Int32) + s24.1) 23) (Gd (ib s24.1 6) (Lt (st2 s24.2 145 (ix s24.1) (s24.2 137 (ix ((5 : Int32) + s24.1)))) (fun M8 => Lt (s24.1 + (1 : Int32)) (fun v9 => some (.inl (v9, M8)))))))
def b_X12_change_64 (o0 : Nat) (r11 : Int32 × Mm) (s64 : Int32 × Int32) : Option ((Int32 × Int32) ⊕ (Int32)) :=
  (if (r11.2 o0 16) ≤ s64.2 then some (.inr s64.1) else Gd (ib ((5 : Int32) + s64.2) 23) (Gd (ib s64.2 6) (Lt (((if (r11.2 137 (ix ((5 : Int32) + s64.2))) = (r11.2 145 (ix s64.2)) then (sl (1 : Int32) s64.2) else (0 : Int32))) : Int32) (fun j15 => Lt (s64.1 ||| j15) (fun v17 => Lt (s64.2 + (1 : Int32)) (fun v18 => some (.inl (v17, v18))))))))
def f_X12_change (o0 : Nat) (x1 : Int32) (x2 : Int32) (M : Mm) : Option (Int32 × Mm) :=
  Bd (f_X12_layRow o0 x1 M) (fun r1 => (if r1.1 = 0 then some ((-1000000002 : Int32), r1.2) else Bd (f_X12_layRow o0 x2 r1.2) (fun r3 => (if r3.1 = 0 then some ((-1000000002 : Int32), r3.2) else Bd (Lp (b_X12_change_24 o0) 100000 ((0 : Int32), r3.2)) (fun e10 => Bd (f_X12_layRow o0 x1 e10) (fun r11 => Bd (Lp (b_X12_change_64 o0 r11) 100000 ((0 : Int32), (0 : Int32))) (fun e19 => Bd (f_X12_isChange e19 (r11.2 o0 16)) (fun r20 => (if r20 = 0 then some ((-1 : Int32), r11.2) else Bd (f_X12_changes o0 137 e19 r11.2) (fun r22 => Bd (f_X12_figuresOf o0 137 r22) (fun r23 => (if r23 = x2 then some (e19, r22) else some ((-1 : Int32), r22)))))))))))))
set_option maxRecDepth 100000 in
set_option maxHeartbeats 4000000 in
theorem c_X12_change {l : Launch} {D : va_G} {an : An} {b : Nat} {o0 : Nat} {x1 : Int32} {x2 : Int32} (hk0 : KDF[o0]? = some (12, 0)) {M : Mm} {r : Int32} {M' : Mm} (h : f_X12_change o0 x1 x2 M = some (r, M')) : Ct l D an b 0 yX12_change cX12_change 5 (some .int) 4 [.ref (b + o0), .int x1, .int x2] KDF M (some (.int r)) KDF M' := by
  refine CtX.mk (as := fun b => [.ref (b + o0), .int x1, .int x2]) (rv := fun b => (some (.int r))) (by decide) (fun b => Nat.le_of_ble_eq_true rfl) ⟨Nat.le_refl _, Nat.le_refl _⟩ (fun x X hR Z hN _ _ => ?_)
  have X : Ok x cX12_change 5 RX12 (some .int) := X
  have G : Gz x 5 0 [(0, .ref (xb x + o0)), (1, .int x1), (2, .int x2)] [] KDF M (f_X12_change o0 x1 x2 M) (PsI2 x KDF) := by
    unfold f_X12_change
    refine g1 (pc' := 1) (w_aload_n X dX12_change_0 rfl 0 rfl) ?_
    refine g1 (pc' := 2) (w_iload_n X dX12_change_1 rfl 1 rfl) ?_
    refine g_bd (pc' := 5) (fun r1 => [(0, .ref (xb x + o0)), (1, .int x1), (2, .int x2)]) (fun r1 => [.int r1.1]) (fun r1 => r1.2) (fun r1 h => k_X12_layRow X hR hN Z hk0 mw_1313 (by decide) (Nat.le_of_ble_eq_true rfl) dX12_change_2 h) (fun r1 => ?_)
    show Gz x 5 5 [(0, .ref (xb x + o0)), (1, .int x1), (2, .int x2)] [.int r1.1] KDF r1.2 _ _
    refine g_if (pcT := 16) (pcF := 8) (w_if_eq (tgt := 16) X dX12_change_5 (by decide)) (fun h2 => ?_) (fun h2 => ?_)
    · refine g1 (pc' := 18) (w_ldc (v := -1000000002) X dX12_change_16 mw_1058) ?_
      exact g_rI2 X dX12_change_18
    · refine g1 (pc' := 9) (w_aload_n X dX12_change_8 rfl 0 rfl) ?_
      refine g1 (pc' := 10) (w_iload_n X dX12_change_9 rfl 2 rfl) ?_
      refine g_bd (pc' := 13) (fun r3 => [(0, .ref (xb x + o0)), (1, .int x1), (2, .int x2)]) (fun r3 => [.int r3.1]) (fun r3 => r3.2) (fun r3 h => k_X12_layRow X hR hN Z hk0 mw_1313 (by decide) (Nat.le_of_ble_eq_true rfl) dX12_change_10 h) (fun r3 => ?_)
      show Gz x 5 13 [(0, .ref (xb x + o0)), (1, .int x1), (2, .int x2)] [.int r3.1] KDF r3.2 _ _
      refine g_if (pcT := 16) (pcF := 19) (w_if_ne (tgt := 19) X dX12_change_13 (by decide)) (fun h4 => ?_) (fun h4 => ?_)
      · refine g1 (pc' := 18) (w_ldc (v := -1000000002) X dX12_change_16 mw_1058) ?_
        exact g_rI2 X dX12_change_18
      · refine g1 (pc' := 20) (w_iconst X (0) dX12_change_19 (by decide)) ?_
        refine g1 (pc' := 21) (lv' := [(3, .int (0 : Int32)), (0, .ref (xb x + o0)), (1, .int x1), (2, .int x2)]) (w_istore_n X dX12_change_20 rfl (by decide) rfl) ?_
        refine g1 (pc' := 22) (w_iconst X (0) dX12_change_21 (by decide)) ?_
        refine g1 (pc' := 24) (lv' := [(4, .int (0 : Int32)), (3, .int (0 : Int32)), (0, .ref (xb x + o0)), (1, .int x1), (2, .int x2)]) (w_istore X dX12_change_22 (by decide) rfl) ?_
        refine g_pick (lv' := [(0, .ref (xb x + o0)), (1, .int x1), (2, .int x2), (3, .int (0 : Int32)), (4, .int (0 : Int32))]) [2, 3, 4, 1, 0] rfl ?_
        refine g_bdJ (J := 55) (fun e10 => [(0, .ref (xb x + o0)), (1, .int x1), (2, .int x2), (3, .int (0 : Int32))]) (fun e10 => []) (fun e10 => e10) (g_lp (fun s24 => [(0, .ref (xb x + o0)), (1, .int x1), (2, .int x2), (3, .int (0 : Int32)), (4, .int s24.1)]) (fun s24 => s24.2) (fun s24 => ?_) 100000 ((0 : Int32), r3.2)) (fun e10 => ?_)
        · show Gz x 5 24 [(0, .ref (xb x + o0)), (1, .int x1), (2, .int x2), (3, .int (0 : Int32)), (4, .int s24.1)] [] KDF s24.2 (b_X12_change_24 o0 s24) _
          unfold b_X12_change_24
          refine g1 (pc' := 26) (w_iload X dX12_change_24 4 rfl) ?_
          refine g1 (pc' := 27) (w_aload_n X dX12_change_26 rfl 0 rfl) ?_
          refine g1 (pc' := 30) (gt_12_16 X hk0 mw_945 dX12_change_27) ?_
          refine g_if (pcT := 55) (pcF := 33) (w_icmp_ge (tgt := 55) X dX12_change_30 (by decide)) (fun h5 => ?_) (fun h5 => ?_)
          · refine g_inr ?_
            exact g_end [0, 1, 2, 3] rfl rfl rfl
          · refine g1 (pc' := 34) (w_aload_n X dX12_change_33 rfl 0 rfl) ?_
            refine g1 (pc' := 37) (gt_12_37 X hk0 mw_966 dX12_change_34) ?_
            refine g1 (pc' := 39) (w_iload X dX12_change_37 4 rfl) ?_
            refine g1 (pc' := 40) (w_aload_n X dX12_change_39 rfl 0 rfl) ?_
            refine g1 (pc' := 43) (gt_12_24 X hk0 mw_953 dX12_change_40) ?_
            refine g1 (pc' := 44) (w_iconst X (5) dX12_change_43 (by decide)) ?_
            refine g1 (pc' := 46) (w_iload X dX12_change_44 4 rfl) ?_
            refine g1 (pc' := 47) (w_iadd X dX12_change_46) ?_
            refine g_gd (fun h6 => ?_)
            refine g1 (pc' := 48) (w_iald X kd_137 h6 dX12_change_47) ?_
            refine g_gd (fun h7 => ?_)
            refine g_lt (pc' := 49) (fun M8 => [(0, .ref (xb x + o0)), (1, .int x1), (2, .int x2), (3, .int (0 : Int32)), (4, .int s24.1)]) (fun M8 => []) (fun M8 => M8) (w_iast X Z kd_145 h7 dX12_change_48) (fun M8 => ?_)
            show Gz x 5 49 [(0, .ref (xb x + o0)), (1, .int x1), (2, .int x2), (3, .int (0 : Int32)), (4, .int s24.1)] [] KDF M8 _ _
            refine g_lt (pc' := 52) (fun v9 => [(4, .int v9), (0, .ref (xb x + o0)), (1, .int x1), (2, .int x2), (3, .int (0 : Int32))]) (fun v9 => []) (fun v9 => M8) (w_iinc X dX12_change_49 4 rfl rfl (by decide) rfl) (fun v9 => ?_)
            show Gz x 5 52 [(4, .int v9), (0, .ref (xb x + o0)), (1, .int x1), (2, .int x2), (3, .int (0 : Int32))] [] KDF M8 _ _
            refine g1 (pc' := 24) (w_goto X dX12_change_52 (by decide)) ?_
            refine g_inl ?_
            exact g_end [1, 2, 3, 4, 0] rfl rfl rfl
        · show Gz x 5 55 [(0, .ref (xb x + o0)), (1, .int x1), (2, .int x2), (3, .int (0 : Int32))] [] KDF e10 _ _
          refine g1 (pc' := 56) (w_aload_n X dX12_change_55 rfl 0 rfl) ?_
          refine g1 (pc' := 57) (w_iload_n X dX12_change_56 rfl 1 rfl) ?_
          refine g_bd (pc' := 60) (fun r11 => [(0, .ref (xb x + o0)), (1, .int x1), (2, .int x2), (3, .int (0 : Int32))]) (fun r11 => [.int r11.1]) (fun r11 => r11.2) (fun r11 h => k_X12_layRow X hR hN Z hk0 mw_1313 (by decide) (Nat.le_of_ble_eq_true rfl) dX12_change_57 h) (fun r11 => ?_)
          show Gz x 5 60 [(0, .ref (xb x + o0)), (1, .int x1), (2, .int x2), (3, .int (0 : Int32))] [.int r11.1] KDF r11.2 _ _
          refine g1 (pc' := 61) (w_pop X dX12_change_60 rfl) ?_
          refine g1 (pc' := 62) (w_iconst X (0) dX12_change_61 (by decide)) ?_
          refine g1 (pc' := 64) (lv' := [(4, .int (0 : Int32)), (0, .ref (xb x + o0)), (1, .int x1), (2, .int x2), (3, .int (0 : Int32))]) (w_istore X dX12_change_62 (by decide) rfl) ?_
          refine g_pick (lv' := [(0, .ref (xb x + o0)), (2, .int x2), (3, .int (0 : Int32)), (4, .int (0 : Int32))]) [1, 3, 4, 0] rfl ?_
          refine g_bdJ (J := 109) (fun e19 => [(0, .ref (xb x + o0)), (2, .int x2), (3, .int e19)]) (fun e19 => []) (fun e19 => r11.2) (g_lp (fun s64 => [(0, .ref (xb x + o0)), (2, .int x2), (3, .int s64.1), (4, .int s64.2)]) (fun s64 => r11.2) (fun s64 => ?_) 100000 ((0 : Int32), (0 : Int32))) (fun e19 => ?_)
          · show Gz x 5 64 [(0, .ref (xb x + o0)), (2, .int x2), (3, .int s64.1), (4, .int s64.2)] [] KDF r11.2 (b_X12_change_64 o0 r11 s64) _
            unfold b_X12_change_64
            refine g1 (pc' := 66) (w_iload X dX12_change_64 3 rfl) ?_
            refine g1 (pc' := 67) (w_aload_n X dX12_change_66 rfl 0 rfl) ?_
            refine g1 (pc' := 70) (gt_12_16 X hk0 mw_945 dX12_change_67) ?_
            refine g_if (pcT := 109) (pcF := 73) (w_icmp_ge (tgt := 109) X dX12_change_70 (by decide)) (fun h12 => ?_) (fun h12 => ?_)
            · refine g_inr ?_
              exact g_end [0, 1, 2] rfl rfl rfl
            · refine g1 (pc' := 74) (w_iload_n X dX12_change_73 rfl 2 rfl) ?_
              refine g1 (pc' := 75) (w_aload_n X dX12_change_74 rfl 0 rfl) ?_
              refine g1 (pc' := 78) (gt_12_24 X hk0 mw_953 dX12_change_75) ?_
              refine g1 (pc' := 79) (w_iconst X (5) dX12_change_78 (by decide)) ?_
              refine g1 (pc' := 81) (w_iload X dX12_change_79 3 rfl) ?_
              refine g1 (pc' := 82) (w_iadd X dX12_change_81) ?_
              refine g_gd (fun h13 => ?_)
              refine g1 (pc' := 83) (w_iald X kd_137 h13 dX12_change_82) ?_
              refine g1 (pc' := 84) (w_aload_n X dX12_change_83 rfl 0 rfl) ?_
              refine g1 (pc' := 87) (gt_12_37 X hk0 mw_966 dX12_change_84) ?_
              refine g1 (pc' := 89) (w_iload X dX12_change_87 3 rfl) ?_
              refine g_gd (fun h14 => ?_)
              refine g1 (pc' := 90) (w_iald X kd_145 h14 dX12_change_89) ?_
              refine g_ltJ (J := 101) (fun j15 => [(0, .ref (xb x + o0)), (2, .int x2), (4, .int s64.2)]) (fun j15 => [.int j15, .int s64.1]) (fun j15 => r11.2) ?_ (fun j15 => ?_)
              · refine g_ifS (pcT := 93) (pcF := 100) (w_icmp_ne (tgt := 100) X dX12_change_90 (by decide)) (fun h16 => ?_) (fun h16 => ?_)
                · refine g1 (pc' := 94) (w_iconst X (1) dX12_change_93 (by decide)) ?_
                  refine g1 (pc' := 96) (w_iload X dX12_change_94 3 rfl) ?_
                  refine g1 (pc' := 97) (w_ishl X dX12_change_96) ?_
                  refine g1 (pc' := 101) (w_goto X dX12_change_97 (by decide)) ?_
                  exact g_end [0, 1, 3] rfl rfl rfl
                · refine g1 (pc' := 101) (w_iconst X (0) dX12_change_100 (by decide)) ?_
                  exact g_end [0, 1, 3] rfl rfl rfl
              · show Gz x 5 101 [(0, .ref (xb x + o0)), (2, .int x2), (4, .int s64.2)] [.int j15, .int s64.1] KDF r11.2 _ _
                refine g1 (pc' := 102) (w_ior X dX12_change_101) ?_
                refine g_lt (pc' := 103) (fun v17 => [(3, .int v17), (0, .ref (xb x + o0)), (2, .int x2), (4, .int s64.2)]) (fun v17 => []) (fun v17 => r11.2) (w_istore_n X dX12_change_102 rfl (by decide) rfl) (fun v17 => ?_)
                show Gz x 5 103 [(3, .int v17), (0, .ref (xb x + o0)), (2, .int x2), (4, .int s64.2)] [] KDF r11.2 _ _
                refine g_lt (pc' := 106) (fun v18 => [(4, .int v18), (3, .int v17), (0, .ref (xb x + o0)), (2, .int x2)]) (fun v18 => []) (fun v18 => r11.2) (w_iinc X dX12_change_103 3 rfl rfl (by decide) rfl) (fun v18 => ?_)
                show Gz x 5 106 [(4, .int v18), (3, .int v17), (0, .ref (xb x + o0)), (2, .int x2)] [] KDF r11.2 _ _
                refine g1 (pc' := 64) (w_goto X dX12_change_106 (by decide)) ?_
                refine g_inl ?_
                exact g_end [2, 3, 1, 0] rfl rfl rfl
          · show Gz x 5 109 [(0, .ref (xb x + o0)), (2, .int x2), (3, .int e19)] [] KDF r11.2 _ _
            refine g1 (pc' := 110) (w_iload_n X dX12_change_109 rfl 2 rfl) ?_
            refine g1 (pc' := 111) (w_aload_n X dX12_change_110 rfl 0 rfl) ?_
            refine g1 (pc' := 114) (gt_12_16 X hk0 mw_945 dX12_change_111) ?_
            refine g_bd (pc' := 117) (fun r20 => [(0, .ref (xb x + o0)), (2, .int x2), (3, .int e19)]) (fun r20 => [.int r20]) (fun r20 => r11.2) (fun r20 h => k_X12_isChange X hR hN Z  mw_1096 (by decide) (Nat.le_of_ble_eq_true rfl) dX12_change_114 h) (fun r20 => ?_)
            show Gz x 5 117 [(0, .ref (xb x + o0)), (2, .int x2), (3, .int e19)] [.int r20] KDF r11.2 _ _
            refine g_if (pcT := 120) (pcF := 122) (w_if_ne (tgt := 122) X dX12_change_117 (by decide)) (fun h21 => ?_) (fun h21 => ?_)
            · refine g1 (pc' := 121) (w_iconst X (-1) dX12_change_120 (by decide)) ?_
              exact g_rI2 X dX12_change_121
            · refine g1 (pc' := 123) (w_aload_n X dX12_change_122 rfl 0 rfl) ?_
              refine g1 (pc' := 124) (w_aload_n X dX12_change_123 rfl 0 rfl) ?_
              refine g1 (pc' := 127) (gt_12_24 X hk0 mw_953 dX12_change_124) ?_
              refine g1 (pc' := 128) (w_iload_n X dX12_change_127 rfl 2 rfl) ?_
              refine g_bd (pc' := 131) (fun r22 => [(0, .ref (xb x + o0)), (2, .int x2), (3, .int e19)]) (fun r22 => []) (fun r22 => r22) (fun r22 h => k_X12_changes X hR hN Z hk0 (kln_of kd_137) mw_1144 (by decide) (Nat.le_of_ble_eq_true rfl) dX12_change_128 h) (fun r22 => ?_)
              show Gz x 5 131 [(0, .ref (xb x + o0)), (2, .int x2), (3, .int e19)] [] KDF r22 _ _
              refine g1 (pc' := 132) (w_aload_n X dX12_change_131 rfl 0 rfl) ?_
              refine g1 (pc' := 133) (w_aload_n X dX12_change_132 rfl 0 rfl) ?_
              refine g1 (pc' := 136) (gt_12_24 X hk0 mw_953 dX12_change_133) ?_
              refine g_bd (pc' := 139) (fun r23 => [(0, .ref (xb x + o0)), (2, .int x2), (3, .int e19)]) (fun r23 => [.int r23]) (fun r23 => r22) (fun r23 h => k_X12_figuresOf X hR hN Z hk0 (kln_of kd_137) mw_1128 (by decide) (Nat.le_of_ble_eq_true rfl) dX12_change_136 h) (fun r23 => ?_)
              show Gz x 5 139 [(0, .ref (xb x + o0)), (2, .int x2), (3, .int e19)] [.int r23] KDF r22 _ _
              refine g1 (pc' := 140) (w_iload_n X dX12_change_139 rfl 1 rfl) ?_
              refine g_if (pcT := 143) (pcF := 147) (w_icmp_ne (tgt := 147) X dX12_change_140 (by decide)) (fun h24 => ?_) (fun h24 => ?_)
              · refine g1 (pc' := 144) (w_iload_n X dX12_change_143 rfl 2 rfl) ?_
                refine g1 (pc' := 148) (w_goto X dX12_change_144 (by decide)) ?_
                exact g_rI2 X dX12_change_148
              · refine g1 (pc' := 148) (w_iconst X (-1) dX12_change_147 (by decide)) ?_
                exact g_rI2 X dX12_change_148
  exact G _ h _ rfl
theorem k_X12_change {x : Cxt} {cc : ByteArray} {nL : Nat} {own : String} {ret : Option FieldType} (X : Ok x cc nL own ret) {d : Nat} (hR : Rm x d KDF) (hN : Nst x) (Z : xz x = 0) {pc : Nat} {lv : List (Nat × Value)} {rest : List Value} {M : Mm} {o0 : Nat} {x1 : Int32} {x2 : Int32} (hk0 : KDF[o0]? = some (12, 0)) {idx : Nat} (hw : Cond.methodLink own idx yX12_change ∈ tbG) (hdd : 4 + 1 ≤ d) (hrm : (rest.map fun v => v.category).sum ≤ 8) (hd : decode cc pc = .ok (.invokevirtual idx, 3)) {r : Int32} {M' : Mm} (h : f_X12_change o0 x1 x2 M = some (r, M')) : StpZ x nL pc lv (.int x2 :: .int x1 :: .ref (xb x + o0) :: rest) KDF M (pc + 3) lv (.int r :: rest) KDF M' :=
  w_callV (st := []) (As := [.int x1, .int x2]) X hR hN (CtX0 Z (c_X12_change hk0 h)) ⟨Nat.le_refl _, Nat.le_refl _⟩ ⟨Nat.le_refl _, Nat.le_refl _⟩ hk0 (ci := 12) (fs := fs_12 o0) (fun _ _ _ => rfl) rfl hw mw_1310 mw_1311 mw_72 mw_1312 (n := 2) (by decide +kernel) rfl hdd (by decide) hrm hd
def b_X12_follow_14 (o0 : Nat) (M : Mm) (s14 : Int32 × Int32) : Option ((Int32 × Int32) ⊕ (Int32)) :=
  (if ((sl (1 : Int32) (M o0 16)) - (1 : Int32)) ≤ s14.2 then some (.inr s14.1) else Bd (f_X12_isChange s14.2 (M o0 16)) (fun r3 => Lt (((if r3 = 0 then (0 : Int32) else (1 : Int32))) : Int32) (fun j4 => Lt (s14.1 + j4) (fun v6 => Lt (s14.2 + (1 : Int32)) (fun v7 => some (.inl (v6, v7)))))))
def f_X12_follow (o0 : Nat) (M : Mm) : Option (Int32) :=
  (if (f_X12_isTower o0 M) = 0 then some (-1000000003 : Int32) else Bd (Lp (b_X12_follow_14 o0 M) 100000 ((0 : Int32), (0 : Int32))) (fun e8 => some e8))
set_option maxRecDepth 100000 in
set_option maxHeartbeats 4000000 in
theorem c_X12_follow {l : Launch} {D : va_G} {an : An} {b : Nat} {o0 : Nat} (hk0 : KDF[o0]? = some (12, 0)) {M : Mm} {r : Int32} (h : f_X12_follow o0 M = some r) : Ct l D an b 0 yX12_follow cX12_follow 3 (some .int) 3 [.ref (b + o0)] KDF M (some (.int r)) KDF M := by
  refine CtX.mk (as := fun b => [.ref (b + o0)]) (rv := fun b => (some (.int r))) (by decide) (fun b => Nat.le_of_ble_eq_true rfl) ⟨Nat.le_refl _, Nat.le_refl _⟩ (fun x X hR Z hN _ _ => ?_)
  have X : Ok x cX12_follow 3 RX12 (some .int) := X
  have G : Gz x 3 0 [(0, .ref (xb x + o0))] [] KDF M (f_X12_follow o0 M) (PsI x KDF M) := by
    unfold f_X12_follow
    refine g1 (pc' := 1) (w_aload_n X dX12_follow_0 rfl 0 rfl) ?_
    refine g1 (pc' := 4) (k_X12_isTower X hR hN Z hk0 mw_1160 (by decide) (Nat.le_of_ble_eq_true rfl) dX12_follow_1) ?_
    refine g_if (pcT := 7) (pcF := 10) (w_if_ne (tgt := 10) X dX12_follow_4 (by decide)) (fun h1 => ?_) (fun h1 => ?_)
    · refine g1 (pc' := 9) (w_ldc (v := -1000000003) X dX12_follow_7 mw_1164) ?_
      exact g_rI X dX12_follow_9
    · refine g1 (pc' := 11) (w_iconst X (0) dX12_follow_10 (by decide)) ?_
      refine g1 (pc' := 12) (lv' := [(1, .int (0 : Int32)), (0, .ref (xb x + o0))]) (w_istore_n X dX12_follow_11 rfl (by decide) rfl) ?_
      refine g1 (pc' := 13) (w_iconst X (0) dX12_follow_12 (by decide)) ?_
      refine g1 (pc' := 14) (lv' := [(2, .int (0 : Int32)), (1, .int (0 : Int32)), (0, .ref (xb x + o0))]) (w_istore_n X dX12_follow_13 rfl (by decide) rfl) ?_
      refine g_pick (lv' := [(0, .ref (xb x + o0)), (1, .int (0 : Int32)), (2, .int (0 : Int32))]) [2, 1, 0] rfl ?_
      refine g_bdJ (J := 51) (fun e8 => [(1, .int e8)]) (fun e8 => []) (fun e8 => M) (g_lp (fun s14 => [(0, .ref (xb x + o0)), (1, .int s14.1), (2, .int s14.2)]) (fun s14 => M) (fun s14 => ?_) 100000 ((0 : Int32), (0 : Int32))) (fun e8 => ?_)
      · show Gz x 3 14 [(0, .ref (xb x + o0)), (1, .int s14.1), (2, .int s14.2)] [] KDF M (b_X12_follow_14 o0 M s14) _
        unfold b_X12_follow_14
        refine g1 (pc' := 15) (w_iload_n X dX12_follow_14 rfl 2 rfl) ?_
        refine g1 (pc' := 16) (w_iconst X (1) dX12_follow_15 (by decide)) ?_
        refine g1 (pc' := 17) (w_aload_n X dX12_follow_16 rfl 0 rfl) ?_
        refine g1 (pc' := 20) (gt_12_16 X hk0 mw_945 dX12_follow_17) ?_
        refine g1 (pc' := 21) (w_ishl X dX12_follow_20) ?_
        refine g1 (pc' := 22) (w_iconst X (1) dX12_follow_21 (by decide)) ?_
        refine g1 (pc' := 23) (w_isub X dX12_follow_22) ?_
        refine g_if (pcT := 51) (pcF := 26) (w_icmp_ge (tgt := 51) X dX12_follow_23 (by decide)) (fun h2 => ?_) (fun h2 => ?_)
        · refine g_inr ?_
          exact g_end [1] rfl rfl rfl
        · refine g1 (pc' := 27) (w_iload_n X dX12_follow_26 rfl 1 rfl) ?_
          refine g1 (pc' := 28) (w_iload_n X dX12_follow_27 rfl 2 rfl) ?_
          refine g1 (pc' := 29) (w_aload_n X dX12_follow_28 rfl 0 rfl) ?_
          refine g1 (pc' := 32) (gt_12_16 X hk0 mw_945 dX12_follow_29) ?_
          refine g_bd (pc' := 35) (fun r3 => [(0, .ref (xb x + o0)), (1, .int s14.1), (2, .int s14.2)]) (fun r3 => [.int r3, .int s14.1]) (fun r3 => M) (fun r3 h => k_X12_isChange X hR hN Z  mw_1096 (by decide) (Nat.le_of_ble_eq_true rfl) dX12_follow_32 h) (fun r3 => ?_)
          show Gz x 3 35 [(0, .ref (xb x + o0)), (1, .int s14.1), (2, .int s14.2)] [.int r3, .int s14.1] KDF M _ _
          refine g_ltJ (J := 43) (fun j4 => [(0, .ref (xb x + o0)), (2, .int s14.2)]) (fun j4 => [.int j4, .int s14.1]) (fun j4 => M) ?_ (fun j4 => ?_)
          · refine g_ifS (pcT := 42) (pcF := 38) (w_if_eq (tgt := 42) X dX12_follow_35 (by decide)) (fun h5 => ?_) (fun h5 => ?_)
            · refine g1 (pc' := 43) (w_iconst X (0) dX12_follow_42 (by decide)) ?_
              exact g_end [0, 2] rfl rfl rfl
            · refine g1 (pc' := 39) (w_iconst X (1) dX12_follow_38 (by decide)) ?_
              refine g1 (pc' := 43) (w_goto X dX12_follow_39 (by decide)) ?_
              exact g_end [0, 2] rfl rfl rfl
          · show Gz x 3 43 [(0, .ref (xb x + o0)), (2, .int s14.2)] [.int j4, .int s14.1] KDF M _ _
            refine g1 (pc' := 44) (w_iadd X dX12_follow_43) ?_
            refine g_lt (pc' := 45) (fun v6 => [(1, .int v6), (0, .ref (xb x + o0)), (2, .int s14.2)]) (fun v6 => []) (fun v6 => M) (w_istore_n X dX12_follow_44 rfl (by decide) rfl) (fun v6 => ?_)
            show Gz x 3 45 [(1, .int v6), (0, .ref (xb x + o0)), (2, .int s14.2)] [] KDF M _ _
            refine g_lt (pc' := 48) (fun v7 => [(2, .int v7), (1, .int v6), (0, .ref (xb x + o0))]) (fun v7 => []) (fun v7 => M) (w_iinc X dX12_follow_45 2 rfl rfl (by decide) rfl) (fun v7 => ?_)
            show Gz x 3 48 [(2, .int v7), (1, .int v6), (0, .ref (xb x + o0))] [] KDF M _ _
            refine g1 (pc' := 14) (w_goto X dX12_follow_48 (by decide)) ?_
            refine g_inl ?_
            exact g_end [2, 1, 0] rfl rfl rfl
      · show Gz x 3 51 [(1, .int e8)] [] KDF M _ _
        refine g1 (pc' := 52) (w_iload_n X dX12_follow_51 rfl 0 rfl) ?_
        exact g_rI X dX12_follow_52
  exact G _ h _ rfl
theorem k_X12_follow {x : Cxt} {cc : ByteArray} {nL : Nat} {own : String} {ret : Option FieldType} (X : Ok x cc nL own ret) {d : Nat} (hR : Rm x d KDF) (hN : Nst x) (Z : xz x = 0) {pc : Nat} {lv : List (Nat × Value)} {rest : List Value} {M : Mm} {o0 : Nat} (hk0 : KDF[o0]? = some (12, 0)) {idx : Nat} (hw : Cond.methodLink own idx yX12_follow ∈ tbG) (hdd : 3 + 1 ≤ d) (hrm : (rest.map fun v => v.category).sum ≤ 8) (hd : decode cc pc = .ok (.invokevirtual idx, 3)) {r : Int32} (h : f_X12_follow o0 M = some r) : StpZ x nL pc lv (.ref (xb x + o0) :: rest) KDF M (pc + 3) lv (.int r :: rest) KDF M :=
  w_callV (st := []) (As := []) X hR hN (CtX0 Z (c_X12_follow hk0 h)) ⟨Nat.le_refl _, Nat.le_refl _⟩ ⟨Nat.le_refl _, Nat.le_refl _⟩ hk0 (ci := 12) (fs := fs_12 o0) (fun _ _ _ => rfl) rfl hw mw_1318 mw_1319 mw_72 mw_1320 (n := 0) (by decide +kernel) rfl hdd (by decide) hrm hd
