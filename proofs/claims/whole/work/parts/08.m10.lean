def b_X12_stand_32  (s32 : Int32 × Mm) : Option ((Int32 × Mm) ⊕ (Mm)) :=
  (if (6 : Int32) ≤ s32.1 then some (.inr s32.2) else Gd (ib ((17 : Int32) + s32.1) 23) (Lt (st2 s32.2 136 (ix ((17 : Int32) + s32.1)) (0 : Int32)) (fun M7 => Lt (s32.1 + (1 : Int32)) (fun v8 => some (.inl (v8, M7))))))
def f_X12_stand (o0 : Nat) (M : Mm) : Option (Int32 × Mm) :=
  (if (f_X12_isTower o0 M) = 0 then some ((-1000000003 : Int32), M) else Bd (f_X12_note o0 M) (fun r2 => Bd (f_X12_figuresOf o0 136 r2) (fun r3 => Bd (f_X12_toRounds 136 r2) (fun r4 => Bd (Lp (b_X12_stand_32) 100000 ((0 : Int32), r4)) (fun e9 => some (r3, e9))))))
set_option maxRecDepth 100000 in
set_option maxHeartbeats 4000000 in
theorem c_X12_stand {l : Launch} {D : va_G} {an : An} {b : Nat} {o0 : Nat} (hk0 : KDF[o0]? = some (12, 0)) {M : Mm} {r : Int32} {M' : Mm} (h : f_X12_stand o0 M = some (r, M')) : Ct l D an b 0 yX12_stand cX12_stand 3 (some .int) 3 [.ref (b + o0)] KDF M (some (.int r)) KDF M' := by
  refine CtX.mk (as := fun b => [.ref (b + o0)]) (rv := fun b => (some (.int r))) (by decide) (fun b => Nat.le_of_ble_eq_true rfl) ⟨Nat.le_refl _, Nat.le_refl _⟩ (fun x X hR Z hN _ _ => ?_)
  have X : Ok x cX12_stand 3 RX12 (some .int) := X
  have G : Gz x 3 0 [(0, .ref (xb x + o0))] [] KDF M (f_X12_stand o0 M) (PsI2 x KDF) := by
    unfold f_X12_stand
    refine g1 (pc' := 1) (w_aload_n X dX12_stand_0 rfl 0 rfl) ?_
    refine g1 (pc' := 4) (k_X12_isTower X hR hN Z hk0 mw_1160 (by decide) (Nat.le_of_ble_eq_true rfl) dX12_stand_1) ?_
    refine g_if (pcT := 7) (pcF := 10) (w_if_ne (tgt := 10) X dX12_stand_4 (by decide)) (fun h1 => ?_) (fun h1 => ?_)
    · refine g1 (pc' := 9) (w_ldc (v := -1000000003) X dX12_stand_7 mw_1164) ?_
      exact g_rI2 X dX12_stand_9
    · refine g1 (pc' := 11) (w_aload_n X dX12_stand_10 rfl 0 rfl) ?_
      refine g_bd (pc' := 14) (fun r2 => [(0, .ref (xb x + o0))]) (fun r2 => []) (fun r2 => r2) (fun r2 h => k_X12_note X hR hN Z hk0 mw_1194 (by decide) (Nat.le_of_ble_eq_true rfl) dX12_stand_11 h) (fun r2 => ?_)
      show Gz x 3 14 [(0, .ref (xb x + o0))] [] KDF r2 _ _
      refine g1 (pc' := 15) (w_aload_n X dX12_stand_14 rfl 0 rfl) ?_
      refine g1 (pc' := 16) (w_aload_n X dX12_stand_15 rfl 0 rfl) ?_
      refine g1 (pc' := 19) (gt_12_23 X hk0 mw_952 dX12_stand_16) ?_
      refine g_bd (pc' := 22) (fun r3 => [(0, .ref (xb x + o0))]) (fun r3 => [.int r3]) (fun r3 => r2) (fun r3 h => k_X12_figuresOf X hR hN Z hk0 (kln_of kd_136) mw_1128 (by decide) (Nat.le_of_ble_eq_true rfl) dX12_stand_19 h) (fun r3 => ?_)
      show Gz x 3 22 [(0, .ref (xb x + o0))] [.int r3] KDF r2 _ _
      refine g1 (pc' := 23) (lv' := [(1, .int r3), (0, .ref (xb x + o0))]) (w_istore_n X dX12_stand_22 rfl (by decide) rfl) ?_
      refine g1 (pc' := 24) (w_aload_n X dX12_stand_23 rfl 1 rfl) ?_
      refine g1 (pc' := 27) (gt_12_23 X hk0 mw_952 dX12_stand_24) ?_
      refine g_bd (pc' := 30) (fun r4 => [(1, .int r3), (0, .ref (xb x + o0))]) (fun r4 => []) (fun r4 => r4) (fun r4 h => k_X12_toRounds X hR hN Z (kln_of kd_136) mw_1117 (by decide) (Nat.le_of_ble_eq_true rfl) dX12_stand_27 h) (fun r4 => ?_)
      show Gz x 3 30 [(1, .int r3), (0, .ref (xb x + o0))] [] KDF r4 _ _
      refine g1 (pc' := 31) (w_iconst X (0) dX12_stand_30 (by decide)) ?_
      refine g1 (pc' := 32) (lv' := [(2, .int (0 : Int32)), (1, .int r3), (0, .ref (xb x + o0))]) (w_istore_n X dX12_stand_31 rfl (by decide) rfl) ?_
      refine g_pick (lv' := [(0, .ref (xb x + o0)), (1, .int r3), (2, .int (0 : Int32))]) [2, 1, 0] rfl ?_
      refine g_bdJ (J := 54) (fun e9 => [(1, .int r3)]) (fun e9 => []) (fun e9 => e9) (g_lp (fun s32 => [(0, .ref (xb x + o0)), (1, .int r3), (2, .int s32.1)]) (fun s32 => s32.2) (fun s32 => ?_) 100000 ((0 : Int32), r4)) (fun e9 => ?_)
      · show Gz x 3 32 [(0, .ref (xb x + o0)), (1, .int r3), (2, .int s32.1)] [] KDF s32.2 (b_X12_stand_32 s32) _
        unfold b_X12_stand_32
        refine g1 (pc' := 33) (w_iload_n X dX12_stand_32 rfl 2 rfl) ?_
        refine g1 (pc' := 35) (w_bipush X (6) dX12_stand_33 (by decide)) ?_
        refine g_if (pcT := 54) (pcF := 38) (w_icmp_ge (tgt := 54) X dX12_stand_35 (by decide)) (fun h5 => ?_) (fun h5 => ?_)
        · refine g_inr ?_
          exact g_end [1] rfl rfl rfl
        · refine g1 (pc' := 39) (w_aload_n X dX12_stand_38 rfl 0 rfl) ?_
          refine g1 (pc' := 42) (gt_12_23 X hk0 mw_952 dX12_stand_39) ?_
          refine g1 (pc' := 44) (w_bipush X (17) dX12_stand_42 (by decide)) ?_
          refine g1 (pc' := 45) (w_iload_n X dX12_stand_44 rfl 2 rfl) ?_
          refine g1 (pc' := 46) (w_iadd X dX12_stand_45) ?_
          refine g1 (pc' := 47) (w_iconst X (0) dX12_stand_46 (by decide)) ?_
          refine g_gd (fun h6 => ?_)
          refine g_lt (pc' := 48) (fun M7 => [(0, .ref (xb x + o0)), (1, .int r3), (2, .int s32.1)]) (fun M7 => []) (fun M7 => M7) (w_iast X Z kd_136 h6 dX12_stand_47) (fun M7 => ?_)
          show Gz x 3 48 [(0, .ref (xb x + o0)), (1, .int r3), (2, .int s32.1)] [] KDF M7 _ _
          refine g_lt (pc' := 51) (fun v8 => [(2, .int v8), (0, .ref (xb x + o0)), (1, .int r3)]) (fun v8 => []) (fun v8 => M7) (w_iinc X dX12_stand_48 2 rfl rfl (by decide) rfl) (fun v8 => ?_)
          show Gz x 3 51 [(2, .int v8), (0, .ref (xb x + o0)), (1, .int r3)] [] KDF M7 _ _
          refine g1 (pc' := 32) (w_goto X dX12_stand_51 (by decide)) ?_
          refine g_inl ?_
          exact g_end [1, 2, 0] rfl rfl rfl
      · show Gz x 3 54 [(1, .int r3)] [] KDF e9 _ _
        refine g1 (pc' := 55) (w_iload_n X dX12_stand_54 rfl 0 rfl) ?_
        exact g_rI2 X dX12_stand_55
  exact G _ h _ rfl
theorem k_X12_stand {x : Cxt} {cc : ByteArray} {nL : Nat} {own : String} {ret : Option FieldType} (X : Ok x cc nL own ret) {d : Nat} (hR : Rm x d KDF) (hN : Nst x) (Z : xz x = 0) {pc : Nat} {lv : List (Nat × Value)} {rest : List Value} {M : Mm} {o0 : Nat} (hk0 : KDF[o0]? = some (12, 0)) {idx : Nat} (hw : Cond.methodLink own idx yX12_stand ∈ tbG) (hdd : 3 + 1 ≤ d) (hrm : (rest.map fun v => v.category).sum ≤ 8) (hd : decode cc pc = .ok (.invokevirtual idx, 3)) {r : Int32} {M' : Mm} (h : f_X12_stand o0 M = some (r, M')) : StpZ x nL pc lv (.ref (xb x + o0) :: rest) KDF M (pc + 3) lv (.int r :: rest) KDF M' :=
  w_callV (st := []) (As := []) X hR hN (CtX0 Z (c_X12_stand hk0 h)) ⟨Nat.le_refl _, Nat.le_refl _⟩ ⟨Nat.le_refl _, Nat.le_refl _⟩ hk0 (ci := 12) (fs := fs_12 o0) (fun _ _ _ => rfl) rfl hw mw_1218 mw_1219 mw_72 mw_1220 (n := 0) (by decide +kernel) rfl hdd (by decide) hrm hd
def f_X12_wet (o0 : Nat) (x1 : Int32) (M : Mm) : Option (Int32 × Mm) :=
  (if (f_X12_isTower o0 M) = 0 then some ((-1000000003 : Int32), M) else Bd (f_X12_note o0 M) (fun r2 => Lt (r2 136 (ix (3 : Int32))) (fun v3 => Lt (((if x1 = 0 then (0 : Int32) else (1 : Int32))) : Int32) (fun j4 => Lt (st2 r2 136 (ix (3 : Int32)) j4) (fun M6 => some (v3, M6))))))
set_option maxRecDepth 100000 in
set_option maxHeartbeats 4000000 in
theorem c_X12_wet {l : Launch} {D : va_G} {an : An} {b : Nat} {o0 : Nat} {x1 : Int32} (hk0 : KDF[o0]? = some (12, 0)) {M : Mm} {r : Int32} {M' : Mm} (h : f_X12_wet o0 x1 M = some (r, M')) : Ct l D an b 0 yX12_wet cX12_wet 3 (some .int) 3 [.ref (b + o0), .int x1] KDF M (some (.int r)) KDF M' := by
  refine CtX.mk (as := fun b => [.ref (b + o0), .int x1]) (rv := fun b => (some (.int r))) (by decide) (fun b => Nat.le_of_ble_eq_true rfl) ⟨Nat.le_refl _, Nat.le_refl _⟩ (fun x X hR Z hN _ _ => ?_)
  have X : Ok x cX12_wet 3 RX12 (some .int) := X
  have G : Gz x 3 0 [(0, .ref (xb x + o0)), (1, .int x1)] [] KDF M (f_X12_wet o0 x1 M) (PsI2 x KDF) := by
    unfold f_X12_wet
    refine g1 (pc' := 1) (w_aload_n X dX12_wet_0 rfl 0 rfl) ?_
    refine g1 (pc' := 4) (k_X12_isTower X hR hN Z hk0 mw_1160 (by decide) (Nat.le_of_ble_eq_true rfl) dX12_wet_1) ?_
    refine g_if (pcT := 7) (pcF := 10) (w_if_ne (tgt := 10) X dX12_wet_4 (by decide)) (fun h1 => ?_) (fun h1 => ?_)
    · refine g1 (pc' := 9) (w_ldc (v := -1000000003) X dX12_wet_7 mw_1164) ?_
      exact g_rI2 X dX12_wet_9
    · refine g1 (pc' := 11) (w_aload_n X dX12_wet_10 rfl 0 rfl) ?_
      refine g_bd (pc' := 14) (fun r2 => [(0, .ref (xb x + o0)), (1, .int x1)]) (fun r2 => []) (fun r2 => r2) (fun r2 h => k_X12_note X hR hN Z hk0 mw_1194 (by decide) (Nat.le_of_ble_eq_true rfl) dX12_wet_11 h) (fun r2 => ?_)
      show Gz x 3 14 [(0, .ref (xb x + o0)), (1, .int x1)] [] KDF r2 _ _
      refine g1 (pc' := 15) (w_aload_n X dX12_wet_14 rfl 0 rfl) ?_
      refine g1 (pc' := 18) (gt_12_23 X hk0 mw_952 dX12_wet_15) ?_
      refine g1 (pc' := 19) (w_iconst X (3) dX12_wet_18 (by decide)) ?_
      refine g1 (pc' := 20) (w_iald X kd_136 (ib_lit (by decide)) dX12_wet_19) ?_
      refine g_lt (pc' := 21) (fun v3 => [(2, .int v3), (0, .ref (xb x + o0)), (1, .int x1)]) (fun v3 => []) (fun v3 => r2) (w_istore_n X dX12_wet_20 rfl (by decide) rfl) (fun v3 => ?_)
      show Gz x 3 21 [(2, .int v3), (0, .ref (xb x + o0)), (1, .int x1)] [] KDF r2 _ _
      refine g1 (pc' := 22) (w_aload_n X dX12_wet_21 rfl 1 rfl) ?_
      refine g1 (pc' := 25) (gt_12_23 X hk0 mw_952 dX12_wet_22) ?_
      refine g1 (pc' := 26) (w_iconst X (3) dX12_wet_25 (by decide)) ?_
      refine g1 (pc' := 27) (w_iload_n X dX12_wet_26 rfl 2 rfl) ?_
      refine g_ltJ (J := 35) (fun j4 => [(2, .int v3)]) (fun j4 => [.int j4, .int (3 : Int32), .ref (xb x + 136)]) (fun j4 => r2) ?_ (fun j4 => ?_)
      · refine g_ifS (pcT := 34) (pcF := 30) (w_if_eq (tgt := 34) X dX12_wet_27 (by decide)) (fun h5 => ?_) (fun h5 => ?_)
        · refine g1 (pc' := 35) (w_iconst X (0) dX12_wet_34 (by decide)) ?_
          exact g_end [0] rfl rfl rfl
        · refine g1 (pc' := 31) (w_iconst X (1) dX12_wet_30 (by decide)) ?_
          refine g1 (pc' := 35) (w_goto X dX12_wet_31 (by decide)) ?_
          exact g_end [0] rfl rfl rfl
      · show Gz x 3 35 [(2, .int v3)] [.int j4, .int (3 : Int32), .ref (xb x + 136)] KDF r2 _ _
        refine g_lt (pc' := 36) (fun M6 => [(2, .int v3)]) (fun M6 => []) (fun M6 => M6) (w_iast X Z kd_136 (ib_lit (by decide)) dX12_wet_35) (fun M6 => ?_)
        show Gz x 3 36 [(2, .int v3)] [] KDF M6 _ _
        refine g1 (pc' := 37) (w_iload_n X dX12_wet_36 rfl 0 rfl) ?_
        exact g_rI2 X dX12_wet_37
  exact G _ h _ rfl
theorem k_X12_wet {x : Cxt} {cc : ByteArray} {nL : Nat} {own : String} {ret : Option FieldType} (X : Ok x cc nL own ret) {d : Nat} (hR : Rm x d KDF) (hN : Nst x) (Z : xz x = 0) {pc : Nat} {lv : List (Nat × Value)} {rest : List Value} {M : Mm} {o0 : Nat} {x1 : Int32} (hk0 : KDF[o0]? = some (12, 0)) {idx : Nat} (hw : Cond.methodLink own idx yX12_wet ∈ tbG) (hdd : 3 + 1 ≤ d) (hrm : (rest.map fun v => v.category).sum ≤ 8) (hd : decode cc pc = .ok (.invokevirtual idx, 3)) {r : Int32} {M' : Mm} (h : f_X12_wet o0 x1 M = some (r, M')) : StpZ x nL pc lv (.int x1 :: .ref (xb x + o0) :: rest) KDF M (pc + 3) lv (.int r :: rest) KDF M' :=
  w_callV (st := []) (As := [.int x1]) X hR hN (CtX0 Z (c_X12_wet hk0 h)) ⟨Nat.le_refl _, Nat.le_refl _⟩ ⟨Nat.le_refl _, Nat.le_refl _⟩ hk0 (ci := 12) (fs := fs_12 o0) (fun _ _ _ => rfl) rfl hw mw_1222 mw_1223 mw_72 mw_1224 (n := 1) (by decide +kernel) rfl hdd (by decide) hrm hd
def f_X12_forgive (o0 : Nat) (x1 : Int32) (M : Mm) : Option (Int32 × Mm) :=
  (if (f_X12_isSuitor o0 x1 M) = 0 then some ((-1000000001 : Int32), M) else (if (f_X12_has (M 136 (ix (4 : Int32))) x1) = 0 then some ((-1000000003 : Int32), M) else Bd (f_X12_note o0 M) (fun r3 => Lt (st2 r3 136 (ix (4 : Int32)) ((r3 136 (ix (4 : Int32))) &&& ((sl (1 : Int32) x1) ^^^ (-1 : Int32)))) (fun M4 => some ((M4 136 (ix (4 : Int32))), M4)))))
set_option maxRecDepth 100000 in
set_option maxHeartbeats 4000000 in
theorem c_X12_forgive {l : Launch} {D : va_G} {an : An} {b : Nat} {o0 : Nat} {x1 : Int32} (hk0 : KDF[o0]? = some (12, 0)) {M : Mm} {r : Int32} {M' : Mm} (h : f_X12_forgive o0 x1 M = some (r, M')) : Ct l D an b 0 yX12_forgive cX12_forgive 2 (some .int) 3 [.ref (b + o0), .int x1] KDF M (some (.int r)) KDF M' := by
  refine CtX.mk (as := fun b => [.ref (b + o0), .int x1]) (rv := fun b => (some (.int r))) (by decide) (fun b => Nat.le_of_ble_eq_true rfl) ⟨Nat.le_refl _, Nat.le_refl _⟩ (fun x X hR Z hN _ _ => ?_)
  have X : Ok x cX12_forgive 2 RX12 (some .int) := X
  have G : Gz x 2 0 [(0, .ref (xb x + o0)), (1, .int x1)] [] KDF M (f_X12_forgive o0 x1 M) (PsI2 x KDF) := by
    unfold f_X12_forgive
    refine g1 (pc' := 1) (w_aload_n X dX12_forgive_0 rfl 0 rfl) ?_
    refine g1 (pc' := 2) (w_iload_n X dX12_forgive_1 rfl 1 rfl) ?_
    refine g1 (pc' := 5) (k_X12_isSuitor X hR hN Z hk0 mw_1182 (by decide) (Nat.le_of_ble_eq_true rfl) dX12_forgive_2) ?_
    refine g_if (pcT := 8) (pcF := 11) (w_if_ne (tgt := 11) X dX12_forgive_5 (by decide)) (fun h1 => ?_) (fun h1 => ?_)
    · refine g1 (pc' := 10) (w_ldc (v := -1000000001) X dX12_forgive_8 mw_1173) ?_
      exact g_rI2 X dX12_forgive_10
    · refine g1 (pc' := 12) (w_aload_n X dX12_forgive_11 rfl 0 rfl) ?_
      refine g1 (pc' := 15) (gt_12_23 X hk0 mw_952 dX12_forgive_12) ?_
      refine g1 (pc' := 16) (w_iconst X (4) dX12_forgive_15 (by decide)) ?_
      refine g1 (pc' := 17) (w_iald X kd_136 (ib_lit (by decide)) dX12_forgive_16) ?_
      refine g1 (pc' := 18) (w_iload_n X dX12_forgive_17 rfl 1 rfl) ?_
      refine g1 (pc' := 21) (k_X12_has X hR hN Z  mw_1099 (by decide) (Nat.le_of_ble_eq_true rfl) dX12_forgive_18) ?_
      refine g_if (pcT := 24) (pcF := 27) (w_if_ne (tgt := 27) X dX12_forgive_21 (by decide)) (fun h2 => ?_) (fun h2 => ?_)
      · refine g1 (pc' := 26) (w_ldc (v := -1000000003) X dX12_forgive_24 mw_1164) ?_
        exact g_rI2 X dX12_forgive_26
      · refine g1 (pc' := 28) (w_aload_n X dX12_forgive_27 rfl 0 rfl) ?_
        refine g_bd (pc' := 31) (fun r3 => [(0, .ref (xb x + o0)), (1, .int x1)]) (fun r3 => []) (fun r3 => r3) (fun r3 h => k_X12_note X hR hN Z hk0 mw_1194 (by decide) (Nat.le_of_ble_eq_true rfl) dX12_forgive_28 h) (fun r3 => ?_)
        show Gz x 2 31 [(0, .ref (xb x + o0)), (1, .int x1)] [] KDF r3 _ _
        refine g1 (pc' := 32) (w_aload_n X dX12_forgive_31 rfl 0 rfl) ?_
        refine g1 (pc' := 35) (gt_12_23 X hk0 mw_952 dX12_forgive_32) ?_
        refine g1 (pc' := 36) (w_iconst X (4) dX12_forgive_35 (by decide)) ?_
        refine g1 (pc' := 37) (w_aload_n X dX12_forgive_36 rfl 0 rfl) ?_
        refine g1 (pc' := 40) (gt_12_23 X hk0 mw_952 dX12_forgive_37) ?_
        refine g1 (pc' := 41) (w_iconst X (4) dX12_forgive_40 (by decide)) ?_
        refine g1 (pc' := 42) (w_iald X kd_136 (ib_lit (by decide)) dX12_forgive_41) ?_
        refine g1 (pc' := 43) (w_iconst X (1) dX12_forgive_42 (by decide)) ?_
        refine g1 (pc' := 44) (w_iload_n X dX12_forgive_43 rfl 1 rfl) ?_
        refine g1 (pc' := 45) (w_ishl X dX12_forgive_44) ?_
        refine g1 (pc' := 46) (w_iconst X (-1) dX12_forgive_45 (by decide)) ?_
        refine g1 (pc' := 47) (w_ixor X dX12_forgive_46) ?_
        refine g1 (pc' := 48) (w_iand X dX12_forgive_47) ?_
        refine g_lt (pc' := 49) (fun M4 => [(0, .ref (xb x + o0)), (1, .int x1)]) (fun M4 => []) (fun M4 => M4) (w_iast X Z kd_136 (ib_lit (by decide)) dX12_forgive_48) (fun M4 => ?_)
        show Gz x 2 49 [(0, .ref (xb x + o0)), (1, .int x1)] [] KDF M4 _ _
        refine g1 (pc' := 50) (w_aload_n X dX12_forgive_49 rfl 0 rfl) ?_
        refine g1 (pc' := 53) (gt_12_23 X hk0 mw_952 dX12_forgive_50) ?_
        refine g1 (pc' := 54) (w_iconst X (4) dX12_forgive_53 (by decide)) ?_
        refine g1 (pc' := 55) (w_iald X kd_136 (ib_lit (by decide)) dX12_forgive_54) ?_
        exact g_rI2 X dX12_forgive_55
  exact G _ h _ rfl
theorem k_X12_forgive {x : Cxt} {cc : ByteArray} {nL : Nat} {own : String} {ret : Option FieldType} (X : Ok x cc nL own ret) {d : Nat} (hR : Rm x d KDF) (hN : Nst x) (Z : xz x = 0) {pc : Nat} {lv : List (Nat × Value)} {rest : List Value} {M : Mm} {o0 : Nat} {x1 : Int32} (hk0 : KDF[o0]? = some (12, 0)) {idx : Nat} (hw : Cond.methodLink own idx yX12_forgive ∈ tbG) (hdd : 3 + 1 ≤ d) (hrm : (rest.map fun v => v.category).sum ≤ 8) (hd : decode cc pc = .ok (.invokevirtual idx, 3)) {r : Int32} {M' : Mm} (h : f_X12_forgive o0 x1 M = some (r, M')) : StpZ x nL pc lv (.int x1 :: .ref (xb x + o0) :: rest) KDF M (pc + 3) lv (.int r :: rest) KDF M' :=
  w_callV (st := []) (As := [.int x1]) X hR hN (CtX0 Z (c_X12_forgive hk0 h)) ⟨Nat.le_refl _, Nat.le_refl _⟩ ⟨Nat.le_refl _, Nat.le_refl _⟩ hk0 (ci := 12) (fs := fs_12 o0) (fun _ _ _ => rfl) rfl hw mw_1226 mw_1227 mw_72 mw_1228 (n := 1) (by decide +kernel) rfl hdd (by decide) hrm hd
def f_X12_draw (o0 : Nat) (x1 : Int32) (M : Mm) : Option (Int32 × Mm) :=
  Lt (st2 M o0 30 (Int64.toInt32 (rmL (((Int32.toInt64 (M o0 30)) * (1103515245 : Int64)) + (12345 : Int64)) (2147483648 : Int64)))) (fun M1 => Gd (¬ x1 = 0) (some ((rm ((M1 o0 30) / (65536 : Int32)) x1), M1)))
set_option maxRecDepth 100000 in
set_option maxHeartbeats 4000000 in
theorem c_X12_draw {l : Launch} {D : va_G} {an : An} {b : Nat} {o0 : Nat} {x1 : Int32} (hk0 : KDF[o0]? = some (12, 0)) {M : Mm} {r : Int32} {M' : Mm} (h : f_X12_draw o0 x1 M = some (r, M')) : Ct l D an b 0 yX12_draw cX12_draw 2 (some .int) 1 [.ref (b + o0), .int x1] KDF M (some (.int r)) KDF M' := by
  refine CtX.mk (as := fun b => [.ref (b + o0), .int x1]) (rv := fun b => (some (.int r))) (by decide) (fun b => Nat.le_of_ble_eq_true rfl) ⟨Nat.le_refl _, Nat.le_refl _⟩ (fun x X hR Z hN _ _ => ?_)
  have X : Ok x cX12_draw 2 RX12 (some .int) := X
  have G : Gz x 2 0 [(0, .ref (xb x + o0)), (1, .int x1)] [] KDF M (f_X12_draw o0 x1 M) (PsI2 x KDF) := by
    unfold f_X12_draw
    refine g1 (pc' := 1) (w_aload_n X dX12_draw_0 rfl 0 rfl) ?_
    refine g1 (pc' := 2) (w_aload_n X dX12_draw_1 rfl 0 rfl) ?_
    refine g1 (pc' := 5) (gt_12_30 X hk0 mw_959 dX12_draw_2) ?_
    refine g1 (pc' := 6) (w_i2l X dX12_draw_5) ?_
    refine g1 (pc' := 9) (w_ldc2 (v := 1103515245) X dX12_draw_6 mw_1241) ?_
    refine g1 (pc' := 10) (w_lmul X dX12_draw_9) ?_
    refine g1 (pc' := 13) (w_ldc2 (v := 12345) X dX12_draw_10 mw_1242) ?_
    refine g1 (pc' := 14) (w_ladd X dX12_draw_13) ?_
    refine g1 (pc' := 17) (w_ldc2 (v := 2147483648) X dX12_draw_14 mw_1243) ?_
    refine g1 (pc' := 18) (w_lrem X dX12_draw_17 (by decide)) ?_
    refine g1 (pc' := 19) (w_l2i X dX12_draw_18) ?_
    refine g_lt (pc' := 22) (fun M1 => [(0, .ref (xb x + o0)), (1, .int x1)]) (fun M1 => []) (fun M1 => M1) (pt_12_30 X Z hk0 mw_959 dX12_draw_19) (fun M1 => ?_)
    show Gz x 2 22 [(0, .ref (xb x + o0)), (1, .int x1)] [] KDF M1 _ _
    refine g1 (pc' := 23) (w_aload_n X dX12_draw_22 rfl 0 rfl) ?_
    refine g1 (pc' := 26) (gt_12_30 X hk0 mw_959 dX12_draw_23) ?_
    refine g1 (pc' := 28) (w_ldc (v := 65536) X dX12_draw_26 mw_1244) ?_
    refine g1 (pc' := 29) (w_idiv X dX12_draw_28 (by decide)) ?_
    refine g1 (pc' := 30) (w_iload_n X dX12_draw_29 rfl 1 rfl) ?_
    refine g_gd (fun h2 => ?_)
    refine g1 (pc' := 31) (w_irem X dX12_draw_30 h2) ?_
    exact g_rI2 X dX12_draw_31
  exact G _ h _ rfl
theorem k_X12_draw {x : Cxt} {cc : ByteArray} {nL : Nat} {own : String} {ret : Option FieldType} (X : Ok x cc nL own ret) {d : Nat} (hR : Rm x d KDF) (hN : Nst x) (Z : xz x = 0) {pc : Nat} {lv : List (Nat × Value)} {rest : List Value} {M : Mm} {o0 : Nat} {x1 : Int32} (hk0 : KDF[o0]? = some (12, 0)) {idx : Nat} (hw : Cond.methodLink own idx yX12_draw ∈ tbG) (hdd : 1 + 1 ≤ d) (hrm : (rest.map fun v => v.category).sum ≤ 8) (hd : decode cc pc = .ok (.invokevirtual idx, 3)) {r : Int32} {M' : Mm} (h : f_X12_draw o0 x1 M = some (r, M')) : StpZ x nL pc lv (.int x1 :: .ref (xb x + o0) :: rest) KDF M (pc + 3) lv (.int r :: rest) KDF M' :=
  w_callV (st := []) (As := [.int x1]) X hR hN (CtX0 Z (c_X12_draw hk0 h)) ⟨Nat.le_refl _, Nat.le_refl _⟩ ⟨Nat.le_refl _, Nat.le_refl _⟩ hk0 (ci := 12) (fs := fs_12 o0) (fun _ _ _ => rfl) rfl hw mw_1239 mw_50 mw_72 mw_1240 (n := 1) (by decide +kernel) rfl hdd (by decide) hrm hd
def f_X12_chance (o0 : Nat) (M : Mm) : Option (Mm) :=
  Bd (f_X12_draw o0 (8 : Int32) M) (fun r1 => Bd (((if r1.1 = 0 then Lt (st2 r1.2 136 (ix (2 : Int32)) (1 : Int32)) (fun M5 => some M5) else some r1.2)) : Option (Mm)) (fun j3 => Bd (((if r1.1 = (1 : Int32) then Lt (st2 j3 136 (ix (3 : Int32)) ((1 : Int32) - (j3 136 (ix (3 : Int32))))) (fun M9 => some M9) else some j3)) : Option (Mm)) (fun j7 => (if r1.1 = (2 : Int32) then (if (j7 o0 18) ≤ 0 then some j7 else Bd (f_X12_draw o0 (j7 o0 18) j7) (fun r12 => Bd (f_X12_draw o0 (r12.2 o0 18) r12.2) (fun r13 => (if r12.1 = r13.1 then some r13.2 else Bd (f_X12_swaps 136 r12.1 r13.1 r13.2) (fun r15 => some r15))))) else some j7))))
set_option maxRecDepth 100000 in
set_option maxHeartbeats 4000000 in
theorem c_X12_chance {l : Launch} {D : va_G} {an : An} {b : Nat} {o0 : Nat} (hk0 : KDF[o0]? = some (12, 0)) {M : Mm} {M' : Mm} (h : f_X12_chance o0 M = some M') : Ct l D an b 0 yX12_chance cX12_chance 4 none 2 [.ref (b + o0)] KDF M none KDF M' := by
  refine CtX.mk (as := fun b => [.ref (b + o0)]) (rv := fun b => none) (by decide) (fun b => Nat.le_of_ble_eq_true rfl) ⟨Nat.le_refl _, Nat.le_refl _⟩ (fun x X hR Z hN _ _ => ?_)
  have X : Ok x cX12_chance 4 RX12 none := X
  have G : Gz x 4 0 [(0, .ref (xb x + o0))] [] KDF M (f_X12_chance o0 M) (PsM x KDF) := by
    unfold f_X12_chance
    refine g1 (pc' := 1) (w_aload_n X dX12_chance_0 rfl 0 rfl) ?_
    refine g1 (pc' := 3) (w_bipush X (8) dX12_chance_1 (by decide)) ?_
    refine g_bd (pc' := 6) (fun r1 => [(0, .ref (xb x + o0))]) (fun r1 => [.int r1.1]) (fun r1 => r1.2) (fun r1 h => k_X12_draw X hR hN Z hk0 mw_1237 (by decide) (Nat.le_of_ble_eq_true rfl) dX12_chance_3 h) (fun r1 => ?_)
    show Gz x 4 6 [(0, .ref (xb x + o0))] [.int r1.1] KDF r1.2 _ _
    refine g1 (pc' := 7) (lv' := [(1, .int r1.1), (0, .ref (xb x + o0))]) (w_istore_n X dX12_chance_6 rfl (by decide) rfl) ?_
    refine g1 (pc' := 8) (w_iload_n X dX12_chance_7 rfl 0 rfl) ?_
    refine g_bdJ (J := 18) (fun j3 => [(0, .ref (xb x + o0)), (1, .int r1.1)]) (fun j3 => []) (fun j3 => j3) ?_ (fun j3 => ?_)
    · refine g_if (pcT := 11) (pcF := 18) (w_if_ne (tgt := 18) X dX12_chance_8 (by decide)) (fun h4 => ?_) (fun h4 => ?_)
      · refine g1 (pc' := 12) (w_aload_n X dX12_chance_11 rfl 1 rfl) ?_
        refine g1 (pc' := 15) (gt_12_23 X hk0 mw_952 dX12_chance_12) ?_
        refine g1 (pc' := 16) (w_iconst X (2) dX12_chance_15 (by decide)) ?_
        refine g1 (pc' := 17) (w_iconst X (1) dX12_chance_16 (by decide)) ?_
        refine g_lt (pc' := 18) (fun M5 => [(1, .int r1.1), (0, .ref (xb x + o0))]) (fun M5 => []) (fun M5 => M5) (w_iast X Z kd_136 (ib_lit (by decide)) dX12_chance_17) (fun M5 => ?_)
        show Gz x 4 18 [(1, .int r1.1), (0, .ref (xb x + o0))] [] KDF M5 _ _
        exact g_end [1, 0] rfl rfl rfl
      · exact g_end [1, 0] rfl rfl rfl
    · show Gz x 4 18 [(0, .ref (xb x + o0)), (1, .int r1.1)] [] KDF j3 _ _
      refine g1 (pc' := 19) (w_iload_n X dX12_chance_18 rfl 1 rfl) ?_
      refine g1 (pc' := 20) (w_iconst X (1) dX12_chance_19 (by decide)) ?_
      refine g_bdJ (J := 37) (fun j7 => [(0, .ref (xb x + o0)), (1, .int r1.1)]) (fun j7 => []) (fun j7 => j7) ?_ (fun j7 => ?_)
      · refine g_if (pcT := 23) (pcF := 37) (w_icmp_ne (tgt := 37) X dX12_chance_20 (by decide)) (fun h8 => ?_) (fun h8 => ?_)
        · refine g1 (pc' := 24) (w_aload_n X dX12_chance_23 rfl 0 rfl) ?_
          refine g1 (pc' := 27) (gt_12_23 X hk0 mw_952 dX12_chance_24) ?_
          refine g1 (pc' := 28) (w_iconst X (3) dX12_chance_27 (by decide)) ?_
          refine g1 (pc' := 29) (w_iconst X (1) dX12_chance_28 (by decide)) ?_
          refine g1 (pc' := 30) (w_aload_n X dX12_chance_29 rfl 0 rfl) ?_
          refine g1 (pc' := 33) (gt_12_23 X hk0 mw_952 dX12_chance_30) ?_
          refine g1 (pc' := 34) (w_iconst X (3) dX12_chance_33 (by decide)) ?_
          refine g1 (pc' := 35) (w_iald X kd_136 (ib_lit (by decide)) dX12_chance_34) ?_
          refine g1 (pc' := 36) (w_isub X dX12_chance_35) ?_
          refine g_lt (pc' := 37) (fun M9 => [(0, .ref (xb x + o0)), (1, .int r1.1)]) (fun M9 => []) (fun M9 => M9) (w_iast X Z kd_136 (ib_lit (by decide)) dX12_chance_36) (fun M9 => ?_)
          show Gz x 4 37 [(0, .ref (xb x + o0)), (1, .int r1.1)] [] KDF M9 _ _
          exact g_end [0, 1] rfl rfl rfl
        · exact g_end [0, 1] rfl rfl rfl
      · show Gz x 4 37 [(0, .ref (xb x + o0)), (1, .int r1.1)] [] KDF j7 _ _
        refine g1 (pc' := 38) (w_iload_n X dX12_chance_37 rfl 1 rfl) ?_
        refine g1 (pc' := 39) (w_iconst X (2) dX12_chance_38 (by decide)) ?_
        refine g_if (pcT := 42) (pcF := 81) (w_icmp_ne (tgt := 81) X dX12_chance_39 (by decide)) (fun h10 => ?_) (fun h10 => ?_)
        · refine g1 (pc' := 43) (w_aload_n X dX12_chance_42 rfl 0 rfl) ?_
          refine g1 (pc' := 46) (gt_12_18 X hk0 mw_947 dX12_chance_43) ?_
          refine g_if (pcT := 81) (pcF := 49) (w_if_le (tgt := 81) X dX12_chance_46 (by decide)) (fun h11 => ?_) (fun h11 => ?_)
          · exact g_rM X dX12_chance_81
          · refine g1 (pc' := 50) (w_aload_n X dX12_chance_49 rfl 0 rfl) ?_
            refine g1 (pc' := 51) (w_aload_n X dX12_chance_50 rfl 0 rfl) ?_
            refine g1 (pc' := 54) (gt_12_18 X hk0 mw_947 dX12_chance_51) ?_
            refine g_bd (pc' := 57) (fun r12 => [(0, .ref (xb x + o0)), (1, .int r1.1)]) (fun r12 => [.int r12.1]) (fun r12 => r12.2) (fun r12 h => k_X12_draw X hR hN Z hk0 mw_1237 (by decide) (Nat.le_of_ble_eq_true rfl) dX12_chance_54 h) (fun r12 => ?_)
            show Gz x 4 57 [(0, .ref (xb x + o0)), (1, .int r1.1)] [.int r12.1] KDF r12.2 _ _
            refine g1 (pc' := 58) (lv' := [(2, .int r12.1), (0, .ref (xb x + o0)), (1, .int r1.1)]) (w_istore_n X dX12_chance_57 rfl (by decide) rfl) ?_
            refine g1 (pc' := 59) (w_aload_n X dX12_chance_58 rfl 1 rfl) ?_
            refine g1 (pc' := 60) (w_aload_n X dX12_chance_59 rfl 1 rfl) ?_
            refine g1 (pc' := 63) (gt_12_18 X hk0 mw_947 dX12_chance_60) ?_
            refine g_bd (pc' := 66) (fun r13 => [(2, .int r12.1), (0, .ref (xb x + o0)), (1, .int r1.1)]) (fun r13 => [.int r13.1]) (fun r13 => r13.2) (fun r13 h => k_X12_draw X hR hN Z hk0 mw_1237 (by decide) (Nat.le_of_ble_eq_true rfl) dX12_chance_63 h) (fun r13 => ?_)
            show Gz x 4 66 [(2, .int r12.1), (0, .ref (xb x + o0)), (1, .int r1.1)] [.int r13.1] KDF r13.2 _ _
            refine g1 (pc' := 67) (lv' := [(3, .int r13.1), (2, .int r12.1), (0, .ref (xb x + o0)), (1, .int r1.1)]) (w_istore_n X dX12_chance_66 rfl (by decide) rfl) ?_
            refine g1 (pc' := 68) (w_iload_n X dX12_chance_67 rfl 1 rfl) ?_
            refine g1 (pc' := 69) (w_iload_n X dX12_chance_68 rfl 0 rfl) ?_
            refine g_if (pcT := 81) (pcF := 72) (w_icmp_eq (tgt := 81) X dX12_chance_69 (by decide)) (fun h14 => ?_) (fun h14 => ?_)
            · exact g_rM X dX12_chance_81
            · refine g1 (pc' := 73) (w_aload_n X dX12_chance_72 rfl 2 rfl) ?_
              refine g1 (pc' := 76) (gt_12_23 X hk0 mw_952 dX12_chance_73) ?_
              refine g1 (pc' := 77) (w_iload_n X dX12_chance_76 rfl 1 rfl) ?_
              refine g1 (pc' := 78) (w_iload_n X dX12_chance_77 rfl 0 rfl) ?_
              refine g_bd (pc' := 81) (fun r15 => [(3, .int r13.1), (2, .int r12.1), (0, .ref (xb x + o0)), (1, .int r1.1)]) (fun r15 => []) (fun r15 => r15) (fun r15 h => k_X12_swaps X hR hN Z (kln_of kd_136) mw_1214 (by decide) (Nat.le_of_ble_eq_true rfl) dX12_chance_78 h) (fun r15 => ?_)
              show Gz x 4 81 [(3, .int r13.1), (2, .int r12.1), (0, .ref (xb x + o0)), (1, .int r1.1)] [] KDF r15 _ _
              exact g_rM X dX12_chance_81
        · exact g_rM X dX12_chance_81
  exact G _ h _ rfl
theorem k_X12_chance {x : Cxt} {cc : ByteArray} {nL : Nat} {own : String} {ret : Option FieldType} (X : Ok x cc nL own ret) {d : Nat} (hR : Rm x d KDF) (hN : Nst x) (Z : xz x = 0) {pc : Nat} {lv : List (Nat × Value)} {rest : List Value} {M : Mm} {o0 : Nat} (hk0 : KDF[o0]? = some (12, 0)) {idx : Nat} (hw : Cond.methodLink own idx yX12_chance ∈ tbG) (hdd : 2 + 1 ≤ d) (hrm : (rest.map fun v => v.category).sum ≤ 8) (hd : decode cc pc = .ok (.invokevirtual idx, 3)) {M' : Mm} (h : f_X12_chance o0 M = some M') : StpZ x nL pc lv (.ref (xb x + o0) :: rest) KDF M (pc + 3) lv (rest) KDF M' :=
  w_callV (st := []) (As := []) X hR hN (CtX0 Z (c_X12_chance hk0 h)) ⟨Nat.le_refl _, Nat.le_refl _⟩ ⟨Nat.le_refl _, Nat.le_refl _⟩ hk0 (ci := 12) (fs := fs_12 o0) (fun _ _ _ => rfl) rfl hw mw_1235 mw_49 mw_72 mw_1236 (n := 0) (by decide +kernel) rfl hdd (by decide) hrm hd
def b_X12_drift_20 (o0 : Nat) (x1 : Int32) (s20 : Int32 × Mm) : Option ((Int32 × Mm) ⊕ (Mm)) :=
  (if x1 ≤ s20.1 then some (.inr s20.2) else Bd (f_X12_chance o0 s20.2) (fun r5 => Bd (f_X12_rings o0 136 r5) (fun r6 => Lt (s20.1 + (1 : Int32)) (fun v7 => some (.inl (v7, r6))))))
def f_X12_drift (o0 : Nat) (x1 : Int32) (M : Mm) : Option (Int32 × Mm) :=
  Bd (f_X12_noRows o0 x1 (60 : Int32) M) (fun r1 => (if r1 = 0 then Bd (f_X12_note o0 M) (fun r3 => Bd (Lp (b_X12_drift_20 o0 x1) 100000 ((0 : Int32), r3)) (fun e8 => Bd (f_X12_figuresOf o0 136 e8) (fun r9 => some (r9, e8)))) else some (r1, M)))
set_option maxRecDepth 100000 in
set_option maxHeartbeats 4000000 in
theorem c_X12_drift {l : Launch} {D : va_G} {an : An} {b : Nat} {o0 : Nat} {x1 : Int32} (hk0 : KDF[o0]? = some (12, 0)) {M : Mm} {r : Int32} {M' : Mm} (h : f_X12_drift o0 x1 M = some (r, M')) : Ct l D an b 0 yX12_drift cX12_drift 4 (some .int) 4 [.ref (b + o0), .int x1] KDF M (some (.int r)) KDF M' := by
  refine CtX.mk (as := fun b => [.ref (b + o0), .int x1]) (rv := fun b => (some (.int r))) (by decide) (fun b => Nat.le_of_ble_eq_true rfl) ⟨Nat.le_refl _, Nat.le_refl _⟩ (fun x X hR Z hN _ _ => ?_)
  have X : Ok x cX12_drift 4 RX12 (some .int) := X
  have G : Gz x 4 0 [(0, .ref (xb x + o0)), (1, .int x1)] [] KDF M (f_X12_drift o0 x1 M) (PsI2 x KDF) := by
    unfold f_X12_drift
    refine g1 (pc' := 1) (w_aload_n X dX12_drift_0 rfl 0 rfl) ?_
    refine g1 (pc' := 2) (w_iload_n X dX12_drift_1 rfl 1 rfl) ?_
    refine g1 (pc' := 4) (w_bipush X (60) dX12_drift_2 (by decide)) ?_
    refine g_bd (pc' := 7) (fun r1 => [(0, .ref (xb x + o0)), (1, .int x1)]) (fun r1 => [.int r1]) (fun r1 => M) (fun r1 h => k_X12_noRows X hR hN Z hk0 mw_1190 (by decide) (Nat.le_of_ble_eq_true rfl) dX12_drift_4 h) (fun r1 => ?_)
    show Gz x 4 7 [(0, .ref (xb x + o0)), (1, .int x1)] [.int r1] KDF M _ _
    refine g1 (pc' := 8) (lv' := [(2, .int r1), (0, .ref (xb x + o0)), (1, .int x1)]) (w_istore_n X dX12_drift_7 rfl (by decide) rfl) ?_
    refine g1 (pc' := 9) (w_iload_n X dX12_drift_8 rfl 0 rfl) ?_
    refine g_if (pcT := 14) (pcF := 12) (w_if_eq (tgt := 14) X dX12_drift_9 (by decide)) (fun h2 => ?_) (fun h2 => ?_)
    · refine g1 (pc' := 15) (w_aload_n X dX12_drift_14 rfl 1 rfl) ?_
      refine g_bd (pc' := 18) (fun r3 => [(2, .int r1), (0, .ref (xb x + o0)), (1, .int x1)]) (fun r3 => []) (fun r3 => r3) (fun r3 h => k_X12_note X hR hN Z hk0 mw_1194 (by decide) (Nat.le_of_ble_eq_true rfl) dX12_drift_15 h) (fun r3 => ?_)
      show Gz x 4 18 [(2, .int r1), (0, .ref (xb x + o0)), (1, .int x1)] [] KDF r3 _ _
      refine g1 (pc' := 19) (w_iconst X (0) dX12_drift_18 (by decide)) ?_
      refine g1 (pc' := 20) (lv' := [(3, .int (0 : Int32)), (2, .int r1), (0, .ref (xb x + o0)), (1, .int x1)]) (w_istore_n X dX12_drift_19 rfl (by decide) rfl) ?_
      refine g_pick (lv' := [(0, .ref (xb x + o0)), (1, .int x1), (3, .int (0 : Int32))]) [2, 3, 0] rfl ?_
      refine g_bdJ (J := 43) (fun e8 => [(0, .ref (xb x + o0))]) (fun e8 => []) (fun e8 => e8) (g_lp (fun s20 => [(0, .ref (xb x + o0)), (1, .int x1), (3, .int s20.1)]) (fun s20 => s20.2) (fun s20 => ?_) 100000 ((0 : Int32), r3)) (fun e8 => ?_)
      · show Gz x 4 20 [(0, .ref (xb x + o0)), (1, .int x1), (3, .int s20.1)] [] KDF s20.2 (b_X12_drift_20 o0 x1 s20) _
        unfold b_X12_drift_20
        refine g1 (pc' := 21) (w_iload_n X dX12_drift_20 rfl 2 rfl) ?_
        refine g1 (pc' := 22) (w_iload_n X dX12_drift_21 rfl 1 rfl) ?_
        refine g_if (pcT := 43) (pcF := 25) (w_icmp_ge (tgt := 43) X dX12_drift_22 (by decide)) (fun h4 => ?_) (fun h4 => ?_)
        · refine g_inr ?_
          exact g_end [0] rfl rfl rfl
        · refine g1 (pc' := 26) (w_aload_n X dX12_drift_25 rfl 0 rfl) ?_
          refine g_bd (pc' := 29) (fun r5 => [(0, .ref (xb x + o0)), (1, .int x1), (3, .int s20.1)]) (fun r5 => []) (fun r5 => r5) (fun r5 h => k_X12_chance X hR hN Z hk0 mw_1233 (by decide) (Nat.le_of_ble_eq_true rfl) dX12_drift_26 h) (fun r5 => ?_)
          show Gz x 4 29 [(0, .ref (xb x + o0)), (1, .int x1), (3, .int s20.1)] [] KDF r5 _ _
          refine g1 (pc' := 30) (w_aload_n X dX12_drift_29 rfl 0 rfl) ?_
          refine g1 (pc' := 31) (w_aload_n X dX12_drift_30 rfl 0 rfl) ?_
          refine g1 (pc' := 34) (gt_12_23 X hk0 mw_952 dX12_drift_31) ?_
          refine g_bd (pc' := 37) (fun r6 => [(0, .ref (xb x + o0)), (1, .int x1), (3, .int s20.1)]) (fun r6 => []) (fun r6 => r6) (fun r6 h => k_X12_rings X hR hN Z hk0 (kln_of kd_136) mw_1198 (by decide) (Nat.le_of_ble_eq_true rfl) dX12_drift_34 h) (fun r6 => ?_)
          show Gz x 4 37 [(0, .ref (xb x + o0)), (1, .int x1), (3, .int s20.1)] [] KDF r6 _ _
          refine g_lt (pc' := 40) (fun v7 => [(3, .int v7), (0, .ref (xb x + o0)), (1, .int x1)]) (fun v7 => []) (fun v7 => r6) (w_iinc X dX12_drift_37 2 rfl rfl (by decide) rfl) (fun v7 => ?_)
          show Gz x 4 40 [(3, .int v7), (0, .ref (xb x + o0)), (1, .int x1)] [] KDF r6 _ _
          refine g1 (pc' := 20) (w_goto X dX12_drift_40 (by decide)) ?_
          refine g_inl ?_
          exact g_end [1, 2, 0] rfl rfl rfl
      · show Gz x 4 43 [(0, .ref (xb x + o0))] [] KDF e8 _ _
        refine g1 (pc' := 44) (w_aload_n X dX12_drift_43 rfl 0 rfl) ?_
        refine g1 (pc' := 45) (w_aload_n X dX12_drift_44 rfl 0 rfl) ?_
        refine g1 (pc' := 48) (gt_12_23 X hk0 mw_952 dX12_drift_45) ?_
        refine g_bd (pc' := 51) (fun r9 => [(0, .ref (xb x + o0))]) (fun r9 => [.int r9]) (fun r9 => e8) (fun r9 h => k_X12_figuresOf X hR hN Z hk0 (kln_of kd_136) mw_1128 (by decide) (Nat.le_of_ble_eq_true rfl) dX12_drift_48 h) (fun r9 => ?_)
        show Gz x 4 51 [(0, .ref (xb x + o0))] [.int r9] KDF e8 _ _
        exact g_rI2 X dX12_drift_51
    · refine g1 (pc' := 13) (w_iload_n X dX12_drift_12 rfl 0 rfl) ?_
      exact g_rI2 X dX12_drift_13
  exact G _ h _ rfl
theorem k_X12_drift {x : Cxt} {cc : ByteArray} {nL : Nat} {own : String} {ret : Option FieldType} (X : Ok x cc nL own ret) {d : Nat} (hR : Rm x d KDF) (hN : Nst x) (Z : xz x = 0) {pc : Nat} {lv : List (Nat × Value)} {rest : List Value} {M : Mm} {o0 : Nat} {x1 : Int32} (hk0 : KDF[o0]? = some (12, 0)) {idx : Nat} (hw : Cond.methodLink own idx yX12_drift ∈ tbG) (hdd : 4 + 1 ≤ d) (hrm : (rest.map fun v => v.category).sum ≤ 8) (hd : decode cc pc = .ok (.invokevirtual idx, 3)) {r : Int32} {M' : Mm} (h : f_X12_drift o0 x1 M = some (r, M')) : StpZ x nL pc lv (.int x1 :: .ref (xb x + o0) :: rest) KDF M (pc + 3) lv (.int r :: rest) KDF M' :=
  w_callV (st := []) (As := [.int x1]) X hR hN (CtX0 Z (c_X12_drift hk0 h)) ⟨Nat.le_refl _, Nat.le_refl _⟩ ⟨Nat.le_refl _, Nat.le_refl _⟩ hk0 (ci := 12) (fs := fs_12 o0) (fun _ _ _ => rfl) rfl hw mw_1230 mw_1231 mw_72 mw_1232 (n := 1) (by decide +kernel) rfl hdd (by decide) hrm hd
def f_X12_undo (o0 : Nat) (M : Mm) : Option (Int32 × Mm) :=
  (if (M o0 26) = 0 then some ((-1000000003 : Int32), M) else Lt (st2 M o0 26 ((M o0 26) - (1 : Int32))) (fun M2 => Bd (f_X12_bring 138 ((23 : Int32) * (M2 o0 26)) 136 (0 : Int32) (23 : Int32) M2) (fun r3 => some ((r3 o0 26), r3))))
set_option maxRecDepth 100000 in
set_option maxHeartbeats 4000000 in
theorem c_X12_undo {l : Launch} {D : va_G} {an : An} {b : Nat} {o0 : Nat} (hk0 : KDF[o0]? = some (12, 0)) {M : Mm} {r : Int32} {M' : Mm} (h : f_X12_undo o0 M = some (r, M')) : Ct l D an b 0 yX12_undo cX12_undo 1 (some .int) 2 [.ref (b + o0)] KDF M (some (.int r)) KDF M' := by
  refine CtX.mk (as := fun b => [.ref (b + o0)]) (rv := fun b => (some (.int r))) (by decide) (fun b => Nat.le_of_ble_eq_true rfl) ⟨Nat.le_refl _, Nat.le_refl _⟩ (fun x X hR Z hN _ _ => ?_)
  have X : Ok x cX12_undo 1 RX12 (some .int) := X
  have G : Gz x 1 0 [(0, .ref (xb x + o0))] [] KDF M (f_X12_undo o0 M) (PsI2 x KDF) := by
    unfold f_X12_undo
    refine g1 (pc' := 1) (w_aload_n X dX12_undo_0 rfl 0 rfl) ?_
    refine g1 (pc' := 4) (gt_12_26 X hk0 mw_955 dX12_undo_1) ?_
    refine g_if (pcT := 7) (pcF := 10) (w_if_ne (tgt := 10) X dX12_undo_4 (by decide)) (fun h1 => ?_) (fun h1 => ?_)
    · refine g1 (pc' := 9) (w_ldc (v := -1000000003) X dX12_undo_7 mw_1164) ?_
      exact g_rI2 X dX12_undo_9
    · refine g1 (pc' := 11) (w_aload_n X dX12_undo_10 rfl 0 rfl) ?_
      refine g1 (pc' := 12) (w_dup X dX12_undo_11 rfl) ?_
      refine g1 (pc' := 15) (gt_12_26 X hk0 mw_955 dX12_undo_12) ?_
      refine g1 (pc' := 16) (w_iconst X (1) dX12_undo_15 (by decide)) ?_
      refine g1 (pc' := 17) (w_isub X dX12_undo_16) ?_
      refine g_lt (pc' := 20) (fun M2 => [(0, .ref (xb x + o0))]) (fun M2 => []) (fun M2 => M2) (pt_12_26 X Z hk0 mw_955 dX12_undo_17) (fun M2 => ?_)
      show Gz x 1 20 [(0, .ref (xb x + o0))] [] KDF M2 _ _
      refine g1 (pc' := 21) (w_aload_n X dX12_undo_20 rfl 0 rfl) ?_
      refine g1 (pc' := 24) (gt_12_25 X hk0 mw_954 dX12_undo_21) ?_
      refine g1 (pc' := 26) (w_bipush X (23) dX12_undo_24 (by decide)) ?_
      refine g1 (pc' := 27) (w_aload_n X dX12_undo_26 rfl 0 rfl) ?_
      refine g1 (pc' := 30) (gt_12_26 X hk0 mw_955 dX12_undo_27) ?_
      refine g1 (pc' := 31) (w_imul X dX12_undo_30) ?_
      refine g1 (pc' := 32) (w_aload_n X dX12_undo_31 rfl 0 rfl) ?_
      refine g1 (pc' := 35) (gt_12_23 X hk0 mw_952 dX12_undo_32) ?_
      refine g1 (pc' := 36) (w_iconst X (0) dX12_undo_35 (by decide)) ?_
      refine g1 (pc' := 38) (w_bipush X (23) dX12_undo_36 (by decide)) ?_
      refine g_bd (pc' := 41) (fun r3 => [(0, .ref (xb x + o0))]) (fun r3 => []) (fun r3 => r3) (fun r3 h => k_X12_bring X hR hN Z (kln_of kd_138) (kln_of kd_136) mw_1114 (by decide) (Nat.le_of_ble_eq_true rfl) dX12_undo_38 h) (fun r3 => ?_)
      show Gz x 1 41 [(0, .ref (xb x + o0))] [] KDF r3 _ _
      refine g1 (pc' := 42) (w_aload_n X dX12_undo_41 rfl 0 rfl) ?_
      refine g1 (pc' := 45) (gt_12_26 X hk0 mw_955 dX12_undo_42) ?_
      exact g_rI2 X dX12_undo_45
  exact G _ h _ rfl
theorem k_X12_undo {x : Cxt} {cc : ByteArray} {nL : Nat} {own : String} {ret : Option FieldType} (X : Ok x cc nL own ret) {d : Nat} (hR : Rm x d KDF) (hN : Nst x) (Z : xz x = 0) {pc : Nat} {lv : List (Nat × Value)} {rest : List Value} {M : Mm} {o0 : Nat} (hk0 : KDF[o0]? = some (12, 0)) {idx : Nat} (hw : Cond.methodLink own idx yX12_undo ∈ tbG) (hdd : 2 + 1 ≤ d) (hrm : (rest.map fun v => v.category).sum ≤ 8) (hd : decode cc pc = .ok (.invokevirtual idx, 3)) {r : Int32} {M' : Mm} (h : f_X12_undo o0 M = some (r, M')) : StpZ x nL pc lv (.ref (xb x + o0) :: rest) KDF M (pc + 3) lv (.int r :: rest) KDF M' :=
  w_callV (st := []) (As := []) X hR hN (CtX0 Z (c_X12_undo hk0 h)) ⟨Nat.le_refl _, Nat.le_refl _⟩ ⟨Nat.le_refl _, Nat.le_refl _⟩ hk0 (ci := 12) (fs := fs_12 o0) (fun _ _ _ => rfl) rfl hw mw_1246 mw_1247 mw_72 mw_1248 (n := 0) (by decide +kernel) rfl hdd (by decide) hrm hd
def f_X12_begin (o0 : Nat) (M : Mm) : Option (Mm) :=
  Bd (f_X12_bring 136 (0 : Int32) 137 (0 : Int32) (23 : Int32) M) (fun r1 => some r1)
set_option maxRecDepth 100000 in
set_option maxHeartbeats 4000000 in
theorem c_X12_begin {l : Launch} {D : va_G} {an : An} {b : Nat} {o0 : Nat} (hk0 : KDF[o0]? = some (12, 0)) {M : Mm} {M' : Mm} (h : f_X12_begin o0 M = some M') : Ct l D an b 0 yX12_begin cX12_begin 1 none 2 [.ref (b + o0)] KDF M none KDF M' := by
  refine CtX.mk (as := fun b => [.ref (b + o0)]) (rv := fun b => none) (by decide) (fun b => Nat.le_of_ble_eq_true rfl) ⟨Nat.le_refl _, Nat.le_refl _⟩ (fun x X hR Z hN _ _ => ?_)
  have X : Ok x cX12_begin 1 RX12 none := X
  have G : Gz x 1 0 [(0, .ref (xb x + o0))] [] KDF M (f_X12_begin o0 M) (PsM x KDF) := by
    unfold f_X12_begin
    refine g1 (pc' := 1) (w_aload_n X dX12_begin_0 rfl 0 rfl) ?_
    refine g1 (pc' := 4) (gt_12_23 X hk0 mw_952 dX12_begin_1) ?_
    refine g1 (pc' := 5) (w_iconst X (0) dX12_begin_4 (by decide)) ?_
    refine g1 (pc' := 6) (w_aload_n X dX12_begin_5 rfl 0 rfl) ?_
    refine g1 (pc' := 9) (gt_12_24 X hk0 mw_953 dX12_begin_6) ?_
    refine g1 (pc' := 10) (w_iconst X (0) dX12_begin_9 (by decide)) ?_
    refine g1 (pc' := 12) (w_bipush X (23) dX12_begin_10 (by decide)) ?_
    refine g_bd (pc' := 15) (fun r1 => [(0, .ref (xb x + o0))]) (fun r1 => []) (fun r1 => r1) (fun r1 h => k_X12_bring X hR hN Z (kln_of kd_136) (kln_of kd_137) mw_1114 (by decide) (Nat.le_of_ble_eq_true rfl) dX12_begin_12 h) (fun r1 => ?_)
    show Gz x 1 15 [(0, .ref (xb x + o0))] [] KDF r1 _ _
    exact g_rM X dX12_begin_15
  exact G _ h _ rfl
theorem k_X12_begin {x : Cxt} {cc : ByteArray} {nL : Nat} {own : String} {ret : Option FieldType} (X : Ok x cc nL own ret) {d : Nat} (hR : Rm x d KDF) (hN : Nst x) (Z : xz x = 0) {pc : Nat} {lv : List (Nat × Value)} {rest : List Value} {M : Mm} {o0 : Nat} (hk0 : KDF[o0]? = some (12, 0)) {idx : Nat} (hw : Cond.methodLink own idx yX12_begin ∈ tbG) (hdd : 2 + 1 ≤ d) (hrm : (rest.map fun v => v.category).sum ≤ 8) (hd : decode cc pc = .ok (.invokevirtual idx, 3)) {M' : Mm} (h : f_X12_begin o0 M = some M') : StpZ x nL pc lv (.ref (xb x + o0) :: rest) KDF M (pc + 3) lv (rest) KDF M' :=
  w_callV (st := []) (As := []) X hR hN (CtX0 Z (c_X12_begin hk0 h)) ⟨Nat.le_refl _, Nat.le_refl _⟩ ⟨Nat.le_refl _, Nat.le_refl _⟩ hk0 (ci := 12) (fs := fs_12 o0) (fun _ _ _ => rfl) rfl hw mw_1255 mw_51 mw_72 mw_1256 (n := 0) (by decide +kernel) rfl hdd (by decide) hrm hd
def b_X12_goOn_2 (o0 : Nat) (x1 : Int32) (s2 : Int32 × Mm) : Option ((Int32 × Mm) ⊕ (Mm)) :=
  (if x1 ≤ s2.1 then some (.inr s2.2) else Bd (f_X12_rings o0 137 s2.2) (fun r2 => Lt (s2.1 + (1 : Int32)) (fun v3 => some (.inl (v3, r2)))))
def f_X12_goOn (o0 : Nat) (x1 : Int32) (M : Mm) : Option (Mm) :=
  Bd (Lp (b_X12_goOn_2 o0 x1) 100000 ((0 : Int32), M)) (fun e4 => some e4)
set_option maxRecDepth 100000 in
set_option maxHeartbeats 4000000 in
theorem c_X12_goOn {l : Launch} {D : va_G} {an : An} {b : Nat} {o0 : Nat} {x1 : Int32} (hk0 : KDF[o0]? = some (12, 0)) {M : Mm} {M' : Mm} (h : f_X12_goOn o0 x1 M = some M') : Ct l D an b 0 yX12_goOn cX12_goOn 3 none 4 [.ref (b + o0), .int x1] KDF M none KDF M' := by
  refine CtX.mk (as := fun b => [.ref (b + o0), .int x1]) (rv := fun b => none) (by decide) (fun b => Nat.le_of_ble_eq_true rfl) ⟨Nat.le_refl _, Nat.le_refl _⟩ (fun x X hR Z hN _ _ => ?_)
  have X : Ok x cX12_goOn 3 RX12 none := X
  have G : Gz x 3 0 [(0, .ref (xb x + o0)), (1, .int x1)] [] KDF M (f_X12_goOn o0 x1 M) (PsM x KDF) := by
    unfold f_X12_goOn
    refine g1 (pc' := 1) (w_iconst X (0) dX12_goOn_0 (by decide)) ?_
    refine g1 (pc' := 2) (lv' := [(2, .int (0 : Int32)), (0, .ref (xb x + o0)), (1, .int x1)]) (w_istore_n X dX12_goOn_1 rfl (by decide) rfl) ?_
    refine g_pick (lv' := [(0, .ref (xb x + o0)), (1, .int x1), (2, .int (0 : Int32))]) [1, 2, 0] rfl ?_
    refine g_bdJ (J := 21) (fun e4 => []) (fun e4 => []) (fun e4 => e4) (g_lp (fun s2 => [(0, .ref (xb x + o0)), (1, .int x1), (2, .int s2.1)]) (fun s2 => s2.2) (fun s2 => ?_) 100000 ((0 : Int32), M)) (fun e4 => ?_)
    · show Gz x 3 2 [(0, .ref (xb x + o0)), (1, .int x1), (2, .int s2.1)] [] KDF s2.2 (b_X12_goOn_2 o0 x1 s2) _
      unfold b_X12_goOn_2
      refine g1 (pc' := 3) (w_iload_n X dX12_goOn_2 rfl 2 rfl) ?_
      refine g1 (pc' := 4) (w_iload_n X dX12_goOn_3 rfl 1 rfl) ?_
      refine g_if (pcT := 21) (pcF := 7) (w_icmp_ge (tgt := 21) X dX12_goOn_4 (by decide)) (fun h1 => ?_) (fun h1 => ?_)
      · refine g_inr ?_
        exact g_end [] rfl rfl rfl
      · refine g1 (pc' := 8) (w_aload_n X dX12_goOn_7 rfl 0 rfl) ?_
        refine g1 (pc' := 9) (w_aload_n X dX12_goOn_8 rfl 0 rfl) ?_
        refine g1 (pc' := 12) (gt_12_24 X hk0 mw_953 dX12_goOn_9) ?_
        refine g_bd (pc' := 15) (fun r2 => [(0, .ref (xb x + o0)), (1, .int x1), (2, .int s2.1)]) (fun r2 => []) (fun r2 => r2) (fun r2 h => k_X12_rings X hR hN Z hk0 (kln_of kd_137) mw_1198 (by decide) (Nat.le_of_ble_eq_true rfl) dX12_goOn_12 h) (fun r2 => ?_)
        show Gz x 3 15 [(0, .ref (xb x + o0)), (1, .int x1), (2, .int s2.1)] [] KDF r2 _ _
        refine g_lt (pc' := 18) (fun v3 => [(2, .int v3), (0, .ref (xb x + o0)), (1, .int x1)]) (fun v3 => []) (fun v3 => r2) (w_iinc X dX12_goOn_15 2 rfl rfl (by decide) rfl) (fun v3 => ?_)
        show Gz x 3 18 [(2, .int v3), (0, .ref (xb x + o0)), (1, .int x1)] [] KDF r2 _ _
        refine g1 (pc' := 2) (w_goto X dX12_goOn_18 (by decide)) ?_
        refine g_inl ?_
        exact g_end [1, 2, 0] rfl rfl rfl
    · show Gz x 3 21 [] [] KDF e4 _ _
      exact g_rM X dX12_goOn_21
  exact G _ h _ rfl
theorem k_X12_goOn {x : Cxt} {cc : ByteArray} {nL : Nat} {own : String} {ret : Option FieldType} (X : Ok x cc nL own ret) {d : Nat} (hR : Rm x d KDF) (hN : Nst x) (Z : xz x = 0) {pc : Nat} {lv : List (Nat × Value)} {rest : List Value} {M : Mm} {o0 : Nat} {x1 : Int32} (hk0 : KDF[o0]? = some (12, 0)) {idx : Nat} (hw : Cond.methodLink own idx yX12_goOn ∈ tbG) (hdd : 4 + 1 ≤ d) (hrm : (rest.map fun v => v.category).sum ≤ 8) (hd : decode cc pc = .ok (.invokevirtual idx, 3)) {M' : Mm} (h : f_X12_goOn o0 x1 M = some M') : StpZ x nL pc lv (.int x1 :: .ref (xb x + o0) :: rest) KDF M (pc + 3) lv (rest) KDF M' :=
  w_callV (st := []) (As := [.int x1]) X hR hN (CtX0 Z (c_X12_goOn hk0 h)) ⟨Nat.le_refl _, Nat.le_refl _⟩ ⟨Nat.le_refl _, Nat.le_refl _⟩ hk0 (ci := 12) (fs := fs_12 o0) (fun _ _ _ => rfl) rfl hw mw_1259 mw_52 mw_72 mw_1260 (n := 1) (by decide +kernel) rfl hdd (by decide) hrm hd
def f_X12_rowAt (o0 : Nat) (x1 : Int32) (M : Mm) : Option (Int32 × Mm) :=
  (if (f_X12_in x1 (0 : Int32) (500 : Int32)) = 0 then some ((-1000000002 : Int32), M) else (if (f_X12_isTower o0 M) = 0 then some ((-1000000003 : Int32), M) else Bd (f_X12_begin o0 M) (fun r3 => Bd (f_X12_goOn o0 x1 r3) (fun r4 => Bd (f_X12_figuresOf o0 137 r4) (fun r5 => some (r5, r4))))))
set_option maxRecDepth 100000 in
set_option maxHeartbeats 4000000 in
theorem c_X12_rowAt {l : Launch} {D : va_G} {an : An} {b : Nat} {o0 : Nat} {x1 : Int32} (hk0 : KDF[o0]? = some (12, 0)) {M : Mm} {r : Int32} {M' : Mm} (h : f_X12_rowAt o0 x1 M = some (r, M')) : Ct l D an b 0 yX12_rowAt cX12_rowAt 2 (some .int) 5 [.ref (b + o0), .int x1] KDF M (some (.int r)) KDF M' := by
  refine CtX.mk (as := fun b => [.ref (b + o0), .int x1]) (rv := fun b => (some (.int r))) (by decide) (fun b => Nat.le_of_ble_eq_true rfl) ⟨Nat.le_refl _, Nat.le_refl _⟩ (fun x X hR Z hN _ _ => ?_)
  have X : Ok x cX12_rowAt 2 RX12 (some .int) := X
  have G : Gz x 2 0 [(0, .ref (xb x + o0)), (1, .int x1)] [] KDF M (f_X12_rowAt o0 x1 M) (PsI2 x KDF) := by
    unfold f_X12_rowAt
    refine g1 (pc' := 1) (w_iload_n X dX12_rowAt_0 rfl 1 rfl) ?_
    refine g1 (pc' := 2) (w_iconst X (0) dX12_rowAt_1 (by decide)) ?_
    refine g1 (pc' := 5) (w_sipush X (500) dX12_rowAt_2 (by decide)) ?_
    refine g1 (pc' := 8) (k_X12_in X hR hN Z  mw_1055 (by decide) (Nat.le_of_ble_eq_true rfl) dX12_rowAt_5) ?_
    refine g_if (pcT := 11) (pcF := 14) (w_if_ne (tgt := 14) X dX12_rowAt_8 (by decide)) (fun h1 => ?_) (fun h1 => ?_)
    · refine g1 (pc' := 13) (w_ldc (v := -1000000002) X dX12_rowAt_11 mw_1058) ?_
      exact g_rI2 X dX12_rowAt_13
    · refine g1 (pc' := 15) (w_aload_n X dX12_rowAt_14 rfl 0 rfl) ?_
      refine g1 (pc' := 18) (k_X12_isTower X hR hN Z hk0 mw_1160 (by decide) (Nat.le_of_ble_eq_true rfl) dX12_rowAt_15) ?_
      refine g_if (pcT := 21) (pcF := 24) (w_if_ne (tgt := 24) X dX12_rowAt_18 (by decide)) (fun h2 => ?_) (fun h2 => ?_)
      · refine g1 (pc' := 23) (w_ldc (v := -1000000003) X dX12_rowAt_21 mw_1164) ?_
        exact g_rI2 X dX12_rowAt_23
      · refine g1 (pc' := 25) (w_aload_n X dX12_rowAt_24 rfl 0 rfl) ?_
        refine g_bd (pc' := 28) (fun r3 => [(0, .ref (xb x + o0)), (1, .int x1)]) (fun r3 => []) (fun r3 => r3) (fun r3 h => k_X12_begin X hR hN Z hk0 mw_1253 (by decide) (Nat.le_of_ble_eq_true rfl) dX12_rowAt_25 h) (fun r3 => ?_)
        show Gz x 2 28 [(0, .ref (xb x + o0)), (1, .int x1)] [] KDF r3 _ _
        refine g1 (pc' := 29) (w_aload_n X dX12_rowAt_28 rfl 0 rfl) ?_
        refine g1 (pc' := 30) (w_iload_n X dX12_rowAt_29 rfl 1 rfl) ?_
        refine g_bd (pc' := 33) (fun r4 => [(0, .ref (xb x + o0)), (1, .int x1)]) (fun r4 => []) (fun r4 => r4) (fun r4 h => k_X12_goOn X hR hN Z hk0 mw_1257 (by decide) (Nat.le_of_ble_eq_true rfl) dX12_rowAt_30 h) (fun r4 => ?_)
        show Gz x 2 33 [(0, .ref (xb x + o0)), (1, .int x1)] [] KDF r4 _ _
        refine g1 (pc' := 34) (w_aload_n X dX12_rowAt_33 rfl 0 rfl) ?_
        refine g1 (pc' := 35) (w_aload_n X dX12_rowAt_34 rfl 0 rfl) ?_
        refine g1 (pc' := 38) (gt_12_24 X hk0 mw_953 dX12_rowAt_35) ?_
        refine g_bd (pc' := 41) (fun r5 => [(0, .ref (xb x + o0)), (1, .int x1)]) (fun r5 => [.int r5]) (fun r5 => r4) (fun r5 h => k_X12_figuresOf X hR hN Z hk0 (kln_of kd_137) mw_1128 (by decide) (Nat.le_of_ble_eq_true rfl) dX12_rowAt_38 h) (fun r5 => ?_)
        show Gz x 2 41 [(0, .ref (xb x + o0)), (1, .int x1)] [.int r5] KDF r4 _ _
        exact g_rI2 X dX12_rowAt_41
  exact G _ h _ rfl
theorem k_X12_rowAt {x : Cxt} {cc : ByteArray} {nL : Nat} {own : String} {ret : Option FieldType} (X : Ok x cc nL own ret) {d : Nat} (hR : Rm x d KDF) (hN : Nst x) (Z : xz x = 0) {pc : Nat} {lv : List (Nat × Value)} {rest : List Value} {M : Mm} {o0 : Nat} {x1 : Int32} (hk0 : KDF[o0]? = some (12, 0)) {idx : Nat} (hw : Cond.methodLink own idx yX12_rowAt ∈ tbG) (hdd : 5 + 1 ≤ d) (hrm : (rest.map fun v => v.category).sum ≤ 8) (hd : decode cc pc = .ok (.invokevirtual idx, 3)) {r : Int32} {M' : Mm} (h : f_X12_rowAt o0 x1 M = some (r, M')) : StpZ x nL pc lv (.int x1 :: .ref (xb x + o0) :: rest) KDF M (pc + 3) lv (.int r :: rest) KDF M' :=
  w_callV (st := []) (As := [.int x1]) X hR hN (CtX0 Z (c_X12_rowAt hk0 h)) ⟨Nat.le_refl _, Nat.le_refl _⟩ ⟨Nat.le_refl _, Nat.le_refl _⟩ hk0 (ci := 12) (fs := fs_12 o0) (fun _ _ _ => rfl) rfl hw mw_1250 mw_1251 mw_72 mw_1252 (n := 1) (by decide +kernel) rfl hdd (by decide) hrm hd
def f_X12_placeAt (o0 : Nat) (x1 : Int32) (x2 : Int32) (M : Mm) : Option (Int32 × Mm) :=
  (if (f_X12_isBell o0 x1 M) = 0 then some ((-1000000001 : Int32), M) else (if (f_X12_in x2 (0 : Int32) (500 : Int32)) = 0 then some ((-1000000002 : Int32), M) else Bd (f_X12_begin o0 M) (fun r3 => Bd (f_X12_goOn o0 x2 r3) (fun r4 => Bd (f_X12_placeOf o0 137 x1 r4) (fun r5 => some (r5, r4))))))
set_option maxRecDepth 100000 in
set_option maxHeartbeats 4000000 in
theorem c_X12_placeAt {l : Launch} {D : va_G} {an : An} {b : Nat} {o0 : Nat} {x1 : Int32} {x2 : Int32} (hk0 : KDF[o0]? = some (12, 0)) {M : Mm} {r : Int32} {M' : Mm} (h : f_X12_placeAt o0 x1 x2 M = some (r, M')) : Ct l D an b 0 yX12_placeAt cX12_placeAt 3 (some .int) 5 [.ref (b + o0), .int x1, .int x2] KDF M (some (.int r)) KDF M' := by
  refine CtX.mk (as := fun b => [.ref (b + o0), .int x1, .int x2]) (rv := fun b => (some (.int r))) (by decide) (fun b => Nat.le_of_ble_eq_true rfl) ⟨Nat.le_refl _, Nat.le_refl _⟩ (fun x X hR Z hN _ _ => ?_)
  have X : Ok x cX12_placeAt 3 RX12 (some .int) := X
  have G : Gz x 3 0 [(0, .ref (xb x + o0)), (1, .int x1), (2, .int x2)] [] KDF M (f_X12_placeAt o0 x1 x2 M) (PsI2 x KDF) := by
    unfold f_X12_placeAt
    refine g1 (pc' := 1) (w_aload_n X dX12_placeAt_0 rfl 0 rfl) ?_
    refine g1 (pc' := 2) (w_iload_n X dX12_placeAt_1 rfl 1 rfl) ?_
    refine g1 (pc' := 5) (k_X12_isBell X hR hN Z hk0 mw_1169 (by decide) (Nat.le_of_ble_eq_true rfl) dX12_placeAt_2) ?_
    refine g_if (pcT := 8) (pcF := 11) (w_if_ne (tgt := 11) X dX12_placeAt_5 (by decide)) (fun h1 => ?_) (fun h1 => ?_)
    · refine g1 (pc' := 10) (w_ldc (v := -1000000001) X dX12_placeAt_8 mw_1173) ?_
      exact g_rI2 X dX12_placeAt_10
    · refine g1 (pc' := 12) (w_iload_n X dX12_placeAt_11 rfl 2 rfl) ?_
      refine g1 (pc' := 13) (w_iconst X (0) dX12_placeAt_12 (by decide)) ?_
      refine g1 (pc' := 16) (w_sipush X (500) dX12_placeAt_13 (by decide)) ?_
      refine g1 (pc' := 19) (k_X12_in X hR hN Z  mw_1055 (by decide) (Nat.le_of_ble_eq_true rfl) dX12_placeAt_16) ?_
      refine g_if (pcT := 22) (pcF := 25) (w_if_ne (tgt := 25) X dX12_placeAt_19 (by decide)) (fun h2 => ?_) (fun h2 => ?_)
      · refine g1 (pc' := 24) (w_ldc (v := -1000000002) X dX12_placeAt_22 mw_1058) ?_
        exact g_rI2 X dX12_placeAt_24
      · refine g1 (pc' := 26) (w_aload_n X dX12_placeAt_25 rfl 0 rfl) ?_
        refine g_bd (pc' := 29) (fun r3 => [(0, .ref (xb x + o0)), (1, .int x1), (2, .int x2)]) (fun r3 => []) (fun r3 => r3) (fun r3 h => k_X12_begin X hR hN Z hk0 mw_1253 (by decide) (Nat.le_of_ble_eq_true rfl) dX12_placeAt_26 h) (fun r3 => ?_)
        show Gz x 3 29 [(0, .ref (xb x + o0)), (1, .int x1), (2, .int x2)] [] KDF r3 _ _
        refine g1 (pc' := 30) (w_aload_n X dX12_placeAt_29 rfl 0 rfl) ?_
        refine g1 (pc' := 31) (w_iload_n X dX12_placeAt_30 rfl 2 rfl) ?_
        refine g_bd (pc' := 34) (fun r4 => [(0, .ref (xb x + o0)), (1, .int x1), (2, .int x2)]) (fun r4 => []) (fun r4 => r4) (fun r4 h => k_X12_goOn X hR hN Z hk0 mw_1257 (by decide) (Nat.le_of_ble_eq_true rfl) dX12_placeAt_31 h) (fun r4 => ?_)
        show Gz x 3 34 [(0, .ref (xb x + o0)), (1, .int x1), (2, .int x2)] [] KDF r4 _ _
        refine g1 (pc' := 35) (w_aload_n X dX12_placeAt_34 rfl 0 rfl) ?_
        refine g1 (pc' := 36) (w_aload_n X dX12_placeAt_35 rfl 0 rfl) ?_
        refine g1 (pc' := 39) (gt_12_24 X hk0 mw_953 dX12_placeAt_36) ?_
        refine g1 (pc' := 40) (w_iload_n X dX12_placeAt_39 rfl 1 rfl) ?_
        refine g_bd (pc' := 43) (fun r5 => [(0, .ref (xb x + o0)), (1, .int x1), (2, .int x2)]) (fun r5 => [.int r5]) (fun r5 => r4) (fun r5 h => k_X12_placeOf X hR hN Z hk0 (kln_of kd_137) mw_1152 (by decide) (Nat.le_of_ble_eq_true rfl) dX12_placeAt_40 h) (fun r5 => ?_)
        show Gz x 3 43 [(0, .ref (xb x + o0)), (1, .int x1), (2, .int x2)] [.int r5] KDF r4 _ _
        exact g_rI2 X dX12_placeAt_43
  exact G _ h _ rfl
theorem k_X12_placeAt {x : Cxt} {cc : ByteArray} {nL : Nat} {own : String} {ret : Option FieldType} (X : Ok x cc nL own ret) {d : Nat} (hR : Rm x d KDF) (hN : Nst x) (Z : xz x = 0) {pc : Nat} {lv : List (Nat × Value)} {rest : List Value} {M : Mm} {o0 : Nat} {x1 : Int32} {x2 : Int32} (hk0 : KDF[o0]? = some (12, 0)) {idx : Nat} (hw : Cond.methodLink own idx yX12_placeAt ∈ tbG) (hdd : 5 + 1 ≤ d) (hrm : (rest.map fun v => v.category).sum ≤ 8) (hd : decode cc pc = .ok (.invokevirtual idx, 3)) {r : Int32} {M' : Mm} (h : f_X12_placeAt o0 x1 x2 M = some (r, M')) : StpZ x nL pc lv (.int x2 :: .int x1 :: .ref (xb x + o0) :: rest) KDF M (pc + 3) lv (.int r :: rest) KDF M' :=
  w_callV (st := []) (As := [.int x1, .int x2]) X hR hN (CtX0 Z (c_X12_placeAt hk0 h)) ⟨Nat.le_refl _, Nat.le_refl _⟩ ⟨Nat.le_refl _, Nat.le_refl _⟩ hk0 (ci := 12) (fs := fs_12 o0) (fun _ _ _ => rfl) rfl hw mw_1262 mw_1263 mw_72 mw_1264 (n := 2) (by decide +kernel) rfl hdd (by decide) hrm hd
def b_X12_roundsNow_4 (o0 : Nat) (M : Mm) (s4 : Int32 × Int32) : Option ((Int32 × Int32) ⊕ (Int32)) :=
  (if (M o0 16) ≤ s4.2 then some (.inr s4.1) else Lt ((((10 : Int32) * s4.1) + s4.2) + (1 : Int32)) (fun v2 => Lt (s4.2 + (1 : Int32)) (fun v3 => some (.inl (v2, v3)))))
def f_X12_roundsNow (o0 : Nat) (M : Mm) : Option (Int32) :=
  Bd (Lp (b_X12_roundsNow_4 o0 M) 100000 ((0 : Int32), (0 : Int32))) (fun e4 => some e4)
set_option maxRecDepth 100000 in
set_option maxHeartbeats 4000000 in
theorem c_X12_roundsNow {l : Launch} {D : va_G} {an : An} {b : Nat} {o0 : Nat} (hk0 : KDF[o0]? = some (12, 0)) {M : Mm} {r : Int32} (h : f_X12_roundsNow o0 M = some r) : Ct l D an b 0 yX12_roundsNow cX12_roundsNow 3 (some .int) 1 [.ref (b + o0)] KDF M (some (.int r)) KDF M := by
  refine CtX.mk (as := fun b => [.ref (b + o0)]) (rv := fun b => (some (.int r))) (by decide) (fun b => Nat.le_of_ble_eq_true rfl) ⟨Nat.le_refl _, Nat.le_refl _⟩ (fun x X hR Z hN _ _ => ?_)
  have X : Ok x cX12_roundsNow 3 RX12 (some .int) := X
  have G : Gz x 3 0 [(0, .ref (xb x + o0))] [] KDF M (f_X12_roundsNow o0 M) (PsI x KDF M) := by
    unfold f_X12_roundsNow
    refine g1 (pc' := 1) (w_iconst X (0) dX12_roundsNow_0 (by decide)) ?_
    refine g1 (pc' := 2) (lv' := [(1, .int (0 : Int32)), (0, .ref (xb x + o0))]) (w_istore_n X dX12_roundsNow_1 rfl (by decide) rfl) ?_
    refine g1 (pc' := 3) (w_iconst X (0) dX12_roundsNow_2 (by decide)) ?_
    refine g1 (pc' := 4) (lv' := [(2, .int (0 : Int32)), (1, .int (0 : Int32)), (0, .ref (xb x + o0))]) (w_istore_n X dX12_roundsNow_3 rfl (by decide) rfl) ?_
    refine g_pick (lv' := [(0, .ref (xb x + o0)), (1, .int (0 : Int32)), (2, .int (0 : Int32))]) [2, 1, 0] rfl ?_
    refine g_bdJ (J := 27) (fun e4 => [(1, .int e4)]) (fun e4 => []) (fun e4 => M) (g_lp (fun s4 => [(0, .ref (xb x + o0)), (1, .int s4.1), (2, .int s4.2)]) (fun s4 => M) (fun s4 => ?_) 100000 ((0 : Int32), (0 : Int32))) (fun e4 => ?_)
    · show Gz x 3 4 [(0, .ref (xb x + o0)), (1, .int s4.1), (2, .int s4.2)] [] KDF M (b_X12_roundsNow_4 o0 M s4) _
      unfold b_X12_roundsNow_4
      refine g1 (pc' := 5) (w_iload_n X dX12_roundsNow_4 rfl 2 rfl) ?_
      refine g1 (pc' := 6) (w_aload_n X dX12_roundsNow_5 rfl 0 rfl) ?_
      refine g1 (pc' := 9) (gt_12_16 X hk0 mw_945 dX12_roundsNow_6) ?_
      refine g_if (pcT := 27) (pcF := 12) (w_icmp_ge (tgt := 27) X dX12_roundsNow_9 (by decide)) (fun h1 => ?_) (fun h1 => ?_)
      · refine g_inr ?_
        exact g_end [1] rfl rfl rfl
      · refine g1 (pc' := 14) (w_bipush X (10) dX12_roundsNow_12 (by decide)) ?_
        refine g1 (pc' := 15) (w_iload_n X dX12_roundsNow_14 rfl 1 rfl) ?_
        refine g1 (pc' := 16) (w_imul X dX12_roundsNow_15) ?_
        refine g1 (pc' := 17) (w_iload_n X dX12_roundsNow_16 rfl 2 rfl) ?_
        refine g1 (pc' := 18) (w_iadd X dX12_roundsNow_17) ?_
        refine g1 (pc' := 19) (w_iconst X (1) dX12_roundsNow_18 (by decide)) ?_
        refine g1 (pc' := 20) (w_iadd X dX12_roundsNow_19) ?_
        refine g_lt (pc' := 21) (fun v2 => [(1, .int v2), (0, .ref (xb x + o0)), (2, .int s4.2)]) (fun v2 => []) (fun v2 => M) (w_istore_n X dX12_roundsNow_20 rfl (by decide) rfl) (fun v2 => ?_)
        show Gz x 3 21 [(1, .int v2), (0, .ref (xb x + o0)), (2, .int s4.2)] [] KDF M _ _
        refine g_lt (pc' := 24) (fun v3 => [(2, .int v3), (1, .int v2), (0, .ref (xb x + o0))]) (fun v3 => []) (fun v3 => M) (w_iinc X dX12_roundsNow_21 2 rfl rfl (by decide) rfl) (fun v3 => ?_)
        show Gz x 3 24 [(2, .int v3), (1, .int v2), (0, .ref (xb x + o0))] [] KDF M _ _
        refine g1 (pc' := 4) (w_goto X dX12_roundsNow_24 (by decide)) ?_
        refine g_inl ?_
        exact g_end [2, 1, 0] rfl rfl rfl
    · show Gz x 3 27 [(1, .int e4)] [] KDF M _ _
      refine g1 (pc' := 28) (w_iload_n X dX12_roundsNow_27 rfl 0 rfl) ?_
      exact g_rI X dX12_roundsNow_28
  exact G _ h _ rfl
theorem k_X12_roundsNow {x : Cxt} {cc : ByteArray} {nL : Nat} {own : String} {ret : Option FieldType} (X : Ok x cc nL own ret) {d : Nat} (hR : Rm x d KDF) (hN : Nst x) (Z : xz x = 0) {pc : Nat} {lv : List (Nat × Value)} {rest : List Value} {M : Mm} {o0 : Nat} (hk0 : KDF[o0]? = some (12, 0)) {idx : Nat} (hw : Cond.methodLink own idx yX12_roundsNow ∈ tbG) (hdd : 1 + 1 ≤ d) (hrm : (rest.map fun v => v.category).sum ≤ 8) (hd : decode cc pc = .ok (.invokevirtual idx, 3)) {r : Int32} (h : f_X12_roundsNow o0 M = some r) : StpZ x nL pc lv (.ref (xb x + o0) :: rest) KDF M (pc + 3) lv (.int r :: rest) KDF M :=
  w_callV (st := []) (As := []) X hR hN (CtX0 Z (c_X12_roundsNow hk0 h)) ⟨Nat.le_refl _, Nat.le_refl _⟩ ⟨Nat.le_refl _, Nat.le_refl _⟩ hk0 (ci := 12) (fs := fs_12 o0) (fun _ _ _ => rfl) rfl hw mw_1271 mw_53 mw_72 mw_1272 (n := 0) (by decide +kernel) rfl hdd (by decide) hrm hd
def b_X12_round_16 (o0 : Nat) (s16 : Int32 × Mm) : Option ((Int32 × Mm) ⊕ ((Int32 × Mm) ⊕ (Mm))) :=
  (if (1000 : Int32) < s16.1 then some (.inr (.inr s16.2)) else Bd (f_X12_goOn o0 (1 : Int32) s16.2) (fun r4 => Bd (f_X12_figuresOf o0 137 r4) (fun r5 => Bd (f_X12_roundsNow o0 r4) (fun r6 => (if r5 = r6 then some (.inr (.inl (s16.1, r4))) else Lt (s16.1 + (1 : Int32)) (fun v8 => some (.inl (v8, r4))))))))
def f_X12_round (o0 : Nat) (M : Mm) : Option (Int32 × Mm) :=
  (if (f_X12_isTower o0 M) = 0 then some ((-1000000003 : Int32), M) else Bd (f_X12_begin o0 M) (fun r2 => BdS (Lp (b_X12_round_16 o0) 100000 ((1 : Int32), r2)) (fun e9 => some ((-1 : Int32), e9))))
set_option maxRecDepth 100000 in
set_option maxHeartbeats 4000000 in
theorem c_X12_round {l : Launch} {D : va_G} {an : An} {b : Nat} {o0 : Nat} (hk0 : KDF[o0]? = some (12, 0)) {M : Mm} {r : Int32} {M' : Mm} (h : f_X12_round o0 M = some (r, M')) : Ct l D an b 0 yX12_round cX12_round 2 (some .int) 5 [.ref (b + o0)] KDF M (some (.int r)) KDF M' := by
  refine CtX.mk (as := fun b => [.ref (b + o0)]) (rv := fun b => (some (.int r))) (by decide) (fun b => Nat.le_of_ble_eq_true rfl) ⟨Nat.le_refl _, Nat.le_refl _⟩ (fun x X hR Z hN _ _ => ?_)
  have X : Ok x cX12_round 2 RX12 (some .int) := X
  have G : Gz x 2 0 [(0, .ref (xb x + o0))] [] KDF M (f_X12_round o0 M) (PsI2 x KDF) := by
    unfold f_X12_round
    refine g1 (pc' := 1) (w_aload_n X dX12_round_0 rfl 0 rfl) ?_
    refine g1 (pc' := 4) (k_X12_isTower X hR hN Z hk0 mw_1160 (by decide) (Nat.le_of_ble_eq_true rfl) dX12_round_1) ?_
    refine g_if (pcT := 7) (pcF := 10) (w_if_ne (tgt := 10) X dX12_round_4 (by decide)) (fun h1 => ?_) (fun h1 => ?_)
    · refine g1 (pc' := 9) (w_ldc (v := -1000000003) X dX12_round_7 mw_1164) ?_
      exact g_rI2 X dX12_round_9
    · refine g1 (pc' := 11) (w_aload_n X dX12_round_10 rfl 0 rfl) ?_
      refine g_bd (pc' := 14) (fun r2 => [(0, .ref (xb x + o0))]) (fun r2 => []) (fun r2 => r2) (fun r2 h => k_X12_begin X hR hN Z hk0 mw_1253 (by decide) (Nat.le_of_ble_eq_true rfl) dX12_round_11 h) (fun r2 => ?_)
      show Gz x 2 14 [(0, .ref (xb x + o0))] [] KDF r2 _ _
      refine g1 (pc' := 15) (w_iconst X (1) dX12_round_14 (by decide)) ?_
      refine g1 (pc' := 16) (lv' := [(1, .int (1 : Int32)), (0, .ref (xb x + o0))]) (w_istore_n X dX12_round_15 rfl (by decide) rfl) ?_
      refine g_pick (lv' := [(0, .ref (xb x + o0)), (1, .int (1 : Int32))]) [1, 0] rfl ?_
      refine g_bdS (J := 51) (fun e9 => []) (fun e9 => []) (fun e9 => e9) (g_lp (fun s16 => [(0, .ref (xb x + o0)), (1, .int s16.1)]) (fun s16 => s16.2) (fun s16 => ?_) 100000 ((1 : Int32), r2)) (fun e9 => ?_)
      · show Gz x 2 16 [(0, .ref (xb x + o0)), (1, .int s16.1)] [] KDF s16.2 (b_X12_round_16 o0 s16) _
        unfold b_X12_round_16
        refine g1 (pc' := 17) (w_iload_n X dX12_round_16 rfl 1 rfl) ?_
        refine g1 (pc' := 20) (w_sipush X (1000) dX12_round_17 (by decide)) ?_
        refine g_if (pcT := 51) (pcF := 23) (w_icmp_gt (tgt := 51) X dX12_round_20 (by decide)) (fun h3 => ?_) (fun h3 => ?_)
        · refine g_inr ?_
          refine g_inr ?_
          exact g_end [] rfl rfl rfl
        · refine g1 (pc' := 24) (w_aload_n X dX12_round_23 rfl 0 rfl) ?_
          refine g1 (pc' := 25) (w_iconst X (1) dX12_round_24 (by decide)) ?_
          refine g_bd (pc' := 28) (fun r4 => [(0, .ref (xb x + o0)), (1, .int s16.1)]) (fun r4 => []) (fun r4 => r4) (fun r4 h => k_X12_goOn X hR hN Z hk0 mw_1257 (by decide) (Nat.le_of_ble_eq_true rfl) dX12_round_25 h) (fun r4 => ?_)
          show Gz x 2 28 [(0, .ref (xb x + o0)), (1, .int s16.1)] [] KDF r4 _ _
          refine g1 (pc' := 29) (w_aload_n X dX12_round_28 rfl 0 rfl) ?_
          refine g1 (pc' := 30) (w_aload_n X dX12_round_29 rfl 0 rfl) ?_
          refine g1 (pc' := 33) (gt_12_24 X hk0 mw_953 dX12_round_30) ?_
          refine g_bd (pc' := 36) (fun r5 => [(0, .ref (xb x + o0)), (1, .int s16.1)]) (fun r5 => [.int r5]) (fun r5 => r4) (fun r5 h => k_X12_figuresOf X hR hN Z hk0 (kln_of kd_137) mw_1128 (by decide) (Nat.le_of_ble_eq_true rfl) dX12_round_33 h) (fun r5 => ?_)
          show Gz x 2 36 [(0, .ref (xb x + o0)), (1, .int s16.1)] [.int r5] KDF r4 _ _
          refine g1 (pc' := 37) (w_aload_n X dX12_round_36 rfl 0 rfl) ?_
          refine g_bd (pc' := 40) (fun r6 => [(0, .ref (xb x + o0)), (1, .int s16.1)]) (fun r6 => [.int r6, .int r5]) (fun r6 => r4) (fun r6 h => k_X12_roundsNow X hR hN Z hk0 mw_1269 (by decide) (Nat.le_of_ble_eq_true rfl) dX12_round_37 h) (fun r6 => ?_)
          show Gz x 2 40 [(0, .ref (xb x + o0)), (1, .int s16.1)] [.int r6, .int r5] KDF r4 _ _
          refine g_if (pcT := 43) (pcF := 45) (w_icmp_ne (tgt := 45) X dX12_round_40 (by decide)) (fun h7 => ?_) (fun h7 => ?_)
          · refine g1 (pc' := 44) (w_iload_n X dX12_round_43 rfl 1 rfl) ?_
            refine g_inr ?_
            refine g_inl ?_
            exact g_rI2 X dX12_round_44
          · refine g_lt (pc' := 48) (fun v8 => [(1, .int v8), (0, .ref (xb x + o0))]) (fun v8 => []) (fun v8 => r4) (w_iinc X dX12_round_45 1 rfl rfl (by decide) rfl) (fun v8 => ?_)
            show Gz x 2 48 [(1, .int v8), (0, .ref (xb x + o0))] [] KDF r4 _ _
            refine g1 (pc' := 16) (w_goto X dX12_round_48 (by decide)) ?_
            refine g_inl ?_
            exact g_end [1, 0] rfl rfl rfl
      · show Gz x 2 51 [] [] KDF e9 _ _
        refine g1 (pc' := 52) (w_iconst X (-1) dX12_round_51 (by decide)) ?_
        exact g_rI2 X dX12_round_52
  exact G _ h _ rfl
theorem k_X12_round {x : Cxt} {cc : ByteArray} {nL : Nat} {own : String} {ret : Option FieldType} (X : Ok x cc nL own ret) {d : Nat} (hR : Rm x d KDF) (hN : Nst x) (Z : xz x = 0) {pc : Nat} {lv : List (Nat × Value)} {rest : List Value} {M : Mm} {o0 : Nat} (hk0 : KDF[o0]? = some (12, 0)) {idx : Nat} (hw : Cond.methodLink own idx yX12_round ∈ tbG) (hdd : 5 + 1 ≤ d) (hrm : (rest.map fun v => v.category).sum ≤ 8) (hd : decode cc pc = .ok (.invokevirtual idx, 3)) {r : Int32} {M' : Mm} (h : f_X12_round o0 M = some (r, M')) : StpZ x nL pc lv (.ref (xb x + o0) :: rest) KDF M (pc + 3) lv (.int r :: rest) KDF M' :=
  w_callV (st := []) (As := []) X hR hN (CtX0 Z (c_X12_round hk0 h)) ⟨Nat.le_refl _, Nat.le_refl _⟩ ⟨Nat.le_refl _, Nat.le_refl _⟩ hk0 (ci := 12) (fs := fs_12 o0) (fun _ _ _ => rfl) rfl hw mw_1266 mw_1267 mw_72 mw_1268 (n := 0) (by decide +kernel) rfl hdd (by decide) hrm hd
def b_X12_isNew_2 (o0 : Nat) (x1 : Int32) (M : Mm) (s2 : Int32) : Option ((Int32) ⊕ ((Int32 × Mm) ⊕ (Unit))) :=
  (if (M o0 36) ≤ s2 then some (.inr (.inr ())) else Gd (ib s2 1001) ((if (M 144 (ix s2)) = x1 then some (.inr (.inl ((0 : Int32), M))) else Lt (s2 + (1 : Int32)) (fun v4 => some (.inl v4)))))
def f_X12_isNew (o0 : Nat) (x1 : Int32) (M : Mm) : Option (Int32 × Mm) :=
  BdS (Lp (b_X12_isNew_2 o0 x1 M) 100000 (0 : Int32)) (fun e5 => Gd (ib (M o0 36) 1001) (Lt (st2 M 144 (ix (M o0 36)) x1) (fun M7 => Lt (st2 M7 o0 36 ((M7 o0 36) + (1 : Int32))) (fun M8 => some ((1 : Int32), M8)))))
set_option maxRecDepth 100000 in
set_option maxHeartbeats 4000000 in
theorem c_X12_isNew {l : Launch} {D : va_G} {an : An} {b : Nat} {o0 : Nat} {x1 : Int32} (hk0 : KDF[o0]? = some (12, 0)) {M : Mm} {r : Int32} {M' : Mm} (h : f_X12_isNew o0 x1 M = some (r, M')) : Ct l D an b 0 yX12_isNew cX12_isNew 3 (some .boolean) 1 [.ref (b + o0), .int x1] KDF M (some (.int r)) KDF M' := by
  refine CtX.mk (as := fun b => [.ref (b + o0), .int x1]) (rv := fun b => (some (.int r))) (by decide) (fun b => Nat.le_of_ble_eq_true rfl) ⟨Nat.le_refl _, Nat.le_refl _⟩ (fun x X hR Z hN _ _ => ?_)
  have X : Ok x cX12_isNew 3 RX12 (some .boolean) := X
  have G : Gz x 3 0 [(0, .ref (xb x + o0)), (1, .int x1)] [] KDF M (f_X12_isNew o0 x1 M) (PsI2 x KDF) := by
    unfold f_X12_isNew
    refine g1 (pc' := 1) (w_iconst X (0) dX12_isNew_0 (by decide)) ?_
    refine g1 (pc' := 2) (lv' := [(2, .int (0 : Int32)), (0, .ref (xb x + o0)), (1, .int x1)]) (w_istore_n X dX12_isNew_1 rfl (by decide) rfl) ?_
    refine g_pick (lv' := [(0, .ref (xb x + o0)), (1, .int x1), (2, .int (0 : Int32))]) [1, 2, 0] rfl ?_
    refine g_bdS (J := 28) (fun e5 => [(0, .ref (xb x + o0)), (1, .int x1)]) (fun e5 => []) (fun e5 => M) (g_lp (fun s2 => [(0, .ref (xb x + o0)), (1, .int x1), (2, .int s2)]) (fun s2 => M) (fun s2 => ?_) 100000 (0 : Int32)) (fun e5 => ?_)
    · show Gz x 3 2 [(0, .ref (xb x + o0)), (1, .int x1), (2, .int s2)] [] KDF M (b_X12_isNew_2 o0 x1 M s2) _
      unfold b_X12_isNew_2
      refine g1 (pc' := 3) (w_iload_n X dX12_isNew_2 rfl 2 rfl) ?_
      refine g1 (pc' := 4) (w_aload_n X dX12_isNew_3 rfl 0 rfl) ?_
      refine g1 (pc' := 7) (gt_12_36 X hk0 mw_965 dX12_isNew_4) ?_
      refine g_if (pcT := 28) (pcF := 10) (w_icmp_ge (tgt := 28) X dX12_isNew_7 (by decide)) (fun h1 => ?_) (fun h1 => ?_)
      · refine g_inr ?_
        refine g_inr ?_
        exact g_end [0, 1] rfl rfl rfl
      · refine g1 (pc' := 11) (w_aload_n X dX12_isNew_10 rfl 0 rfl) ?_
        refine g1 (pc' := 14) (gt_12_35 X hk0 mw_964 dX12_isNew_11) ?_
        refine g1 (pc' := 15) (w_iload_n X dX12_isNew_14 rfl 2 rfl) ?_
        refine g_gd (fun h2 => ?_)
        refine g1 (pc' := 16) (w_iald X kd_144 h2 dX12_isNew_15) ?_
        refine g1 (pc' := 17) (w_iload_n X dX12_isNew_16 rfl 1 rfl) ?_
        refine g_if (pcT := 20) (pcF := 22) (w_icmp_ne (tgt := 22) X dX12_isNew_17 (by decide)) (fun h3 => ?_) (fun h3 => ?_)
        · refine g1 (pc' := 21) (w_iconst X (0) dX12_isNew_20 (by decide)) ?_
          refine g_inr ?_
          refine g_inl ?_
          exact g_rZ2 X zb0 dX12_isNew_21
        · refine g_lt (pc' := 25) (fun v4 => [(2, .int v4), (0, .ref (xb x + o0)), (1, .int x1)]) (fun v4 => []) (fun v4 => M) (w_iinc X dX12_isNew_22 2 rfl rfl (by decide) rfl) (fun v4 => ?_)
          show Gz x 3 25 [(2, .int v4), (0, .ref (xb x + o0)), (1, .int x1)] [] KDF M _ _
          refine g1 (pc' := 2) (w_goto X dX12_isNew_25 (by decide)) ?_
          refine g_inl ?_
          exact g_end [1, 2, 0] rfl rfl rfl
    · show Gz x 3 28 [(0, .ref (xb x + o0)), (1, .int x1)] [] KDF M _ _
      refine g1 (pc' := 29) (w_aload_n X dX12_isNew_28 rfl 0 rfl) ?_
      refine g1 (pc' := 32) (gt_12_35 X hk0 mw_964 dX12_isNew_29) ?_
      refine g1 (pc' := 33) (w_aload_n X dX12_isNew_32 rfl 0 rfl) ?_
      refine g1 (pc' := 36) (gt_12_36 X hk0 mw_965 dX12_isNew_33) ?_
      refine g1 (pc' := 37) (w_iload_n X dX12_isNew_36 rfl 1 rfl) ?_
      refine g_gd (fun h6 => ?_)
      refine g_lt (pc' := 38) (fun M7 => [(0, .ref (xb x + o0)), (1, .int x1)]) (fun M7 => []) (fun M7 => M7) (w_iast X Z kd_144 h6 dX12_isNew_37) (fun M7 => ?_)
      show Gz x 3 38 [(0, .ref (xb x + o0)), (1, .int x1)] [] KDF M7 _ _
      refine g1 (pc' := 39) (w_aload_n X dX12_isNew_38 rfl 0 rfl) ?_
      refine g1 (pc' := 40) (w_dup X dX12_isNew_39 rfl) ?_
      refine g1 (pc' := 43) (gt_12_36 X hk0 mw_965 dX12_isNew_40) ?_
      refine g1 (pc' := 44) (w_iconst X (1) dX12_isNew_43 (by decide)) ?_
      refine g1 (pc' := 45) (w_iadd X dX12_isNew_44) ?_
      refine g_lt (pc' := 48) (fun M8 => [(0, .ref (xb x + o0)), (1, .int x1)]) (fun M8 => []) (fun M8 => M8) (pt_12_36 X Z hk0 mw_965 dX12_isNew_45) (fun M8 => ?_)
      show Gz x 3 48 [(0, .ref (xb x + o0)), (1, .int x1)] [] KDF M8 _ _
      refine g1 (pc' := 49) (w_iconst X (1) dX12_isNew_48 (by decide)) ?_
      exact g_rZ2 X zb1 dX12_isNew_49
  exact G _ h _ rfl
theorem k_X12_isNew {x : Cxt} {cc : ByteArray} {nL : Nat} {own : String} {ret : Option FieldType} (X : Ok x cc nL own ret) {d : Nat} (hR : Rm x d KDF) (hN : Nst x) (Z : xz x = 0) {pc : Nat} {lv : List (Nat × Value)} {rest : List Value} {M : Mm} {o0 : Nat} {x1 : Int32} (hk0 : KDF[o0]? = some (12, 0)) {idx : Nat} (hw : Cond.methodLink own idx yX12_isNew ∈ tbG) (hdd : 1 + 1 ≤ d) (hrm : (rest.map fun v => v.category).sum ≤ 8) (hd : decode cc pc = .ok (.invokevirtual idx, 3)) {r : Int32} {M' : Mm} (h : f_X12_isNew o0 x1 M = some (r, M')) : StpZ x nL pc lv (.int x1 :: .ref (xb x + o0) :: rest) KDF M (pc + 3) lv (.int r :: rest) KDF M' :=
  w_callV (st := []) (As := [.int x1]) X hR hN (CtX0 Z (c_X12_isNew hk0 h)) ⟨Nat.le_refl _, Nat.le_refl _⟩ ⟨Nat.le_refl _, Nat.le_refl _⟩ hk0 (ci := 12) (fs := fs_12 o0) (fun _ _ _ => rfl) rfl hw mw_1279 mw_54 mw_72 mw_1280 (n := 1) (by decide +kernel) rfl hdd (by decide) hrm hd
def b_X12_trueFor_34 (o0 : Nat) (s34 : Int32 × Int32 × Mm) : Option ((Int32 × Int32 × Mm) ⊕ (Int32 × Mm)) :=
  (if s34.2.1 = 0 then some (.inr (s34.1, s34.2.2)) else Bd (f_X12_goOn o0 (1 : Int32) s34.2.2) (fun r7 => Bd (f_X12_figuresOf o0 137 r7) (fun r8 => Bd (f_X12_isNew o0 r8 r7) (fun r9 => Lt (((if r9.1 = 0 then (0 : Int32) else (1 : Int32))) : Int32) (fun j10 => Lt (s34.1 + j10) (fun v12 => some (.inl (v12, r9.1, r9.2))))))))
def f_X12_trueFor (o0 : Nat) (M : Mm) : Option (Int32 × Mm) :=
  (if (f_X12_isTower o0 M) = 0 then some ((-1000000003 : Int32), M) else Bd (f_X12_begin o0 M) (fun r2 => Lt (st2 r2 o0 36 (0 : Int32)) (fun M3 => Bd (f_X12_figuresOf o0 137 M3) (fun r4 => Bd (f_X12_isNew o0 r4 M3) (fun r5 => Bd (Lp (b_X12_trueFor_34 o0) 100000 ((0 : Int32), r5.1, r5.2)) (fun e13 => some (e13.1, e13.2)))))))
set_option maxRecDepth 100000 in
set_option maxHeartbeats 4000000 in
theorem c_X12_trueFor {l : Launch} {D : va_G} {an : An} {b : Nat} {o0 : Nat} (hk0 : KDF[o0]? = some (12, 0)) {M : Mm} {r : Int32} {M' : Mm} (h : f_X12_trueFor o0 M = some (r, M')) : Ct l D an b 0 yX12_trueFor cX12_trueFor 3 (some .int) 5 [.ref (b + o0)] KDF M (some (.int r)) KDF M' := by
  refine CtX.mk (as := fun b => [.ref (b + o0)]) (rv := fun b => (some (.int r))) (by decide) (fun b => Nat.le_of_ble_eq_true rfl) ⟨Nat.le_refl _, Nat.le_refl _⟩ (fun x X hR Z hN _ _ => ?_)
  have X : Ok x cX12_trueFor 3 RX12 (some .int) := X
  have G : Gz x 3 0 [(0, .ref (xb x + o0))] [] KDF M (f_X12_trueFor o0 M) (PsI2 x KDF) := by
    unfold f_X12_trueFor
    refine g1 (pc' := 1) (w_aload_n X dX12_trueFor_0 rfl 0 rfl) ?_
    refine g1 (pc' := 4) (k_X12_isTower X hR hN Z hk0 mw_1160 (by decide) (Nat.le_of_ble_eq_true rfl) dX12_trueFor_1) ?_
    refine g_if (pcT := 7) (pcF := 10) (w_if_ne (tgt := 10) X dX12_trueFor_4 (by decide)) (fun h1 => ?_) (fun h1 => ?_)
    · refine g1 (pc' := 9) (w_ldc (v := -1000000003) X dX12_trueFor_7 mw_1164) ?_
      exact g_rI2 X dX12_trueFor_9
    · refine g1 (pc' := 11) (w_aload_n X dX12_trueFor_10 rfl 0 rfl) ?_
      refine g_bd (pc' := 14) (fun r2 => [(0, .ref (xb x + o0))]) (fun r2 => []) (fun r2 => r2) (fun r2 h => k_X12_begin X hR hN Z hk0 mw_1253 (by decide) (Nat.le_of_ble_eq_true rfl) dX12_trueFor_11 h) (fun r2 => ?_)
      show Gz x 3 14 [(0, .ref (xb x + o0))] [] KDF r2 _ _
      refine g1 (pc' := 15) (w_aload_n X dX12_trueFor_14 rfl 0 rfl) ?_
      refine g1 (pc' := 16) (w_iconst X (0) dX12_trueFor_15 (by decide)) ?_
      refine g_lt (pc' := 19) (fun M3 => [(0, .ref (xb x + o0))]) (fun M3 => []) (fun M3 => M3) (pt_12_36 X Z hk0 mw_965 dX12_trueFor_16) (fun M3 => ?_)
      show Gz x 3 19 [(0, .ref (xb x + o0))] [] KDF M3 _ _
      refine g1 (pc' := 20) (w_iconst X (0) dX12_trueFor_19 (by decide)) ?_
      refine g1 (pc' := 21) (lv' := [(1, .int (0 : Int32)), (0, .ref (xb x + o0))]) (w_istore_n X dX12_trueFor_20 rfl (by decide) rfl) ?_
      refine g1 (pc' := 22) (w_aload_n X dX12_trueFor_21 rfl 1 rfl) ?_
      refine g1 (pc' := 23) (w_aload_n X dX12_trueFor_22 rfl 1 rfl) ?_
      refine g1 (pc' := 24) (w_aload_n X dX12_trueFor_23 rfl 1 rfl) ?_
      refine g1 (pc' := 27) (gt_12_24 X hk0 mw_953 dX12_trueFor_24) ?_
      refine g_bd (pc' := 30) (fun r4 => [(1, .int (0 : Int32)), (0, .ref (xb x + o0))]) (fun r4 => [.int r4, .ref (xb x + o0)]) (fun r4 => M3) (fun r4 h => k_X12_figuresOf X hR hN Z hk0 (kln_of kd_137) mw_1128 (by decide) (Nat.le_of_ble_eq_true rfl) dX12_trueFor_27 h) (fun r4 => ?_)
      show Gz x 3 30 [(1, .int (0 : Int32)), (0, .ref (xb x + o0))] [.int r4, .ref (xb x + o0)] KDF M3 _ _
      refine g_bd (pc' := 33) (fun r5 => [(1, .int (0 : Int32)), (0, .ref (xb x + o0))]) (fun r5 => [.int r5.1]) (fun r5 => r5.2) (fun r5 h => k_X12_isNew X hR hN Z hk0 mw_1277 (by decide) (Nat.le_of_ble_eq_true rfl) dX12_trueFor_30 h) (fun r5 => ?_)
      show Gz x 3 33 [(1, .int (0 : Int32)), (0, .ref (xb x + o0))] [.int r5.1] KDF r5.2 _ _
      refine g1 (pc' := 34) (lv' := [(2, .int r5.1), (1, .int (0 : Int32)), (0, .ref (xb x + o0))]) (w_istore_n X dX12_trueFor_33 rfl (by decide) rfl) ?_
      refine g_pick (lv' := [(0, .ref (xb x + o0)), (1, .int (0 : Int32)), (2, .int r5.1)]) [2, 1, 0] rfl ?_
      refine g_bdJ (J := 71) (fun e13 => [(1, .int e13.1)]) (fun e13 => []) (fun e13 => e13.2) (g_lp (fun s34 => [(0, .ref (xb x + o0)), (1, .int s34.1), (2, .int s34.2.1)]) (fun s34 => s34.2.2) (fun s34 => ?_) 100000 ((0 : Int32), r5.1, r5.2)) (fun e13 => ?_)
      · show Gz x 3 34 [(0, .ref (xb x + o0)), (1, .int s34.1), (2, .int s34.2.1)] [] KDF s34.2.2 (b_X12_trueFor_34 o0 s34) _
        unfold b_X12_trueFor_34
        refine g1 (pc' := 35) (w_iload_n X dX12_trueFor_34 rfl 2 rfl) ?_
        refine g_if (pcT := 71) (pcF := 38) (w_if_eq (tgt := 71) X dX12_trueFor_35 (by decide)) (fun h6 => ?_) (fun h6 => ?_)
        · refine g_inr ?_
          exact g_end [1] rfl rfl rfl
        · refine g1 (pc' := 39) (w_aload_n X dX12_trueFor_38 rfl 0 rfl) ?_
          refine g1 (pc' := 40) (w_iconst X (1) dX12_trueFor_39 (by decide)) ?_
          refine g_bd (pc' := 43) (fun r7 => [(0, .ref (xb x + o0)), (1, .int s34.1), (2, .int s34.2.1)]) (fun r7 => []) (fun r7 => r7) (fun r7 h => k_X12_goOn X hR hN Z hk0 mw_1257 (by decide) (Nat.le_of_ble_eq_true rfl) dX12_trueFor_40 h) (fun r7 => ?_)
          show Gz x 3 43 [(0, .ref (xb x + o0)), (1, .int s34.1), (2, .int s34.2.1)] [] KDF r7 _ _
          refine g1 (pc' := 44) (w_aload_n X dX12_trueFor_43 rfl 0 rfl) ?_
          refine g1 (pc' := 45) (w_aload_n X dX12_trueFor_44 rfl 0 rfl) ?_
          refine g1 (pc' := 46) (w_aload_n X dX12_trueFor_45 rfl 0 rfl) ?_
          refine g1 (pc' := 49) (gt_12_24 X hk0 mw_953 dX12_trueFor_46) ?_
          refine g_bd (pc' := 52) (fun r8 => [(0, .ref (xb x + o0)), (1, .int s34.1), (2, .int s34.2.1)]) (fun r8 => [.int r8, .ref (xb x + o0)]) (fun r8 => r7) (fun r8 h => k_X12_figuresOf X hR hN Z hk0 (kln_of kd_137) mw_1128 (by decide) (Nat.le_of_ble_eq_true rfl) dX12_trueFor_49 h) (fun r8 => ?_)
          show Gz x 3 52 [(0, .ref (xb x + o0)), (1, .int s34.1), (2, .int s34.2.1)] [.int r8, .ref (xb x + o0)] KDF r7 _ _
          refine g_bd (pc' := 55) (fun r9 => [(0, .ref (xb x + o0)), (1, .int s34.1), (2, .int s34.2.1)]) (fun r9 => [.int r9.1]) (fun r9 => r9.2) (fun r9 h => k_X12_isNew X hR hN Z hk0 mw_1277 (by decide) (Nat.le_of_ble_eq_true rfl) dX12_trueFor_52 h) (fun r9 => ?_)
          show Gz x 3 55 [(0, .ref (xb x + o0)), (1, .int s34.1), (2, .int s34.2.1)] [.int r9.1] KDF r9.2 _ _
          refine g1 (pc' := 56) (lv' := [(2, .int r9.1), (0, .ref (xb x + o0)), (1, .int s34.1)]) (w_istore_n X dX12_trueFor_55 rfl (by decide) rfl) ?_
          refine g1 (pc' := 57) (w_iload_n X dX12_trueFor_56 rfl 2 rfl) ?_
          refine g1 (pc' := 58) (w_iload_n X dX12_trueFor_57 rfl 0 rfl) ?_
          refine g_ltJ (J := 66) (fun j10 => [(0, .ref (xb x + o0)), (2, .int r9.1)]) (fun j10 => [.int j10, .int s34.1]) (fun j10 => r9.2) ?_ (fun j10 => ?_)
          · refine g_ifS (pcT := 65) (pcF := 61) (w_if_eq (tgt := 65) X dX12_trueFor_58 (by decide)) (fun h11 => ?_) (fun h11 => ?_)
            · refine g1 (pc' := 66) (w_iconst X (0) dX12_trueFor_65 (by decide)) ?_
              exact g_end [1, 0] rfl rfl rfl
            · refine g1 (pc' := 62) (w_iconst X (1) dX12_trueFor_61 (by decide)) ?_
              refine g1 (pc' := 66) (w_goto X dX12_trueFor_62 (by decide)) ?_
              exact g_end [1, 0] rfl rfl rfl
          · show Gz x 3 66 [(0, .ref (xb x + o0)), (2, .int r9.1)] [.int j10, .int s34.1] KDF r9.2 _ _
            refine g1 (pc' := 67) (w_iadd X dX12_trueFor_66) ?_
            refine g_lt (pc' := 68) (fun v12 => [(1, .int v12), (0, .ref (xb x + o0)), (2, .int r9.1)]) (fun v12 => []) (fun v12 => r9.2) (w_istore_n X dX12_trueFor_67 rfl (by decide) rfl) (fun v12 => ?_)
            show Gz x 3 68 [(1, .int v12), (0, .ref (xb x + o0)), (2, .int r9.1)] [] KDF r9.2 _ _
            refine g1 (pc' := 34) (w_goto X dX12_trueFor_68 (by decide)) ?_
            refine g_inl ?_
            exact g_end [1, 0, 2] rfl rfl rfl
      · show Gz x 3 71 [(1, .int e13.1)] [] KDF e13.2 _ _
        refine g1 (pc' := 72) (w_iload_n X dX12_trueFor_71 rfl 0 rfl) ?_
        exact g_rI2 X dX12_trueFor_72
  exact G _ h _ rfl
theorem k_X12_trueFor {x : Cxt} {cc : ByteArray} {nL : Nat} {own : String} {ret : Option FieldType} (X : Ok x cc nL own ret) {d : Nat} (hR : Rm x d KDF) (hN : Nst x) (Z : xz x = 0) {pc : Nat} {lv : List (Nat × Value)} {rest : List Value} {M : Mm} {o0 : Nat} (hk0 : KDF[o0]? = some (12, 0)) {idx : Nat} (hw : Cond.methodLink own idx yX12_trueFor ∈ tbG) (hdd : 5 + 1 ≤ d) (hrm : (rest.map fun v => v.category).sum ≤ 8) (hd : decode cc pc = .ok (.invokevirtual idx, 3)) {r : Int32} {M' : Mm} (h : f_X12_trueFor o0 M = some (r, M')) : StpZ x nL pc lv (.ref (xb x + o0) :: rest) KDF M (pc + 3) lv (.int r :: rest) KDF M' :=
  w_callV (st := []) (As := []) X hR hN (CtX0 Z (c_X12_trueFor hk0 h)) ⟨Nat.le_refl _, Nat.le_refl _⟩ ⟨Nat.le_refl _, Nat.le_refl _⟩ hk0 (ci := 12) (fs := fs_12 o0) (fun _ _ _ => rfl) rfl hw mw_1274 mw_1275 mw_72 mw_1276 (n := 0) (by decide +kernel) rfl hdd (by decide) hrm hd
def b_X12_isTouch_21 (o0 : Nat) (x1 : Int32) (x2 : Int32) (s21 : Int32 × Int32 × Mm) : Option ((Int32 × Int32 × Mm) ⊕ (Int32 × Mm)) :=
  (if (x1 * (s21.2.2 o0 17)) ≤ s21.2.1 then some (.inr (s21.1, s21.2.2)) else (if s21.1 = 0 then some (.inr (s21.1, s21.2.2)) else Bd (f_X12_figuresOf o0 137 s21.2.2) (fun r6 => Bd (f_X12_isNew o0 r6 s21.2.2) (fun r7 => Gd (¬ (r7.2 o0 17) = 0) (Bd (((if (rm s21.2.1 (r7.2 o0 17)) = ((r7.2 o0 17) - (1 : Int32)) then Gd (¬ (r7.2 o0 17) = 0) ((if (f_X12_has x2 (s21.2.1 / (r7.2 o0 17))) = 0 then some (0 : Int32) else some (1 : Int32))) else some (0 : Int32))) : Option (Int32)) (fun j10 => Lt (st2 r7.2 137 (ix (2 : Int32)) j10) (fun M14 => Bd (f_X12_goOn o0 (1 : Int32) M14) (fun r15 => Lt (s21.2.1 + (1 : Int32)) (fun v16 => some (.inl (r7.1, v16, r15)))))))))))
def f_X12_isTouch (o0 : Nat) (x1 : Int32) (x2 : Int32) (M : Mm) : Option (Int32 × Mm) :=
  Bd (f_X12_begin o0 M) (fun r1 => Bd (f_X12_toRounds 137 r1) (fun r2 => Lt (st2 r2 o0 36 (0 : Int32)) (fun M3 => Bd (Lp (b_X12_isTouch_21 o0 x1 x2) 100000 ((1 : Int32), (0 : Int32), M3)) (fun e17 => (if e17.1 = 0 then some ((0 : Int32), e17.2) else Bd (f_X12_figuresOf o0 137 e17.2) (fun r19 => Bd (f_X12_roundsNow o0 e17.2) (fun r20 => (if r19 = r20 then some ((1 : Int32), e17.2) else some ((0 : Int32), e17.2)))))))))
set_option maxRecDepth 100000 in
set_option maxHeartbeats 4000000 in
theorem c_X12_isTouch {l : Launch} {D : va_G} {an : An} {b : Nat} {o0 : Nat} {x1 : Int32} {x2 : Int32} (hk0 : KDF[o0]? = some (12, 0)) {M : Mm} {r : Int32} {M' : Mm} (h : f_X12_isTouch o0 x1 x2 M = some (r, M')) : Ct l D an b 0 yX12_isTouch cX12_isTouch 5 (some .boolean) 5 [.ref (b + o0), .int x1, .int x2] KDF M (some (.int r)) KDF M' := by
  refine CtX.mk (as := fun b => [.ref (b + o0), .int x1, .int x2]) (rv := fun b => (some (.int r))) (by decide) (fun b => Nat.le_of_ble_eq_true rfl) ⟨Nat.le_refl _, Nat.le_refl _⟩ (fun x X hR Z hN _ _ => ?_)
  have X : Ok x cX12_isTouch 5 RX12 (some .boolean) := X
  have G : Gz x 5 0 [(0, .ref (xb x + o0)), (1, .int x1), (2, .int x2)] [] KDF M (f_X12_isTouch o0 x1 x2 M) (PsI2 x KDF) := by
    unfold f_X12_isTouch
    refine g1 (pc' := 1) (w_aload_n X dX12_isTouch_0 rfl 0 rfl) ?_
    refine g_bd (pc' := 4) (fun r1 => [(0, .ref (xb x + o0)), (1, .int x1), (2, .int x2)]) (fun r1 => []) (fun r1 => r1) (fun r1 h => k_X12_begin X hR hN Z hk0 mw_1253 (by decide) (Nat.le_of_ble_eq_true rfl) dX12_isTouch_1 h) (fun r1 => ?_)
    show Gz x 5 4 [(0, .ref (xb x + o0)), (1, .int x1), (2, .int x2)] [] KDF r1 _ _
    refine g1 (pc' := 5) (w_aload_n X dX12_isTouch_4 rfl 0 rfl) ?_
    refine g1 (pc' := 8) (gt_12_24 X hk0 mw_953 dX12_isTouch_5) ?_
    refine g_bd (pc' := 11) (fun r2 => [(0, .ref (xb x + o0)), (1, .int x1), (2, .int x2)]) (fun r2 => []) (fun r2 => r2) (fun r2 h => k_X12_toRounds X hR hN Z (kln_of kd_137) mw_1117 (by decide) (Nat.le_of_ble_eq_true rfl) dX12_isTouch_8 h) (fun r2 => ?_)
    show Gz x 5 11 [(0, .ref (xb x + o0)), (1, .int x1), (2, .int x2)] [] KDF r2 _ _
    refine g1 (pc' := 12) (w_aload_n X dX12_isTouch_11 rfl 0 rfl) ?_
    refine g1 (pc' := 13) (w_iconst X (0) dX12_isTouch_12 (by decide)) ?_
    refine g_lt (pc' := 16) (fun M3 => [(0, .ref (xb x + o0)), (1, .int x1), (2, .int x2)]) (fun M3 => []) (fun M3 => M3) (pt_12_36 X Z hk0 mw_965 dX12_isTouch_13) (fun M3 => ?_)
    show Gz x 5 16 [(0, .ref (xb x + o0)), (1, .int x1), (2, .int x2)] [] KDF M3 _ _
    refine g1 (pc' := 17) (w_iconst X (1) dX12_isTouch_16 (by decide)) ?_
    refine g1 (pc' := 18) (lv' := [(3, .int (1 : Int32)), (0, .ref (xb x + o0)), (1, .int x1), (2, .int x2)]) (w_istore_n X dX12_isTouch_17 rfl (by decide) rfl) ?_
    refine g1 (pc' := 19) (w_iconst X (0) dX12_isTouch_18 (by decide)) ?_
    refine g1 (pc' := 21) (lv' := [(4, .int (0 : Int32)), (3, .int (1 : Int32)), (0, .ref (xb x + o0)), (1, .int x1), (2, .int x2)]) (w_istore X dX12_isTouch_19 (by decide) rfl) ?_
    refine g_pick (lv' := [(0, .ref (xb x + o0)), (1, .int x1), (2, .int x2), (3, .int (1 : Int32)), (4, .int (0 : Int32))]) [2, 3, 4, 1, 0] rfl ?_
    refine g_bdJ (J := 101) (fun e17 => [(0, .ref (xb x + o0)), (3, .int e17.1)]) (fun e17 => []) (fun e17 => e17.2) (g_lp (fun s21 => [(0, .ref (xb x + o0)), (1, .int x1), (2, .int x2), (3, .int s21.1), (4, .int s21.2.1)]) (fun s21 => s21.2.2) (fun s21 => ?_) 100000 ((1 : Int32), (0 : Int32), M3)) (fun e17 => ?_)
    · show Gz x 5 21 [(0, .ref (xb x + o0)), (1, .int x1), (2, .int x2), (3, .int s21.1), (4, .int s21.2.1)] [] KDF s21.2.2 (b_X12_isTouch_21 o0 x1 x2 s21) _
      unfold b_X12_isTouch_21
      refine g1 (pc' := 23) (w_iload X dX12_isTouch_21 4 rfl) ?_
      refine g1 (pc' := 24) (w_iload_n X dX12_isTouch_23 rfl 1 rfl) ?_
      refine g1 (pc' := 25) (w_aload_n X dX12_isTouch_24 rfl 0 rfl) ?_
      refine g1 (pc' := 28) (gt_12_17 X hk0 mw_946 dX12_isTouch_25) ?_
      refine g1 (pc' := 29) (w_imul X dX12_isTouch_28) ?_
      refine g_if (pcT := 101) (pcF := 32) (w_icmp_ge (tgt := 101) X dX12_isTouch_29 (by decide)) (fun h4 => ?_) (fun h4 => ?_)
      · refine g_inr ?_
        exact g_end [0, 3] rfl rfl rfl
      · refine g1 (pc' := 33) (w_iload_n X dX12_isTouch_32 rfl 3 rfl) ?_
        refine g_if (pcT := 101) (pcF := 36) (w_if_eq (tgt := 101) X dX12_isTouch_33 (by decide)) (fun h5 => ?_) (fun h5 => ?_)
        · refine g_inr ?_
          exact g_end [0, 3] rfl rfl rfl
        · refine g1 (pc' := 37) (w_aload_n X dX12_isTouch_36 rfl 0 rfl) ?_
          refine g1 (pc' := 38) (w_aload_n X dX12_isTouch_37 rfl 0 rfl) ?_
          refine g1 (pc' := 39) (w_aload_n X dX12_isTouch_38 rfl 0 rfl) ?_
          refine g1 (pc' := 42) (gt_12_24 X hk0 mw_953 dX12_isTouch_39) ?_
          refine g_bd (pc' := 45) (fun r6 => [(0, .ref (xb x + o0)), (1, .int x1), (2, .int x2), (3, .int s21.1), (4, .int s21.2.1)]) (fun r6 => [.int r6, .ref (xb x + o0)]) (fun r6 => s21.2.2) (fun r6 h => k_X12_figuresOf X hR hN Z hk0 (kln_of kd_137) mw_1128 (by decide) (Nat.le_of_ble_eq_true rfl) dX12_isTouch_42 h) (fun r6 => ?_)
          show Gz x 5 45 [(0, .ref (xb x + o0)), (1, .int x1), (2, .int x2), (3, .int s21.1), (4, .int s21.2.1)] [.int r6, .ref (xb x + o0)] KDF s21.2.2 _ _
          refine g_bd (pc' := 48) (fun r7 => [(0, .ref (xb x + o0)), (1, .int x1), (2, .int x2), (3, .int s21.1), (4, .int s21.2.1)]) (fun r7 => [.int r7.1]) (fun r7 => r7.2) (fun r7 h => k_X12_isNew X hR hN Z hk0 mw_1277 (by decide) (Nat.le_of_ble_eq_true rfl) dX12_isTouch_45 h) (fun r7 => ?_)
          show Gz x 5 48 [(0, .ref (xb x + o0)), (1, .int x1), (2, .int x2), (3, .int s21.1), (4, .int s21.2.1)] [.int r7.1] KDF r7.2 _ _
          refine g1 (pc' := 49) (lv' := [(3, .int r7.1), (0, .ref (xb x + o0)), (1, .int x1), (2, .int x2), (4, .int s21.2.1)]) (w_istore_n X dX12_isTouch_48 rfl (by decide) rfl) ?_
          refine g1 (pc' := 50) (w_aload_n X dX12_isTouch_49 rfl 1 rfl) ?_
          refine g1 (pc' := 53) (gt_12_24 X hk0 mw_953 dX12_isTouch_50) ?_
          refine g1 (pc' := 54) (w_iconst X (2) dX12_isTouch_53 (by decide)) ?_
          refine g1 (pc' := 56) (w_iload X dX12_isTouch_54 4 rfl) ?_
          refine g1 (pc' := 57) (w_aload_n X dX12_isTouch_56 rfl 1 rfl) ?_
          refine g1 (pc' := 60) (gt_12_17 X hk0 mw_946 dX12_isTouch_57) ?_
          refine g_gd (fun h8 => ?_)
          refine g1 (pc' := 61) (w_irem X dX12_isTouch_60 h8) ?_
          refine g1 (pc' := 62) (w_aload_n X dX12_isTouch_61 rfl 1 rfl) ?_
          refine g1 (pc' := 65) (gt_12_17 X hk0 mw_946 dX12_isTouch_62) ?_
          refine g1 (pc' := 66) (w_iconst X (1) dX12_isTouch_65 (by decide)) ?_
          refine g1 (pc' := 67) (w_isub X dX12_isTouch_66) ?_
          refine g_bdJ (J := 89) (fun j10 => [(0, .ref (xb x + o0)), (1, .int x1), (2, .int x2), (3, .int r7.1), (4, .int s21.2.1)]) (fun j10 => [.int j10, .int (2 : Int32), .ref (xb x + 137)]) (fun j10 => r7.2) ?_ (fun j10 => ?_)
          · refine g_if (pcT := 70) (pcF := 88) (w_icmp_ne (tgt := 88) X dX12_isTouch_67 (by decide)) (fun h11 => ?_) (fun h11 => ?_)
            · refine g1 (pc' := 71) (w_iload_n X dX12_isTouch_70 rfl 3 rfl) ?_
              refine g1 (pc' := 73) (w_iload X dX12_isTouch_71 4 rfl) ?_
              refine g1 (pc' := 74) (w_aload_n X dX12_isTouch_73 rfl 1 rfl) ?_
              refine g1 (pc' := 77) (gt_12_17 X hk0 mw_946 dX12_isTouch_74) ?_
              refine g_gd (fun h12 => ?_)
              refine g1 (pc' := 78) (w_idiv X dX12_isTouch_77 h12) ?_
              refine g1 (pc' := 81) (k_X12_has X hR hN Z  mw_1099 (by decide) (Nat.le_of_ble_eq_true rfl) dX12_isTouch_78) ?_
              refine g_if (pcT := 88) (pcF := 84) (w_if_eq (tgt := 88) X dX12_isTouch_81 (by decide)) (fun h13 => ?_) (fun h13 => ?_)
              · refine g1 (pc' := 89) (w_iconst X (0) dX12_isTouch_88 (by decide)) ?_
                exact g_end [1, 2, 3, 0, 4] rfl rfl rfl
              · refine g1 (pc' := 85) (w_iconst X (1) dX12_isTouch_84 (by decide)) ?_
                refine g1 (pc' := 89) (w_goto X dX12_isTouch_85 (by decide)) ?_
                exact g_end [1, 2, 3, 0, 4] rfl rfl rfl
            · refine g1 (pc' := 89) (w_iconst X (0) dX12_isTouch_88 (by decide)) ?_
              exact g_end [1, 2, 3, 0, 4] rfl rfl rfl
          · show Gz x 5 89 [(0, .ref (xb x + o0)), (1, .int x1), (2, .int x2), (3, .int r7.1), (4, .int s21.2.1)] [.int j10, .int (2 : Int32), .ref (xb x + 137)] KDF r7.2 _ _
            refine g_lt (pc' := 90) (fun M14 => [(0, .ref (xb x + o0)), (1, .int x1), (2, .int x2), (3, .int r7.1), (4, .int s21.2.1)]) (fun M14 => []) (fun M14 => M14) (w_iast X Z kd_137 (ib_lit (by decide)) dX12_isTouch_89) (fun M14 => ?_)
            show Gz x 5 90 [(0, .ref (xb x + o0)), (1, .int x1), (2, .int x2), (3, .int r7.1), (4, .int s21.2.1)] [] KDF M14 _ _
            refine g1 (pc' := 91) (w_aload_n X dX12_isTouch_90 rfl 0 rfl) ?_
            refine g1 (pc' := 92) (w_iconst X (1) dX12_isTouch_91 (by decide)) ?_
            refine g_bd (pc' := 95) (fun r15 => [(0, .ref (xb x + o0)), (1, .int x1), (2, .int x2), (3, .int r7.1), (4, .int s21.2.1)]) (fun r15 => []) (fun r15 => r15) (fun r15 h => k_X12_goOn X hR hN Z hk0 mw_1257 (by decide) (Nat.le_of_ble_eq_true rfl) dX12_isTouch_92 h) (fun r15 => ?_)
            show Gz x 5 95 [(0, .ref (xb x + o0)), (1, .int x1), (2, .int x2), (3, .int r7.1), (4, .int s21.2.1)] [] KDF r15 _ _
            refine g_lt (pc' := 98) (fun v16 => [(4, .int v16), (0, .ref (xb x + o0)), (1, .int x1), (2, .int x2), (3, .int r7.1)]) (fun v16 => []) (fun v16 => r15) (w_iinc X dX12_isTouch_95 4 rfl rfl (by decide) rfl) (fun v16 => ?_)
            show Gz x 5 98 [(4, .int v16), (0, .ref (xb x + o0)), (1, .int x1), (2, .int x2), (3, .int r7.1)] [] KDF r15 _ _
            refine g1 (pc' := 21) (w_goto X dX12_isTouch_98 (by decide)) ?_
            refine g_inl ?_
            exact g_end [1, 2, 3, 4, 0] rfl rfl rfl
    · show Gz x 5 101 [(0, .ref (xb x + o0)), (3, .int e17.1)] [] KDF e17.2 _ _
      refine g1 (pc' := 102) (w_iload_n X dX12_isTouch_101 rfl 1 rfl) ?_
      refine g_if (pcT := 124) (pcF := 105) (w_if_eq (tgt := 124) X dX12_isTouch_102 (by decide)) (fun h18 => ?_) (fun h18 => ?_)
      · refine g1 (pc' := 125) (w_iconst X (0) dX12_isTouch_124 (by decide)) ?_
        exact g_rZ2 X zb0 dX12_isTouch_125
      · refine g1 (pc' := 106) (w_aload_n X dX12_isTouch_105 rfl 0 rfl) ?_
        refine g1 (pc' := 107) (w_aload_n X dX12_isTouch_106 rfl 0 rfl) ?_
        refine g1 (pc' := 110) (gt_12_24 X hk0 mw_953 dX12_isTouch_107) ?_
        refine g_bd (pc' := 113) (fun r19 => [(0, .ref (xb x + o0)), (3, .int e17.1)]) (fun r19 => [.int r19]) (fun r19 => e17.2) (fun r19 h => k_X12_figuresOf X hR hN Z hk0 (kln_of kd_137) mw_1128 (by decide) (Nat.le_of_ble_eq_true rfl) dX12_isTouch_110 h) (fun r19 => ?_)
        show Gz x 5 113 [(0, .ref (xb x + o0)), (3, .int e17.1)] [.int r19] KDF e17.2 _ _
        refine g1 (pc' := 114) (w_aload_n X dX12_isTouch_113 rfl 0 rfl) ?_
        refine g_bd (pc' := 117) (fun r20 => [(0, .ref (xb x + o0)), (3, .int e17.1)]) (fun r20 => [.int r20, .int r19]) (fun r20 => e17.2) (fun r20 h => k_X12_roundsNow X hR hN Z hk0 mw_1269 (by decide) (Nat.le_of_ble_eq_true rfl) dX12_isTouch_114 h) (fun r20 => ?_)
        show Gz x 5 117 [(0, .ref (xb x + o0)), (3, .int e17.1)] [.int r20, .int r19] KDF e17.2 _ _
        refine g_if (pcT := 120) (pcF := 124) (w_icmp_ne (tgt := 124) X dX12_isTouch_117 (by decide)) (fun h21 => ?_) (fun h21 => ?_)
        · refine g1 (pc' := 121) (w_iconst X (1) dX12_isTouch_120 (by decide)) ?_
          refine g1 (pc' := 125) (w_goto X dX12_isTouch_121 (by decide)) ?_
          exact g_rZ2 X zb1 dX12_isTouch_125
        · refine g1 (pc' := 125) (w_iconst X (0) dX12_isTouch_124 (by decide)) ?_
          exact g_rZ2 X zb0 dX12_isTouch_125
  exact G _ h _ rfl
theorem k_X12_isTouch {x : Cxt} {cc : ByteArray} {nL : Nat} {own : String} {ret : Option FieldType} (X : Ok x cc nL own ret) {d : Nat} (hR : Rm x d KDF) (hN : Nst x) (Z : xz x = 0) {pc : Nat} {lv : List (Nat × Value)} {rest : List Value} {M : Mm} {o0 : Nat} {x1 : Int32} {x2 : Int32} (hk0 : KDF[o0]? = some (12, 0)) {idx : Nat} (hw : Cond.methodLink own idx yX12_isTouch ∈ tbG) (hdd : 5 + 1 ≤ d) (hrm : (rest.map fun v => v.category).sum ≤ 8) (hd : decode cc pc = .ok (.invokevirtual idx, 3)) {r : Int32} {M' : Mm} (h : f_X12_isTouch o0 x1 x2 M = some (r, M')) : StpZ x nL pc lv (.int x2 :: .int x1 :: .ref (xb x + o0) :: rest) KDF M (pc + 3) lv (.int r :: rest) KDF M' :=
  w_callV (st := []) (As := [.int x1, .int x2]) X hR hN (CtX0 Z (c_X12_isTouch hk0 h)) ⟨Nat.le_refl _, Nat.le_refl _⟩ ⟨Nat.le_refl _, Nat.le_refl _⟩ hk0 (ci := 12) (fs := fs_12 o0) (fun _ _ _ => rfl) rfl hw mw_1287 mw_55 mw_72 mw_1288 (n := 2) (by decide +kernel) rfl hdd (by decide) hrm hd
