def f_X5_bellIn (x0 : Int32) (x1 : Int32) : Int32 :=
  ((sr x0 ((3 : Int32) * x1)) &&& (7 : Int32))
set_option maxRecDepth 100000 in
set_option maxHeartbeats 4000000 in
theorem c_X5_bellIn {l : Launch} {D : va_G} {an : An} {b : Nat} {x0 : Int32} {x1 : Int32}  {M : Mm}  : Ct l D an b 0 yX5_bellIn cX5_bellIn 2 (some .int) 1 [.int x0, .int x1] KDF M (some (.int (f_X5_bellIn x0 x1))) KDF M := by
  refine CtX.mk (as := fun b => [.int x0, .int x1]) (rv := fun b => (some (.int (f_X5_bellIn x0 x1)))) (by decide) (fun b => Nat.le_of_ble_eq_true rfl) ⟨Nat.le_refl _, Nat.le_refl _⟩ (fun x X hR Z hN _ _ => ?_)
  have X : Ok x cX5_bellIn 2 RX5 (some .int) := X
  have G : Gz x 2 0 [(0, .int x0), (1, .int x1)] [] KDF M (some (f_X5_bellIn x0 x1)) (PsI x KDF M) := by
    unfold f_X5_bellIn
    refine g1 (pc' := 1) (w_iload_n X dX5_bellIn_0 rfl 0 rfl) ?_
    refine g1 (pc' := 2) (w_iconst X (3) dX5_bellIn_1 (by decide)) ?_
    refine g1 (pc' := 3) (w_iload_n X dX5_bellIn_2 rfl 1 rfl) ?_
    refine g1 (pc' := 4) (w_imul X dX5_bellIn_3) ?_
    refine g1 (pc' := 5) (w_ishr X dX5_bellIn_4) ?_
    refine g1 (pc' := 7) (w_bipush X (7) dX5_bellIn_5 (by decide)) ?_
    refine g1 (pc' := 8) (w_iand X dX5_bellIn_7) ?_
    exact g_rI X dX5_bellIn_8
  exact G _ rfl _ rfl
theorem k_X5_bellIn {x : Cxt} {cc : ByteArray} {nL : Nat} {own : String} {ret : Option FieldType} (X : Ok x cc nL own ret) {d : Nat} (hR : Rm x d KDF) (hN : Nst x) (Z : xz x = 0) {pc : Nat} {lv : List (Nat × Value)} {rest : List Value} {M : Mm} {x0 : Int32} {x1 : Int32}  {idx : Nat} (hw : Cond.methodLink own idx yX5_bellIn ∈ tbG) (hdd : 1 + 1 ≤ d) (hrm : (rest.map fun v => v.category).sum ≤ 8) (hd : decode cc pc = .ok (.invokestatic idx, 3))  : StpZ x nL pc lv (.int x1 :: .int x0 :: rest) KDF M (pc + 3) lv (.int (f_X5_bellIn x0 x1) :: rest) KDF M :=
  w_callS (st := []) (As := [.int x0, .int x1]) X hR hN (CtX0 Z (c_X5_bellIn  )) ⟨Nat.le_refl _, Nat.le_refl _⟩ ⟨Nat.le_refl _, Nat.le_refl _⟩ hw mw_534 mw_76 mw_535 (n := 2) (by decide +kernel) rfl hdd (by decide) hrm hd
def f_J6_bitCount_0f7a4 (x0 : Int32) : Int32 :=
  Lt (x0 - ((us x0 (1 : Int32)) &&& (1431655765 : Int32))) (fun v1 => Lt ((v1 &&& (858993459 : Int32)) + ((us v1 (2 : Int32)) &&& (858993459 : Int32))) (fun v2 => Lt ((v2 + (us v2 (4 : Int32))) &&& (252645135 : Int32)) (fun v3 => Lt (v3 + (us v3 (8 : Int32))) (fun v4 => Lt (v4 + (us v4 (16 : Int32))) (fun v5 => (v5 &&& (63 : Int32)))))))
set_option maxRecDepth 100000 in
set_option maxHeartbeats 4000000 in
theorem c_J6_bitCount_0f7a4 {l : Launch} {D : va_G} {an : An} {b : Nat} {x0 : Int32}  {M : Mm}  : Ct l D an b 0 yJ6_bitCount_0f7a4 cJ6_bitCount_0f7a4 1 (some .int) 1 [.int x0] KDF M (some (.int (f_J6_bitCount_0f7a4 x0))) KDF M := by
  refine CtX.mk (as := fun b => [.int x0]) (rv := fun b => (some (.int (f_J6_bitCount_0f7a4 x0)))) (by decide) (fun b => Nat.le_of_ble_eq_true rfl) ⟨Nat.le_refl _, Nat.le_refl _⟩ (fun x X hR Z hN _ _ => ?_)
  have X : Ok x cJ6_bitCount_0f7a4 1 RJ6 (some .int) := X
  have G : Gz x 1 0 [(0, .int x0)] [] KDF M (some (f_J6_bitCount_0f7a4 x0)) (PsI x KDF M) := by
    unfold f_J6_bitCount_0f7a4
    refine g1 (pc' := 1) (w_iload_n X dJ6_bitCount_0f7a4_0 rfl 0 rfl) ?_
    refine g1 (pc' := 2) (w_iload_n X dJ6_bitCount_0f7a4_1 rfl 0 rfl) ?_
    refine g1 (pc' := 3) (w_iconst X (1) dJ6_bitCount_0f7a4_2 (by decide)) ?_
    refine g1 (pc' := 4) (w_iushr X dJ6_bitCount_0f7a4_3) ?_
    refine g1 (pc' := 7) (w_ldcw (v := 1431655765) X dJ6_bitCount_0f7a4_4 mw_547) ?_
    refine g1 (pc' := 8) (w_iand X dJ6_bitCount_0f7a4_7) ?_
    refine g1 (pc' := 9) (w_isub X dJ6_bitCount_0f7a4_8) ?_
    refine g_ltT (pc' := 10) (fun v1 => [(0, .int v1)]) (fun v1 => []) (fun v1 => M) (w_istore_n X dJ6_bitCount_0f7a4_9 rfl (by decide) rfl) (fun v1 => ?_)
    show Gz x 1 10 [(0, .int v1)] [] KDF M _ _
    refine g1 (pc' := 11) (w_iload_n X dJ6_bitCount_0f7a4_10 rfl 0 rfl) ?_
    refine g1 (pc' := 14) (w_ldcw (v := 858993459) X dJ6_bitCount_0f7a4_11 mw_548) ?_
    refine g1 (pc' := 15) (w_iand X dJ6_bitCount_0f7a4_14) ?_
    refine g1 (pc' := 16) (w_iload_n X dJ6_bitCount_0f7a4_15 rfl 0 rfl) ?_
    refine g1 (pc' := 17) (w_iconst X (2) dJ6_bitCount_0f7a4_16 (by decide)) ?_
    refine g1 (pc' := 18) (w_iushr X dJ6_bitCount_0f7a4_17) ?_
    refine g1 (pc' := 21) (w_ldcw (v := 858993459) X dJ6_bitCount_0f7a4_18 mw_548) ?_
    refine g1 (pc' := 22) (w_iand X dJ6_bitCount_0f7a4_21) ?_
    refine g1 (pc' := 23) (w_iadd X dJ6_bitCount_0f7a4_22) ?_
    refine g_ltT (pc' := 24) (fun v2 => [(0, .int v2)]) (fun v2 => []) (fun v2 => M) (w_istore_n X dJ6_bitCount_0f7a4_23 rfl (by decide) rfl) (fun v2 => ?_)
    show Gz x 1 24 [(0, .int v2)] [] KDF M _ _
    refine g1 (pc' := 25) (w_iload_n X dJ6_bitCount_0f7a4_24 rfl 0 rfl) ?_
    refine g1 (pc' := 26) (w_iload_n X dJ6_bitCount_0f7a4_25 rfl 0 rfl) ?_
    refine g1 (pc' := 27) (w_iconst X (4) dJ6_bitCount_0f7a4_26 (by decide)) ?_
    refine g1 (pc' := 28) (w_iushr X dJ6_bitCount_0f7a4_27) ?_
    refine g1 (pc' := 29) (w_iadd X dJ6_bitCount_0f7a4_28) ?_
    refine g1 (pc' := 32) (w_ldcw (v := 252645135) X dJ6_bitCount_0f7a4_29 mw_549) ?_
    refine g1 (pc' := 33) (w_iand X dJ6_bitCount_0f7a4_32) ?_
    refine g_ltT (pc' := 34) (fun v3 => [(0, .int v3)]) (fun v3 => []) (fun v3 => M) (w_istore_n X dJ6_bitCount_0f7a4_33 rfl (by decide) rfl) (fun v3 => ?_)
    show Gz x 1 34 [(0, .int v3)] [] KDF M _ _
    refine g1 (pc' := 35) (w_iload_n X dJ6_bitCount_0f7a4_34 rfl 0 rfl) ?_
    refine g1 (pc' := 36) (w_iload_n X dJ6_bitCount_0f7a4_35 rfl 0 rfl) ?_
    refine g1 (pc' := 38) (w_bipush X (8) dJ6_bitCount_0f7a4_36 (by decide)) ?_
    refine g1 (pc' := 39) (w_iushr X dJ6_bitCount_0f7a4_38) ?_
    refine g1 (pc' := 40) (w_iadd X dJ6_bitCount_0f7a4_39) ?_
    refine g_ltT (pc' := 41) (fun v4 => [(0, .int v4)]) (fun v4 => []) (fun v4 => M) (w_istore_n X dJ6_bitCount_0f7a4_40 rfl (by decide) rfl) (fun v4 => ?_)
    show Gz x 1 41 [(0, .int v4)] [] KDF M _ _
    refine g1 (pc' := 42) (w_iload_n X dJ6_bitCount_0f7a4_41 rfl 0 rfl) ?_
    refine g1 (pc' := 43) (w_iload_n X dJ6_bitCount_0f7a4_42 rfl 0 rfl) ?_
    refine g1 (pc' := 45) (w_bipush X (16) dJ6_bitCount_0f7a4_43 (by decide)) ?_
    refine g1 (pc' := 46) (w_iushr X dJ6_bitCount_0f7a4_45) ?_
    refine g1 (pc' := 47) (w_iadd X dJ6_bitCount_0f7a4_46) ?_
    refine g_ltT (pc' := 48) (fun v5 => [(0, .int v5)]) (fun v5 => []) (fun v5 => M) (w_istore_n X dJ6_bitCount_0f7a4_47 rfl (by decide) rfl) (fun v5 => ?_)
    show Gz x 1 48 [(0, .int v5)] [] KDF M _ _
    refine g1 (pc' := 49) (w_iload_n X dJ6_bitCount_0f7a4_48 rfl 0 rfl) ?_
    refine g1 (pc' := 51) (w_bipush X (63) dJ6_bitCount_0f7a4_49 (by decide)) ?_
    refine g1 (pc' := 52) (w_iand X dJ6_bitCount_0f7a4_51) ?_
    exact g_rI X dJ6_bitCount_0f7a4_52
  exact G _ rfl _ rfl
theorem k_J6_bitCount_0f7a4 {x : Cxt} {cc : ByteArray} {nL : Nat} {own : String} {ret : Option FieldType} (X : Ok x cc nL own ret) {d : Nat} (hR : Rm x d KDF) (hN : Nst x) (Z : xz x = 0) {pc : Nat} {lv : List (Nat × Value)} {rest : List Value} {M : Mm} {x0 : Int32}  {idx : Nat} (hw : Cond.methodLink own idx yJ6_bitCount_0f7a4 ∈ tbG) (hdd : 1 + 1 ≤ d) (hrm : (rest.map fun v => v.category).sum ≤ 8) (hd : decode cc pc = .ok (.invokestatic idx, 3))  : StpZ x nL pc lv (.int x0 :: rest) KDF M (pc + 3) lv (.int (f_J6_bitCount_0f7a4 x0) :: rest) KDF M :=
  w_callS (st := []) (As := [.int x0]) X hR hN (CtX0 Z (c_J6_bitCount_0f7a4  )) ⟨Nat.le_refl _, Nat.le_refl _⟩ ⟨Nat.le_refl _, Nat.le_refl _⟩ hw mw_545 mw_78 mw_546 (n := 1) (by decide +kernel) rfl hdd (by decide) hrm hd
def f_X1_stillIn (o0 : Nat) (o1 : Nat) (M : Mm) : Int32 :=
  ((M o1 2) - (f_J6_bitCount_0f7a4 (M o0 2)))
set_option maxRecDepth 100000 in
set_option maxHeartbeats 4000000 in
theorem c_X1_stillIn {l : Launch} {D : va_G} {an : An} {b : Nat} {o0 : Nat} {o1 : Nat} (hk0 : KDF[o0]? = some (1, 0)) (hk1 : KDF[o1]? = some (9, 0)) {M : Mm}  : Ct l D an b 0 yX1_stillIn cX1_stillIn 2 (some .int) 2 [.ref (b + o0), .ref (b + o1)] KDF M (some (.int (f_X1_stillIn o0 o1 M))) KDF M := by
  refine CtX.mk (as := fun b => [.ref (b + o0), .ref (b + o1)]) (rv := fun b => (some (.int (f_X1_stillIn o0 o1 M)))) (by decide) (fun b => Nat.le_of_ble_eq_true rfl) ⟨Nat.le_refl _, Nat.le_refl _⟩ (fun x X hR Z hN _ _ => ?_)
  have X : Ok x cX1_stillIn 2 RX1 (some .int) := X
  have G : Gz x 2 0 [(0, .ref (xb x + o0)), (1, .ref (xb x + o1))] [] KDF M (some (f_X1_stillIn o0 o1 M)) (PsI x KDF M) := by
    unfold f_X1_stillIn
    refine g1 (pc' := 1) (w_aload_n X dX1_stillIn_0 rfl 1 rfl) ?_
    refine g1 (pc' := 4) (gt_9_2 X hk1 mw_128 dX1_stillIn_1) ?_
    refine g1 (pc' := 5) (w_aload_n X dX1_stillIn_4 rfl 0 rfl) ?_
    refine g1 (pc' := 8) (gt_1_2 X hk0 mw_217 dX1_stillIn_5) ?_
    refine g1 (pc' := 11) (k_J6_bitCount_0f7a4 X hR hN Z  mw_544 (by decide) (Nat.le_of_ble_eq_true rfl) dX1_stillIn_8) ?_
    refine g1 (pc' := 12) (w_isub X dX1_stillIn_11) ?_
    exact g_rI X dX1_stillIn_12
  exact G _ rfl _ rfl
theorem k_X1_stillIn {x : Cxt} {cc : ByteArray} {nL : Nat} {own : String} {ret : Option FieldType} (X : Ok x cc nL own ret) {d : Nat} (hR : Rm x d KDF) (hN : Nst x) (Z : xz x = 0) {pc : Nat} {lv : List (Nat × Value)} {rest : List Value} {M : Mm} {o0 : Nat} {o1 : Nat} (hk0 : KDF[o0]? = some (1, 0)) (hk1 : KDF[o1]? = some (9, 0)) {idx : Nat} (hw : Cond.methodLink own idx yX1_stillIn ∈ tbG) (hdd : 2 + 1 ≤ d) (hrm : (rest.map fun v => v.category).sum ≤ 8) (hd : decode cc pc = .ok (.invokevirtual idx, 3))  : StpZ x nL pc lv (.ref (xb x + o1) :: .ref (xb x + o0) :: rest) KDF M (pc + 3) lv (.int (f_X1_stillIn o0 o1 M) :: rest) KDF M :=
  w_callV (st := []) (As := [.ref (xb x + o1)]) X hR hN (CtX0 Z (c_X1_stillIn hk0 hk1 )) ⟨Nat.le_refl _, Nat.le_refl _⟩ ⟨Nat.le_refl _, Nat.le_refl _⟩ hk0 (ci := 1) (fs := fs_1 o0) (fun _ _ _ => rfl) rfl hw mw_542 mw_10 mw_68 mw_543 (n := 1) (by decide +kernel) rfl hdd (by decide) hrm hd
def f_X1_loserBy (o0 : Nat) (x1 : Int32) (o2 : Nat) (M : Mm) : Option (Int32) :=
  Bd (f_X1_suitorOf o0 (f_X5_bellIn x1 ((M o2 0) - (1 : Int32))) o2 M) (fun r1 => Lt (((if r1 = (-1 : Int32) then (0 : Int32) else (if (f_X1_isOut o0 r1 M) = 0 then (if (f_X1_stillIn o0 o2 M) < (2 : Int32) then (0 : Int32) else (1 : Int32)) else (0 : Int32)))) : Int32) (fun j2 => (if j2 = 0 then some (-1 : Int32) else some r1)))
set_option maxRecDepth 100000 in
set_option maxHeartbeats 4000000 in
theorem c_X1_loserBy {l : Launch} {D : va_G} {an : An} {b : Nat} {o0 : Nat} {x1 : Int32} {o2 : Nat} (hk0 : KDF[o0]? = some (1, 0)) (hk2 : KDF[o2]? = some (9, 0)) {M : Mm} {r : Int32} (h : f_X1_loserBy o0 x1 o2 M = some r) : Ct l D an b 0 yX1_loserBy cX1_loserBy 5 (some .int) 3 [.ref (b + o0), .int x1, .ref (b + o2)] KDF M (some (.int r)) KDF M := by
  refine CtX.mk (as := fun b => [.ref (b + o0), .int x1, .ref (b + o2)]) (rv := fun b => (some (.int r))) (by decide) (fun b => Nat.le_of_ble_eq_true rfl) ⟨Nat.le_refl _, Nat.le_refl _⟩ (fun x X hR Z hN _ _ => ?_)
  have X : Ok x cX1_loserBy 5 RX1 (some .int) := X
  have G : Gz x 5 0 [(0, .ref (xb x + o0)), (1, .int x1), (2, .ref (xb x + o2))] [] KDF M (f_X1_loserBy o0 x1 o2 M) (PsI x KDF M) := by
    unfold f_X1_loserBy
    refine g1 (pc' := 1) (w_aload_n X dX1_loserBy_0 rfl 0 rfl) ?_
    refine g1 (pc' := 2) (w_iload_n X dX1_loserBy_1 rfl 1 rfl) ?_
    refine g1 (pc' := 3) (w_aload_n X dX1_loserBy_2 rfl 2 rfl) ?_
    refine g1 (pc' := 6) (gt_9_0 X hk2 mw_119 dX1_loserBy_3) ?_
    refine g1 (pc' := 7) (w_iconst X (1) dX1_loserBy_6 (by decide)) ?_
    refine g1 (pc' := 8) (w_isub X dX1_loserBy_7) ?_
    refine g1 (pc' := 11) (k_X5_bellIn X hR hN Z  mw_669 (by decide) (Nat.le_of_ble_eq_true rfl) dX1_loserBy_8) ?_
    refine g1 (pc' := 12) (w_aload_n X dX1_loserBy_11 rfl 2 rfl) ?_
    refine g_bd (pc' := 15) (fun r1 => [(0, .ref (xb x + o0)), (1, .int x1), (2, .ref (xb x + o2))]) (fun r1 => [.int r1]) (fun r1 => M) (fun r1 h => k_X1_suitorOf X hR hN Z hk0 hk2 mw_670 (by decide) (Nat.le_of_ble_eq_true rfl) dX1_loserBy_12 h) (fun r1 => ?_)
    show Gz x 5 15 [(0, .ref (xb x + o0)), (1, .int x1), (2, .ref (xb x + o2))] [.int r1] KDF M _ _
    refine g1 (pc' := 16) (lv' := [(3, .int r1), (0, .ref (xb x + o0)), (1, .int x1), (2, .ref (xb x + o2))]) (w_istore_n X dX1_loserBy_15 rfl (by decide) rfl) ?_
    refine g1 (pc' := 17) (w_iload_n X dX1_loserBy_16 rfl 0 rfl) ?_
    refine g1 (pc' := 18) (w_iconst X (-1) dX1_loserBy_17 (by decide)) ?_
    refine g_ltJ (J := 43) (fun j2 => [(3, .int r1)]) (fun j2 => [.int j2]) (fun j2 => M) ?_ (fun j2 => ?_)
    · refine g_ifS (pcT := 42) (pcF := 21) (w_icmp_eq (tgt := 42) X dX1_loserBy_18 (by decide)) (fun h3 => ?_) (fun h3 => ?_)
      · refine g1 (pc' := 43) (w_iconst X (0) dX1_loserBy_42 (by decide)) ?_
        exact g_end [0] rfl rfl rfl
      · refine g1 (pc' := 22) (w_aload_n X dX1_loserBy_21 rfl 1 rfl) ?_
        refine g1 (pc' := 23) (w_iload_n X dX1_loserBy_22 rfl 0 rfl) ?_
        refine g1 (pc' := 26) (k_X1_isOut X hR hN Z hk0 mw_550 (by decide) (Nat.le_of_ble_eq_true rfl) dX1_loserBy_23) ?_
        refine g_ifS (pcT := 29) (pcF := 42) (w_if_ne (tgt := 42) X dX1_loserBy_26 (by decide)) (fun h4 => ?_) (fun h4 => ?_)
        · refine g1 (pc' := 30) (w_aload_n X dX1_loserBy_29 rfl 1 rfl) ?_
          refine g1 (pc' := 31) (w_aload_n X dX1_loserBy_30 rfl 3 rfl) ?_
          refine g1 (pc' := 34) (k_X1_stillIn X hR hN Z hk0 hk2 mw_540 (by decide) (Nat.le_of_ble_eq_true rfl) dX1_loserBy_31) ?_
          refine g1 (pc' := 35) (w_iconst X (2) dX1_loserBy_34 (by decide)) ?_
          refine g_ifS (pcT := 42) (pcF := 38) (w_icmp_lt (tgt := 42) X dX1_loserBy_35 (by decide)) (fun h5 => ?_) (fun h5 => ?_)
          · refine g1 (pc' := 43) (w_iconst X (0) dX1_loserBy_42 (by decide)) ?_
            exact g_end [0] rfl rfl rfl
          · refine g1 (pc' := 39) (w_iconst X (1) dX1_loserBy_38 (by decide)) ?_
            refine g1 (pc' := 43) (w_goto X dX1_loserBy_39 (by decide)) ?_
            exact g_end [0] rfl rfl rfl
        · refine g1 (pc' := 43) (w_iconst X (0) dX1_loserBy_42 (by decide)) ?_
          exact g_end [0] rfl rfl rfl
    · show Gz x 5 43 [(3, .int r1)] [.int j2] KDF M _ _
      refine g1 (pc' := 45) (lv' := [(4, .int j2), (3, .int r1)]) (w_istore X dX1_loserBy_43 (by decide) rfl) ?_
      refine g1 (pc' := 47) (w_iload X dX1_loserBy_45 0 rfl) ?_
      refine g_if (pcT := 54) (pcF := 50) (w_if_eq (tgt := 54) X dX1_loserBy_47 (by decide)) (fun h6 => ?_) (fun h6 => ?_)
      · refine g1 (pc' := 55) (w_iconst X (-1) dX1_loserBy_54 (by decide)) ?_
        exact g_rI X dX1_loserBy_55
      · refine g1 (pc' := 51) (w_iload_n X dX1_loserBy_50 rfl 1 rfl) ?_
        refine g1 (pc' := 55) (w_goto X dX1_loserBy_51 (by decide)) ?_
        exact g_rI X dX1_loserBy_55
  exact G _ h _ rfl
theorem k_X1_loserBy {x : Cxt} {cc : ByteArray} {nL : Nat} {own : String} {ret : Option FieldType} (X : Ok x cc nL own ret) {d : Nat} (hR : Rm x d KDF) (hN : Nst x) (Z : xz x = 0) {pc : Nat} {lv : List (Nat × Value)} {rest : List Value} {M : Mm} {o0 : Nat} {x1 : Int32} {o2 : Nat} (hk0 : KDF[o0]? = some (1, 0)) (hk2 : KDF[o2]? = some (9, 0)) {idx : Nat} (hw : Cond.methodLink own idx yX1_loserBy ∈ tbG) (hdd : 3 + 1 ≤ d) (hrm : (rest.map fun v => v.category).sum ≤ 8) (hd : decode cc pc = .ok (.invokevirtual idx, 3)) {r : Int32} (h : f_X1_loserBy o0 x1 o2 M = some r) : StpZ x nL pc lv (.ref (xb x + o2) :: .int x1 :: .ref (xb x + o0) :: rest) KDF M (pc + 3) lv (.int r :: rest) KDF M :=
  w_callV (st := []) (As := [.int x1, .ref (xb x + o2)]) X hR hN (CtX0 Z (c_X1_loserBy hk0 hk2 h)) ⟨Nat.le_refl _, Nat.le_refl _⟩ ⟨Nat.le_refl _, Nat.le_refl _⟩ hk0 (ci := 1) (fs := fs_1 o0) (fun _ _ _ => rfl) rfl hw mw_666 mw_667 mw_68 mw_668 (n := 2) (by decide +kernel) rfl hdd (by decide) hrm hd
