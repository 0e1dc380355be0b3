def f_X12_fails (o0 : Nat) (x1 : Int32) (M : Mm) : Option (Int32 × Mm) :=
  Lt (st2 M o0 7 (M o0 3)) (fun M1 => Lt (st2 M1 o0 8 x1) (fun M2 => some ((0 : Int32), M2)))
set_option maxRecDepth 100000 in
set_option maxHeartbeats 4000000 in
theorem c_X12_fails {l : Launch} {D : va_G} {an : An} {b : Nat} {o0 : Nat} {x1 : Int32} (hk0 : KDF[o0]? = some (12, 0)) {M : Mm} {r : Int32} {M' : Mm} (h : f_X12_fails o0 x1 M = some (r, M')) : Ct l D an b 0 yX12_fails cX12_fails 2 (some .boolean) 1 [.ref (b + o0), .int x1] KDF M (some (.int r)) KDF M' := by
  refine CtX.mk (as := fun b => [.ref (b + o0), .int x1]) (rv := fun b => (some (.int r))) (by decide) (fun b => Nat.le_of_ble_eq_true rfl) ⟨Nat.le_refl _, Nat.le_refl _⟩ (fun x X hR Z hN _ _ => ?_)
  have X : Ok x cX12_fails 2 RX12 (some .boolean) := X
  have G : Gz x 2 0 [(0, .ref (xb x + o0)), (1, .int x1)] [] KDF M (f_X12_fails o0 x1 M) (PsI2 x KDF) := by
    unfold f_X12_fails
    refine g1 (pc' := 1) (w_aload_n X dX12_fails_0 rfl 0 rfl) ?_
    refine g1 (pc' := 2) (w_aload_n X dX12_fails_1 rfl 0 rfl) ?_
    refine g1 (pc' := 5) (gt_12_3 X hk0 mw_941 dX12_fails_2) ?_
    refine g_lt (pc' := 8) (fun M1 => [(0, .ref (xb x + o0)), (1, .int x1)]) (fun M1 => []) (fun M1 => M1) (pt_12_7 X Z hk0 mw_945 dX12_fails_5) (fun M1 => ?_)
    show Gz x 2 8 [(0, .ref (xb x + o0)), (1, .int x1)] [] KDF M1 _ _
    refine g1 (pc' := 9) (w_aload_n X dX12_fails_8 rfl 0 rfl) ?_
    refine g1 (pc' := 10) (w_iload_n X dX12_fails_9 rfl 1 rfl) ?_
    refine g_lt (pc' := 13) (fun M2 => [(0, .ref (xb x + o0)), (1, .int x1)]) (fun M2 => []) (fun M2 => M2) (pt_12_8 X Z hk0 mw_946 dX12_fails_10) (fun M2 => ?_)
    show Gz x 2 13 [(0, .ref (xb x + o0)), (1, .int x1)] [] KDF M2 _ _
    refine g1 (pc' := 14) (w_iconst X (0) dX12_fails_13 (by decide)) ?_
    exact g_rZ2 X zb0 dX12_fails_14
  exact G _ h _ rfl
theorem k_X12_fails {x : Cxt} {cc : ByteArray} {nL : Nat} {own : String} {ret : Option FieldType} (X : Ok x cc nL own ret) {d : Nat} (hR : Rm x d KDF) (hN : Nst x) (Z : xz x = 0) {pc : Nat} {lv : List (Nat × Value)} {rest : List Value} {M : Mm} {o0 : Nat} {x1 : Int32} (hk0 : KDF[o0]? = some (12, 0)) {idx : Nat} (hw : Cond.methodLink own idx yX12_fails ∈ tbG) (hdd : 1 + 1 ≤ d) (hrm : (rest.map fun v => v.category).sum ≤ 8) (hd : decode cc pc = .ok (.invokevirtual idx, 3)) {r : Int32} {M' : Mm} (h : f_X12_fails o0 x1 M = some (r, M')) : StpZ x nL pc lv (.int x1 :: .ref (xb x + o0) :: rest) KDF M (pc + 3) lv (.int r :: rest) KDF M' :=
  w_callV (st := []) (As := [.int x1]) X hR hN (CtX0 Z (c_X12_fails hk0 h)) ⟨Nat.le_refl _, Nat.le_refl _⟩ ⟨Nat.le_refl _, Nat.le_refl _⟩ hk0 (ci := 12) (fs := fs_12 o0) (fun _ _ _ => rfl) rfl hw mw_1087 mw_29 mw_75 mw_1088 (n := 1) (by decide +kernel) rfl hdd (by decide) hrm hd
def f_X12_isNumber (o0 : Nat) (x1 : Int32) (x2 : Int32) (M : Mm) : Option (Int32 × Mm) :=
  Bd (f_X12_nextToken o0 M) (fun r1 => (if (r1 o0 4) = (-1 : Int32) then (if (4 : Int32) ≤ (r1 o0 6) then Bd (f_X12_fails o0 (2 : Int32) r1) (fun r4 => (if r4.1 = 0 then some ((0 : Int32), r4.2) else some ((1 : Int32), r4.2))) else (if (f_X12_in (r1 o0 5) x1 x2) = 0 then Bd (f_X12_fails o0 (2 : Int32) r1) (fun r7 => (if r7.1 = 0 then some ((0 : Int32), r7.2) else some ((1 : Int32), r7.2))) else some ((1 : Int32), r1))) else Bd (f_X12_fails o0 (1 : Int32) r1) (fun r9 => Gd (zb r9.1) (some (r9.1, r9.2)))))
set_option maxRecDepth 100000 in
set_option maxHeartbeats 4000000 in
theorem c_X12_isNumber {l : Launch} {D : va_G} {an : An} {b : Nat} {o0 : Nat} {x1 : Int32} {x2 : Int32} (hk0 : KDF[o0]? = some (12, 0)) {M : Mm} {r : Int32} {M' : Mm} (h : f_X12_isNumber o0 x1 x2 M = some (r, M')) : Ct l D an b 0 yX12_isNumber cX12_isNumber 3 (some .boolean) 3 [.ref (b + o0), .int x1, .int x2] KDF M (some (.int r)) KDF M' := by
  refine CtX.mk (as := fun b => [.ref (b + o0), .int x1, .int x2]) (rv := fun b => (some (.int r))) (by decide) (fun b => Nat.le_of_ble_eq_true rfl) ⟨Nat.le_refl _, Nat.le_refl _⟩ (fun x X hR Z hN _ _ => ?_)
  have X : Ok x cX12_isNumber 3 RX12 (some .boolean) := X
  have G : Gz x 3 0 [(0, .ref (xb x + o0)), (1, .int x1), (2, .int x2)] [] KDF M (f_X12_isNumber o0 x1 x2 M) (PsI2 x KDF) := by
    unfold f_X12_isNumber
    refine g1 (pc' := 1) (w_aload_n X dX12_isNumber_0 rfl 0 rfl) ?_
    refine g_bd (pc' := 4) (fun r1 => [(0, .ref (xb x + o0)), (1, .int x1), (2, .int x2)]) (fun r1 => []) (fun r1 => r1) (fun r1 h => k_X12_nextToken X hR hN Z hk0 mw_1077 (by decide) (Nat.le_of_ble_eq_true rfl) dX12_isNumber_1 h) (fun r1 => ?_)
    show Gz x 3 4 [(0, .ref (xb x + o0)), (1, .int x1), (2, .int x2)] [] KDF r1 _ _
    refine g1 (pc' := 5) (w_aload_n X dX12_isNumber_4 rfl 0 rfl) ?_
    refine g1 (pc' := 8) (gt_12_4 X hk0 mw_942 dX12_isNumber_5) ?_
    refine g1 (pc' := 9) (w_iconst X (-1) dX12_isNumber_8 (by decide)) ?_
    refine g_if (pcT := 18) (pcF := 12) (w_icmp_eq (tgt := 18) X dX12_isNumber_9 (by decide)) (fun h2 => ?_) (fun h2 => ?_)
    · refine g1 (pc' := 19) (w_aload_n X dX12_isNumber_18 rfl 0 rfl) ?_
      refine g1 (pc' := 22) (gt_12_6 X hk0 mw_944 dX12_isNumber_19) ?_
      refine g1 (pc' := 23) (w_iconst X (4) dX12_isNumber_22 (by decide)) ?_
      refine g_if (pcT := 38) (pcF := 26) (w_icmp_ge (tgt := 38) X dX12_isNumber_23 (by decide)) (fun h3 => ?_) (fun h3 => ?_)
      · refine g1 (pc' := 39) (w_aload_n X dX12_isNumber_38 rfl 0 rfl) ?_
        refine g1 (pc' := 40) (w_iconst X (2) dX12_isNumber_39 (by decide)) ?_
        refine g_bd (pc' := 43) (fun r4 => [(0, .ref (xb x + o0)), (1, .int x1), (2, .int x2)]) (fun r4 => [.int r4.1]) (fun r4 => r4.2) (fun r4 h => k_X12_fails X hR hN Z hk0 mw_1085 (by decide) (Nat.le_of_ble_eq_true rfl) dX12_isNumber_40 h) (fun r4 => ?_)
        show Gz x 3 43 [(0, .ref (xb x + o0)), (1, .int x1), (2, .int x2)] [.int r4.1] KDF r4.2 _ _
        refine g_if (pcT := 50) (pcF := 46) (w_if_eq (tgt := 50) X dX12_isNumber_43 (by decide)) (fun h5 => ?_) (fun h5 => ?_)
        · refine g1 (pc' := 51) (w_iconst X (0) dX12_isNumber_50 (by decide)) ?_
          exact g_rZ2 X zb0 dX12_isNumber_51
        · refine g1 (pc' := 47) (w_iconst X (1) dX12_isNumber_46 (by decide)) ?_
          refine g1 (pc' := 51) (w_goto X dX12_isNumber_47 (by decide)) ?_
          exact g_rZ2 X zb1 dX12_isNumber_51
      · refine g1 (pc' := 27) (w_aload_n X dX12_isNumber_26 rfl 0 rfl) ?_
        refine g1 (pc' := 30) (gt_12_5 X hk0 mw_943 dX12_isNumber_27) ?_
        refine g1 (pc' := 31) (w_iload_n X dX12_isNumber_30 rfl 1 rfl) ?_
        refine g1 (pc' := 32) (w_iload_n X dX12_isNumber_31 rfl 2 rfl) ?_
        refine g1 (pc' := 35) (k_X12_in X hR hN Z  mw_1064 (by decide) (Nat.le_of_ble_eq_true rfl) dX12_isNumber_32) ?_
        refine g_if (pcT := 38) (pcF := 46) (w_if_ne (tgt := 46) X dX12_isNumber_35 (by decide)) (fun h6 => ?_) (fun h6 => ?_)
        · refine g1 (pc' := 39) (w_aload_n X dX12_isNumber_38 rfl 0 rfl) ?_
          refine g1 (pc' := 40) (w_iconst X (2) dX12_isNumber_39 (by decide)) ?_
          refine g_bd (pc' := 43) (fun r7 => [(0, .ref (xb x + o0)), (1, .int x1), (2, .int x2)]) (fun r7 => [.int r7.1]) (fun r7 => r7.2) (fun r7 h => k_X12_fails X hR hN Z hk0 mw_1085 (by decide) (Nat.le_of_ble_eq_true rfl) dX12_isNumber_40 h) (fun r7 => ?_)
          show Gz x 3 43 [(0, .ref (xb x + o0)), (1, .int x1), (2, .int x2)] [.int r7.1] KDF r7.2 _ _
          refine g_if (pcT := 50) (pcF := 46) (w_if_eq (tgt := 50) X dX12_isNumber_43 (by decide)) (fun h8 => ?_) (fun h8 => ?_)
          · refine g1 (pc' := 51) (w_iconst X (0) dX12_isNumber_50 (by decide)) ?_
            exact g_rZ2 X zb0 dX12_isNumber_51
          · refine g1 (pc' := 47) (w_iconst X (1) dX12_isNumber_46 (by decide)) ?_
            refine g1 (pc' := 51) (w_goto X dX12_isNumber_47 (by decide)) ?_
            exact g_rZ2 X zb1 dX12_isNumber_51
        · refine g1 (pc' := 47) (w_iconst X (1) dX12_isNumber_46 (by decide)) ?_
          refine g1 (pc' := 51) (w_goto X dX12_isNumber_47 (by decide)) ?_
          exact g_rZ2 X zb1 dX12_isNumber_51
    · refine g1 (pc' := 13) (w_aload_n X dX12_isNumber_12 rfl 0 rfl) ?_
      refine g1 (pc' := 14) (w_iconst X (1) dX12_isNumber_13 (by decide)) ?_
      refine g_bd (pc' := 17) (fun r9 => [(0, .ref (xb x + o0)), (1, .int x1), (2, .int x2)]) (fun r9 => [.int r9.1]) (fun r9 => r9.2) (fun r9 h => k_X12_fails X hR hN Z hk0 mw_1085 (by decide) (Nat.le_of_ble_eq_true rfl) dX12_isNumber_14 h) (fun r9 => ?_)
      show Gz x 3 17 [(0, .ref (xb x + o0)), (1, .int x1), (2, .int x2)] [.int r9.1] KDF r9.2 _ _
      refine g_gd (fun h10 => ?_)
      exact g_rZ2 X h10 dX12_isNumber_17
  exact G _ h _ rfl
theorem k_X12_isNumber {x : Cxt} {cc : ByteArray} {nL : Nat} {own : String} {ret : Option FieldType} (X : Ok x cc nL own ret) {d : Nat} (hR : Rm x d KDF) (hN : Nst x) (Z : xz x = 0) {pc : Nat} {lv : List (Nat × Value)} {rest : List Value} {M : Mm} {o0 : Nat} {x1 : Int32} {x2 : Int32} (hk0 : KDF[o0]? = some (12, 0)) {idx : Nat} (hw : Cond.methodLink own idx yX12_isNumber ∈ tbG) (hdd : 3 + 1 ≤ d) (hrm : (rest.map fun v => v.category).sum ≤ 8) (hd : decode cc pc = .ok (.invokevirtual idx, 3)) {r : Int32} {M' : Mm} (h : f_X12_isNumber o0 x1 x2 M = some (r, M')) : StpZ x nL pc lv (.int x2 :: .int x1 :: .ref (xb x + o0) :: rest) KDF M (pc + 3) lv (.int r :: rest) KDF M' :=
  w_callV (st := []) (As := [.int x1, .int x2]) X hR hN (CtX0 Z (c_X12_isNumber hk0 h)) ⟨Nat.le_refl _, Nat.le_refl _⟩ ⟨Nat.le_refl _, Nat.le_refl _⟩ hk0 (ci := 12) (fs := fs_12 o0) (fun _ _ _ => rfl) rfl hw mw_1095 mw_31 mw_75 mw_1096 (n := 2) (by decide +kernel) rfl hdd (by decide) hrm hd
def f_X12_isEnd (o0 : Nat) (M : Mm) : Option (Int32 × Mm) :=
  Bd (f_X12_nextToken o0 M) (fun r1 => (if (r1 o0 4) = (59 : Int32) then some ((1 : Int32), r1) else Bd (f_X12_fails o0 (1 : Int32) r1) (fun r3 => (if r3.1 = 0 then some ((0 : Int32), r3.2) else some ((1 : Int32), r3.2)))))
set_option maxRecDepth 100000 in
set_option maxHeartbeats 4000000 in
theorem c_X12_isEnd {l : Launch} {D : va_G} {an : An} {b : Nat} {o0 : Nat} (hk0 : KDF[o0]? = some (12, 0)) {M : Mm} {r : Int32} {M' : Mm} (h : f_X12_isEnd o0 M = some (r, M')) : Ct l D an b 0 yX12_isEnd cX12_isEnd 1 (some .boolean) 3 [.ref (b + o0)] KDF M (some (.int r)) KDF M' := by
  refine CtX.mk (as := fun b => [.ref (b + o0)]) (rv := fun b => (some (.int r))) (by decide) (fun b => Nat.le_of_ble_eq_true rfl) ⟨Nat.le_refl _, Nat.le_refl _⟩ (fun x X hR Z hN _ _ => ?_)
  have X : Ok x cX12_isEnd 1 RX12 (some .boolean) := X
  have G : Gz x 1 0 [(0, .ref (xb x + o0))] [] KDF M (f_X12_isEnd o0 M) (PsI2 x KDF) := by
    unfold f_X12_isEnd
    refine g1 (pc' := 1) (w_aload_n X dX12_isEnd_0 rfl 0 rfl) ?_
    refine g_bd (pc' := 4) (fun r1 => [(0, .ref (xb x + o0))]) (fun r1 => []) (fun r1 => r1) (fun r1 h => k_X12_nextToken X hR hN Z hk0 mw_1077 (by decide) (Nat.le_of_ble_eq_true rfl) dX12_isEnd_1 h) (fun r1 => ?_)
    show Gz x 1 4 [(0, .ref (xb x + o0))] [] KDF r1 _ _
    refine g1 (pc' := 5) (w_aload_n X dX12_isEnd_4 rfl 0 rfl) ?_
    refine g1 (pc' := 8) (gt_12_4 X hk0 mw_942 dX12_isEnd_5) ?_
    refine g1 (pc' := 10) (w_bipush X (59) dX12_isEnd_8 (by decide)) ?_
    refine g_if (pcT := 21) (pcF := 13) (w_icmp_eq (tgt := 21) X dX12_isEnd_10 (by decide)) (fun h2 => ?_) (fun h2 => ?_)
    · refine g1 (pc' := 22) (w_iconst X (1) dX12_isEnd_21 (by decide)) ?_
      refine g1 (pc' := 26) (w_goto X dX12_isEnd_22 (by decide)) ?_
      exact g_rZ2 X zb1 dX12_isEnd_26
    · refine g1 (pc' := 14) (w_aload_n X dX12_isEnd_13 rfl 0 rfl) ?_
      refine g1 (pc' := 15) (w_iconst X (1) dX12_isEnd_14 (by decide)) ?_
      refine g_bd (pc' := 18) (fun r3 => [(0, .ref (xb x + o0))]) (fun r3 => [.int r3.1]) (fun r3 => r3.2) (fun r3 h => k_X12_fails X hR hN Z hk0 mw_1085 (by decide) (Nat.le_of_ble_eq_true rfl) dX12_isEnd_15 h) (fun r3 => ?_)
      show Gz x 1 18 [(0, .ref (xb x + o0))] [.int r3.1] KDF r3.2 _ _
      refine g_if (pcT := 25) (pcF := 21) (w_if_eq (tgt := 25) X dX12_isEnd_18 (by decide)) (fun h4 => ?_) (fun h4 => ?_)
      · refine g1 (pc' := 26) (w_iconst X (0) dX12_isEnd_25 (by decide)) ?_
        exact g_rZ2 X zb0 dX12_isEnd_26
      · refine g1 (pc' := 22) (w_iconst X (1) dX12_isEnd_21 (by decide)) ?_
        refine g1 (pc' := 26) (w_goto X dX12_isEnd_22 (by decide)) ?_
        exact g_rZ2 X zb1 dX12_isEnd_26
  exact G _ h _ rfl
theorem k_X12_isEnd {x : Cxt} {cc : ByteArray} {nL : Nat} {own : String} {ret : Option FieldType} (X : Ok x cc nL own ret) {d : Nat} (hR : Rm x d KDF) (hN : Nst x) (Z : xz x = 0) {pc : Nat} {lv : List (Nat × Value)} {rest : List Value} {M : Mm} {o0 : Nat} (hk0 : KDF[o0]? = some (12, 0)) {idx : Nat} (hw : Cond.methodLink own idx yX12_isEnd ∈ tbG) (hdd : 3 + 1 ≤ d) (hrm : (rest.map fun v => v.category).sum ≤ 8) (hd : decode cc pc = .ok (.invokevirtual idx, 3)) {r : Int32} {M' : Mm} (h : f_X12_isEnd o0 M = some (r, M')) : StpZ x nL pc lv (.ref (xb x + o0) :: rest) KDF M (pc + 3) lv (.int r :: rest) KDF M' :=
  w_callV (st := []) (As := []) X hR hN (CtX0 Z (c_X12_isEnd hk0 h)) ⟨Nat.le_refl _, Nat.le_refl _⟩ ⟨Nat.le_refl _, Nat.le_refl _⟩ hk0 (ci := 12) (fs := fs_12 o0) (fun _ _ _ => rfl) rfl hw mw_1117 mw_35 mw_75 mw_1118 (n := 0) (by decide +kernel) rfl hdd (by decide) hrm hd
def b_X12_isChange_7  (s7 : Int32 × Int32 × Int32) : Option ((Int32 × Int32 × Int32) ⊕ (Int32 × Int32)) :=
  some (.inl (s7.1, s7.2.1, s7.2.2))
def f_X12_isChange (x0 : Int32) (x1 : Int32) : Option (Int32) :=
  Bd (Lp (b_X12_isChange_7) 100000 ((0 : Int32), (1 : Int32), (0 : Int32))) (fun e1 => (if e1.2 = 0 then some (0 : Int32) else (if (rm e1.1 (2 : Int32)) = 0 then some (1 : Int32) else some (0 : Int32))))
set_option maxRecDepth 100000 in
set_option maxHeartbeats 4000000 in
theorem c_X12_isChange {l : Launch} {D : va_G} {an : An} {b : Nat} {x0 : Int32} {x1 : Int32}  {M : Mm} {r : Int32} (h : f_X12_isChange x0 x1 = some r) : Ct l D an b 0 yX12_isChange cX12_isChange 5 (some .boolean) 2 [.int x0, .int x1] KDF M (some (.int r)) KDF M := by
  refine CtX.mk (as := fun b => [.int x0, .int x1]) (rv := fun b => (some (.int r))) (by decide) (fun b => Nat.le_of_ble_eq_true rfl) ⟨Nat.le_refl _, Nat.le_refl _⟩ (fun x X hR Z hN _ _ => ?_)
  have X : Ok x cX12_isChange 5 RX12 (some .boolean) := X
  have G : Gz x 5 0 [(0, .int x0), (1, .int x1)] [] KDF M (f_X12_isChange x0 x1) (PsI x KDF M) := by
    unfold f_X12_isChange
    refine g1 (pc' := 1) (w_iconst X (0) dX12_isChange_0 (by decide)) ?_
    refine g1 (pc' := 2) (lv' := [(2, .int (0 : Int32)), (0, .int x0), (1, .int x1)]) (w_istore_n X dX12_isChange_1 rfl (by decide) rfl) ?_
    refine g1 (pc' := 3) (w_iconst X (1) dX12_isChange_2 (by decide)) ?_
    refine g1 (pc' := 4) (lv' := [(3, .int (1 : Int32)), (2, .int (0 : Int32)), (0, .int x0), (1, .int x1)]) (w_istore_n X dX12_isChange_3 rfl (by decide) rfl) ?_
    refine g1 (pc' := 5) (w_iconst X (0) dX12_isChange_4 (by decide)) ?_
    refine g1 (pc' := 7) (lv' := [(4, .int (0 : Int32)), (3, .int (1 : Int32)), (2, .int (0 : Int32)), (0, .int x0), (1, .int x1)]) (w_istore X dX12_isChange_5 (by decide) rfl) ?_
    refine g_pick (lv' := [(0, .int x0), (1, .int x1), (2, .int (0 : Int32)), (3, .int (1 : Int32)), (4, .int (0 : Int32))]) [3, 4, 2, 1, 0] rfl ?_
    refine g_bdJ (J := 61) (fun e1 => [(2, .int e1.1), (3, .int e1.2)]) (fun e1 => []) (fun e1 => M) (g_lp (fun s7 => [(0, .int x0), (1, .int x1), (2, .int s7.1), (3, .int s7.2.1), (4, .int s7.2.2)]) (fun s7 => M) (fun s7 => ?_) 100000 ((0 : Int32), (1 : Int32), (0 : Int32))) (fun e1 => ?_)
    · show Gz x 5 7 [(0, .int x0), (1, .int x1), (2, .int s7.1), (3, .int s7.2.1), (4, .int s7.2.2)] [] KDF M (b_X12_isChange_7 s7) _
      unfold b_X12_isChange_7
      refine g_inl ?_
      exact g_end [0, 1, 2, 3, 4] rfl rfl rfl
    · show Gz x 5 61 [(2, .int e1.1), (3, .int e1.2)] [] KDF M _ _
      refine g1 (pc' := 62) (w_iload_n X dX12_isChange_61 rfl 1 rfl) ?_
      refine g_if (pcT := 75) (pcF := 65) (w_if_eq (tgt := 75) X dX12_isChange_62 (by decide)) (fun h2 => ?_) (fun h2 => ?_)
      · refine g1 (pc' := 76) (w_iconst X (0) dX12_isChange_75 (by decide)) ?_
        exact g_rZ X zb0 dX12_isChange_76
      · refine g1 (pc' := 66) (w_iload_n X dX12_isChange_65 rfl 0 rfl) ?_
        refine g1 (pc' := 67) (w_iconst X (2) dX12_isChange_66 (by decide)) ?_
        refine g1 (pc' := 68) (w_irem X dX12_isChange_67 (by decide)) ?_
        refine g_if (pcT := 71) (pcF := 75) (w_if_ne (tgt := 75) X dX12_isChange_68 (by decide)) (fun h3 => ?_) (fun h3 => ?_)
        · refine g1 (pc' := 72) (w_iconst X (1) dX12_isChange_71 (by decide)) ?_
          refine g1 (pc' := 76) (w_goto X dX12_isChange_72 (by decide)) ?_
          exact g_rZ X zb1 dX12_isChange_76
        · refine g1 (pc' := 76) (w_iconst X (0) dX12_isChange_75 (by decide)) ?_
          exact g_rZ X zb0 dX12_isChange_76
  exact G _ h _ rfl
theorem k_X12_isChange {x : Cxt} {cc : ByteArray} {nL : Nat} {own : String} {ret : Option FieldType} (X : Ok x cc nL own ret) {d : Nat} (hR : Rm x d KDF) (hN : Nst x) (Z : xz x = 0) {pc : Nat} {lv : List (Nat × Value)} {rest : List Value} {M : Mm} {x0 : Int32} {x1 : Int32}  {idx : Nat} (hw : Cond.methodLink own idx yX12_isChange ∈ tbG) (hdd : 2 + 1 ≤ d) (hrm : (rest.map fun v => v.category).sum ≤ 8) (hd : decode cc pc = .ok (.invokestatic idx, 3)) {r : Int32} (h : f_X12_isChange x0 x1 = some r) : StpZ x nL pc lv (.int x1 :: .int x0 :: rest) KDF M (pc + 3) lv (.int r :: rest) KDF M :=
  w_callS (st := []) (As := [.int x0, .int x1]) X hR hN (CtX0 Z (c_X12_isChange  h)) ⟨Nat.le_refl _, Nat.le_refl _⟩ ⟨Nat.le_refl _, Nat.le_refl _⟩ hw mw_1106 mw_75 mw_1107 (n := 2) (by decide +kernel) rfl hdd (by decide) hrm hd
def b_X12_isHead_2  (s2 : Int32 × Mm) : Option ((Int32 × Mm) ⊕ (Mm)) :=
  some (.inl (s2.1, s2.2))
def f_X12_isHead (o0 : Nat) (M : Mm) : Option (Int32 × Mm) :=
  Bd (Lp (b_X12_isHead_2) 100000 ((1 : Int32), M)) (fun e1 => (if (e1 o0 4) = (59 : Int32) then (if (2 : Int32) < (e1 o0 9) then some ((1 : Int32), e1) else Bd (f_X12_fails o0 (1 : Int32) e1) (fun r4 => (if r4.1 = 0 then some ((0 : Int32), r4.2) else some ((1 : Int32), r4.2)))) else Bd (f_X12_fails o0 (1 : Int32) e1) (fun r6 => (if r6.1 = 0 then some ((0 : Int32), r6.2) else some ((1 : Int32), r6.2)))))
set_option maxRecDepth 100000 in
set_option maxHeartbeats 4000000 in
theorem c_X12_isHead {l : Launch} {D : va_G} {an : An} {b : Nat} {o0 : Nat} (hk0 : KDF[o0]? = some (12, 0)) {M : Mm} {r : Int32} {M' : Mm} (h : f_X12_isHead o0 M = some (r, M')) : Ct l D an b 0 yX12_isHead cX12_isHead 2 (some .boolean) 4 [.ref (b + o0)] KDF M (some (.int r)) KDF M' := by
  refine CtX.mk (as := fun b => [.ref (b + o0)]) (rv := fun b => (some (.int r))) (by decide) (fun b => Nat.le_of_ble_eq_true rfl) ⟨Nat.le_refl _, Nat.le_refl _⟩ (fun x X hR Z hN _ _ => ?_)
  have X : Ok x cX12_isHead 2 RX12 (some .boolean) := X
  have G : Gz x 2 0 [(0, .ref (xb x + o0))] [] KDF M (f_X12_isHead o0 M) (PsI2 x KDF) := by
    unfold f_X12_isHead
    refine g1 (pc' := 1) (w_iconst X (1) dX12_isHead_0 (by decide)) ?_
    refine g1 (pc' := 2) (lv' := [(1, .int (1 : Int32)), (0, .ref (xb x + o0))]) (w_istore_n X dX12_isHead_1 rfl (by decide) rfl) ?_
    refine g_pick (lv' := [(0, .ref (xb x + o0)), (1, .int (1 : Int32))]) [1, 0] rfl ?_
    refine g_bdJ (J := 78) (fun e1 => [(0, .ref (xb x + o0))]) (fun e1 => []) (fun e1 => e1) (g_lp (fun s2 => [(0, .ref (xb x + o0)), (1, .int s2.1)]) (fun s2 => s2.2) (fun s2 => ?_) 100000 ((1 : Int32), M)) (fun e1 => ?_)
    · show Gz x 2 2 [(0, .ref (xb x + o0)), (1, .int s2.1)] [] KDF s2.2 (b_X12_isHead_2 s2) _
      unfold b_X12_isHead_2
      refine g_inl ?_
      exact g_end [0, 1] rfl rfl rfl
    · show Gz x 2 78 [(0, .ref (xb x + o0))] [] KDF e1 _ _
      refine g1 (pc' := 79) (w_aload_n X dX12_isHead_78 rfl 0 rfl) ?_
      refine g1 (pc' := 82) (gt_12_4 X hk0 mw_942 dX12_isHead_79) ?_
      refine g1 (pc' := 84) (w_bipush X (59) dX12_isHead_82 (by decide)) ?_
      refine g_if (pcT := 87) (pcF := 95) (w_icmp_ne (tgt := 95) X dX12_isHead_84 (by decide)) (fun h2 => ?_) (fun h2 => ?_)
      · refine g1 (pc' := 88) (w_aload_n X dX12_isHead_87 rfl 0 rfl) ?_
        refine g1 (pc' := 91) (gt_12_9 X hk0 mw_947 dX12_isHead_88) ?_
        refine g1 (pc' := 92) (w_iconst X (2) dX12_isHead_91 (by decide)) ?_
        refine g_if (pcT := 103) (pcF := 95) (w_icmp_gt (tgt := 103) X dX12_isHead_92 (by decide)) (fun h3 => ?_) (fun h3 => ?_)
        · refine g1 (pc' := 104) (w_iconst X (1) dX12_isHead_103 (by decide)) ?_
          refine g1 (pc' := 108) (w_goto X dX12_isHead_104 (by decide)) ?_
          exact g_rZ2 X zb1 dX12_isHead_108
        · refine g1 (pc' := 96) (w_aload_n X dX12_isHead_95 rfl 0 rfl) ?_
          refine g1 (pc' := 97) (w_iconst X (1) dX12_isHead_96 (by decide)) ?_
          refine g_bd (pc' := 100) (fun r4 => [(0, .ref (xb x + o0))]) (fun r4 => [.int r4.1]) (fun r4 => r4.2) (fun r4 h => k_X12_fails X hR hN Z hk0 mw_1085 (by decide) (Nat.le_of_ble_eq_true rfl) dX12_isHead_97 h) (fun r4 => ?_)
          show Gz x 2 100 [(0, .ref (xb x + o0))] [.int r4.1] KDF r4.2 _ _
          refine g_if (pcT := 107) (pcF := 103) (w_if_eq (tgt := 107) X dX12_isHead_100 (by decide)) (fun h5 => ?_) (fun h5 => ?_)
          · refine g1 (pc' := 108) (w_iconst X (0) dX12_isHead_107 (by decide)) ?_
            exact g_rZ2 X zb0 dX12_isHead_108
          · refine g1 (pc' := 104) (w_iconst X (1) dX12_isHead_103 (by decide)) ?_
            refine g1 (pc' := 108) (w_goto X dX12_isHead_104 (by decide)) ?_
            exact g_rZ2 X zb1 dX12_isHead_108
      · refine g1 (pc' := 96) (w_aload_n X dX12_isHead_95 rfl 0 rfl) ?_
        refine g1 (pc' := 97) (w_iconst X (1) dX12_isHead_96 (by decide)) ?_
        refine g_bd (pc' := 100) (fun r6 => [(0, .ref (xb x + o0))]) (fun r6 => [.int r6.1]) (fun r6 => r6.2) (fun r6 h => k_X12_fails X hR hN Z hk0 mw_1085 (by decide) (Nat.le_of_ble_eq_true rfl) dX12_isHead_97 h) (fun r6 => ?_)
        show Gz x 2 100 [(0, .ref (xb x + o0))] [.int r6.1] KDF r6.2 _ _
        refine g_if (pcT := 107) (pcF := 103) (w_if_eq (tgt := 107) X dX12_isHead_100 (by decide)) (fun h7 => ?_) (fun h7 => ?_)
        · refine g1 (pc' := 108) (w_iconst X (0) dX12_isHead_107 (by decide)) ?_
          exact g_rZ2 X zb0 dX12_isHead_108
        · refine g1 (pc' := 104) (w_iconst X (1) dX12_isHead_103 (by decide)) ?_
          refine g1 (pc' := 108) (w_goto X dX12_isHead_104 (by decide)) ?_
          exact g_rZ2 X zb1 dX12_isHead_108
  exact G _ h _ rfl
theorem k_X12_isHead {x : Cxt} {cc : ByteArray} {nL : Nat} {own : String} {ret : Option FieldType} (X : Ok x cc nL own ret) {d : Nat} (hR : Rm x d KDF) (hN : Nst x) (Z : xz x = 0) {pc : Nat} {lv : List (Nat × Value)} {rest : List Value} {M : Mm} {o0 : Nat} (hk0 : KDF[o0]? = some (12, 0)) {idx : Nat} (hw : Cond.methodLink own idx yX12_isHead ∈ tbG) (hdd : 4 + 1 ≤ d) (hrm : (rest.map fun v => v.category).sum ≤ 8) (hd : decode cc pc = .ok (.invokevirtual idx, 3)) {r : Int32} {M' : Mm} (h : f_X12_isHead o0 M = some (r, M')) : StpZ x nL pc lv (.ref (xb x + o0) :: rest) KDF M (pc + 3) lv (.int r :: rest) KDF M' :=
  w_callV (st := []) (As := []) X hR hN (CtX0 Z (c_X12_isHead hk0 h)) ⟨Nat.le_refl _, Nat.le_refl _⟩ ⟨Nat.le_refl _, Nat.le_refl _⟩ hk0 (ci := 12) (fs := fs_12 o0) (fun _ _ _ => rfl) rfl hw mw_1091 mw_30 mw_75 mw_1092 (n := 0) (by decide +kernel) rfl hdd (by decide) hrm hd
def f_X12_isPart (o0 : Nat) (M : Mm) : Option (Int32 × Mm) :=
  Bd (f_X12_isNumber o0 (0 : Int32) ((sl (1 : Int32) (M o0 9)) - (1 : Int32)) M) (fun r1 => (if r1.1 = 0 then some ((0 : Int32), r1.2) else Bd (f_X12_isChange (r1.2 o0 5) (r1.2 o0 9)) (fun r3 => (if r3 = 0 then Bd (f_X12_fails o0 (4 : Int32) r1.2) (fun r5 => (if r5.1 = 0 then some ((0 : Int32), r5.2) else some ((1 : Int32), r5.2))) else some ((1 : Int32), r1.2)))))
set_option maxRecDepth 100000 in
set_option maxHeartbeats 4000000 in
theorem c_X12_isPart {l : Launch} {D : va_G} {an : An} {b : Nat} {o0 : Nat} (hk0 : KDF[o0]? = some (12, 0)) {M : Mm} {r : Int32} {M' : Mm} (h : f_X12_isPart o0 M = some (r, M')) : Ct l D an b 0 yX12_isPart cX12_isPart 1 (some .boolean) 4 [.ref (b + o0)] KDF M (some (.int r)) KDF M' := by
  refine CtX.mk (as := fun b => [.ref (b + o0)]) (rv := fun b => (some (.int r))) (by decide) (fun b => Nat.le_of_ble_eq_true rfl) ⟨Nat.le_refl _, Nat.le_refl _⟩ (fun x X hR Z hN _ _ => ?_)
  have X : Ok x cX12_isPart 1 RX12 (some .boolean) := X
  have G : Gz x 1 0 [(0, .ref (xb x + o0))] [] KDF M (f_X12_isPart o0 M) (PsI2 x KDF) := by
    unfold f_X12_isPart
    refine g1 (pc' := 1) (w_aload_n X dX12_isPart_0 rfl 0 rfl) ?_
    refine g1 (pc' := 2) (w_iconst X (0) dX12_isPart_1 (by decide)) ?_
    refine g1 (pc' := 3) (w_iconst X (1) dX12_isPart_2 (by decide)) ?_
    refine g1 (pc' := 4) (w_aload_n X dX12_isPart_3 rfl 0 rfl) ?_
    refine g1 (pc' := 7) (gt_12_9 X hk0 mw_947 dX12_isPart_4) ?_
    refine g1 (pc' := 8) (w_ishl X dX12_isPart_7) ?_
    refine g1 (pc' := 9) (w_iconst X (1) dX12_isPart_8 (by decide)) ?_
    refine g1 (pc' := 10) (w_isub X dX12_isPart_9) ?_
    refine g_bd (pc' := 13) (fun r1 => [(0, .ref (xb x + o0))]) (fun r1 => [.int r1.1]) (fun r1 => r1.2) (fun r1 h => k_X12_isNumber X hR hN Z hk0 mw_1093 (by decide) (Nat.le_of_ble_eq_true rfl) dX12_isPart_10 h) (fun r1 => ?_)
    show Gz x 1 13 [(0, .ref (xb x + o0))] [.int r1.1] KDF r1.2 _ _
    refine g_if (pcT := 16) (pcF := 18) (w_if_ne (tgt := 18) X dX12_isPart_13 (by decide)) (fun h2 => ?_) (fun h2 => ?_)
    · refine g1 (pc' := 17) (w_iconst X (0) dX12_isPart_16 (by decide)) ?_
      exact g_rZ2 X zb0 dX12_isPart_17
    · refine g1 (pc' := 19) (w_aload_n X dX12_isPart_18 rfl 0 rfl) ?_
      refine g1 (pc' := 22) (gt_12_5 X hk0 mw_943 dX12_isPart_19) ?_
      refine g1 (pc' := 23) (w_aload_n X dX12_isPart_22 rfl 0 rfl) ?_
      refine g1 (pc' := 26) (gt_12_9 X hk0 mw_947 dX12_isPart_23) ?_
      refine g_bd (pc' := 29) (fun r3 => [(0, .ref (xb x + o0))]) (fun r3 => [.int r3]) (fun r3 => r1.2) (fun r3 h => k_X12_isChange X hR hN Z  mw_1105 (by decide) (Nat.le_of_ble_eq_true rfl) dX12_isPart_26 h) (fun r3 => ?_)
      show Gz x 1 29 [(0, .ref (xb x + o0))] [.int r3] KDF r1.2 _ _
      refine g_if (pcT := 32) (pcF := 40) (w_if_ne (tgt := 40) X dX12_isPart_29 (by decide)) (fun h4 => ?_) (fun h4 => ?_)
      · refine g1 (pc' := 33) (w_aload_n X dX12_isPart_32 rfl 0 rfl) ?_
        refine g1 (pc' := 34) (w_iconst X (4) dX12_isPart_33 (by decide)) ?_
        refine g_bd (pc' := 37) (fun r5 => [(0, .ref (xb x + o0))]) (fun r5 => [.int r5.1]) (fun r5 => r5.2) (fun r5 h => k_X12_fails X hR hN Z hk0 mw_1085 (by decide) (Nat.le_of_ble_eq_true rfl) dX12_isPart_34 h) (fun r5 => ?_)
        show Gz x 1 37 [(0, .ref (xb x + o0))] [.int r5.1] KDF r5.2 _ _
        refine g_if (pcT := 44) (pcF := 40) (w_if_eq (tgt := 44) X dX12_isPart_37 (by decide)) (fun h6 => ?_) (fun h6 => ?_)
        · refine g1 (pc' := 45) (w_iconst X (0) dX12_isPart_44 (by decide)) ?_
          exact g_rZ2 X zb0 dX12_isPart_45
        · refine g1 (pc' := 41) (w_iconst X (1) dX12_isPart_40 (by decide)) ?_
          refine g1 (pc' := 45) (w_goto X dX12_isPart_41 (by decide)) ?_
          exact g_rZ2 X zb1 dX12_isPart_45
      · refine g1 (pc' := 41) (w_iconst X (1) dX12_isPart_40 (by decide)) ?_
        refine g1 (pc' := 45) (w_goto X dX12_isPart_41 (by decide)) ?_
        exact g_rZ2 X zb1 dX12_isPart_45
  exact G _ h _ rfl
theorem k_X12_isPart {x : Cxt} {cc : ByteArray} {nL : Nat} {own : String} {ret : Option FieldType} (X : Ok x cc nL own ret) {d : Nat} (hR : Rm x d KDF) (hN : Nst x) (Z : xz x = 0) {pc : Nat} {lv : List (Nat × Value)} {rest : List Value} {M : Mm} {o0 : Nat} (hk0 : KDF[o0]? = some (12, 0)) {idx : Nat} (hw : Cond.methodLink own idx yX12_isPart ∈ tbG) (hdd : 4 + 1 ≤ d) (hrm : (rest.map fun v => v.category).sum ≤ 8) (hd : decode cc pc = .ok (.invokevirtual idx, 3)) {r : Int32} {M' : Mm} (h : f_X12_isPart o0 M = some (r, M')) : StpZ x nL pc lv (.ref (xb x + o0) :: rest) KDF M (pc + 3) lv (.int r :: rest) KDF M' :=
  w_callV (st := []) (As := []) X hR hN (CtX0 Z (c_X12_isPart hk0 h)) ⟨Nat.le_refl _, Nat.le_refl _⟩ ⟨Nat.le_refl _, Nat.le_refl _⟩ hk0 (ci := 12) (fs := fs_12 o0) (fun _ _ _ => rfl) rfl hw mw_1103 mw_33 mw_75 mw_1104 (n := 0) (by decide +kernel) rfl hdd (by decide) hrm hd
def b_X12_isMethod_15  (s15 : Int32 × Mm) : Option ((Int32 × Mm) ⊕ (Mm)) :=
  some (.inl (s15.1, s15.2))
def f_X12_isMethod (o0 : Nat) (M : Mm) : Option (Int32 × Mm) :=
  (if (M o0 10) ≤ 0 then Bd (Lp (b_X12_isMethod_15) 100000 ((1 : Int32), M)) (fun e2 => (if (e2 o0 4) = (59 : Int32) then some ((1 : Int32), e2) else Bd (f_X12_fails o0 (1 : Int32) e2) (fun r4 => (if r4.1 = 0 then some ((0 : Int32), r4.2) else some ((1 : Int32), r4.2))))) else Bd (f_X12_fails o0 (3 : Int32) M) (fun r6 => Gd (zb r6.1) (some (r6.1, r6.2))))
set_option maxRecDepth 100000 in
set_option maxHeartbeats 4000000 in
theorem c_X12_isMethod {l : Launch} {D : va_G} {an : An} {b : Nat} {o0 : Nat} (hk0 : KDF[o0]? = some (12, 0)) {M : Mm} {r : Int32} {M' : Mm} (h : f_X12_isMethod o0 M = some (r, M')) : Ct l D an b 0 yX12_isMethod cX12_isMethod 2 (some .boolean) 5 [.ref (b + o0)] KDF M (some (.int r)) KDF M' := by
  refine CtX.mk (as := fun b => [.ref (b + o0)]) (rv := fun b => (some (.int r))) (by decide) (fun b => Nat.le_of_ble_eq_true rfl) ⟨Nat.le_refl _, Nat.le_refl _⟩ (fun x X hR Z hN _ _ => ?_)
  have X : Ok x cX12_isMethod 2 RX12 (some .boolean) := X
  have G : Gz x 2 0 [(0, .ref (xb x + o0))] [] KDF M (f_X12_isMethod o0 M) (PsI2 x KDF) := by
    unfold f_X12_isMethod
    refine g1 (pc' := 1) (w_aload_n X dX12_isMethod_0 rfl 0 rfl) ?_
    refine g1 (pc' := 4) (gt_12_10 X hk0 mw_948 dX12_isMethod_1) ?_
    refine g_if (pcT := 13) (pcF := 7) (w_if_le (tgt := 13) X dX12_isMethod_4 (by decide)) (fun h1 => ?_) (fun h1 => ?_)
    · refine g1 (pc' := 14) (w_iconst X (1) dX12_isMethod_13 (by decide)) ?_
      refine g1 (pc' := 15) (lv' := [(1, .int (1 : Int32)), (0, .ref (xb x + o0))]) (w_istore_n X dX12_isMethod_14 rfl (by decide) rfl) ?_
      refine g_pick (lv' := [(0, .ref (xb x + o0)), (1, .int (1 : Int32))]) [1, 0] rfl ?_
      refine g_bdJ (J := 88) (fun e2 => [(0, .ref (xb x + o0))]) (fun e2 => []) (fun e2 => e2) (g_lp (fun s15 => [(0, .ref (xb x + o0)), (1, .int s15.1)]) (fun s15 => s15.2) (fun s15 => ?_) 100000 ((1 : Int32), M)) (fun e2 => ?_)
      · show Gz x 2 15 [(0, .ref (xb x + o0)), (1, .int s15.1)] [] KDF s15.2 (b_X12_isMethod_15 s15) _
        unfold b_X12_isMethod_15
        refine g_inl ?_
        exact g_end [0, 1] rfl rfl rfl
      · show Gz x 2 88 [(0, .ref (xb x + o0))] [] KDF e2 _ _
        refine g1 (pc' := 89) (w_aload_n X dX12_isMethod_88 rfl 0 rfl) ?_
        refine g1 (pc' := 92) (gt_12_4 X hk0 mw_942 dX12_isMethod_89) ?_
        refine g1 (pc' := 94) (w_bipush X (59) dX12_isMethod_92 (by decide)) ?_
        refine g_if (pcT := 105) (pcF := 97) (w_icmp_eq (tgt := 105) X dX12_isMethod_94 (by decide)) (fun h3 => ?_) (fun h3 => ?_)
        · refine g1 (pc' := 106) (w_iconst X (1) dX12_isMethod_105 (by decide)) ?_
          refine g1 (pc' := 110) (w_goto X dX12_isMethod_106 (by decide)) ?_
          exact g_rZ2 X zb1 dX12_isMethod_110
        · refine g1 (pc' := 98) (w_aload_n X dX12_isMethod_97 rfl 0 rfl) ?_
          refine g1 (pc' := 99) (w_iconst X (1) dX12_isMethod_98 (by decide)) ?_
          refine g_bd (pc' := 102) (fun r4 => [(0, .ref (xb x + o0))]) (fun r4 => [.int r4.1]) (fun r4 => r4.2) (fun r4 h => k_X12_fails X hR hN Z hk0 mw_1085 (by decide) (Nat.le_of_ble_eq_true rfl) dX12_isMethod_99 h) (fun r4 => ?_)
          show Gz x 2 102 [(0, .ref (xb x + o0))] [.int r4.1] KDF r4.2 _ _
          refine g_if (pcT := 109) (pcF := 105) (w_if_eq (tgt := 109) X dX12_isMethod_102 (by decide)) (fun h5 => ?_) (fun h5 => ?_)
          · refine g1 (pc' := 110) (w_iconst X (0) dX12_isMethod_109 (by decide)) ?_
            exact g_rZ2 X zb0 dX12_isMethod_110
          · refine g1 (pc' := 106) (w_iconst X (1) dX12_isMethod_105 (by decide)) ?_
            refine g1 (pc' := 110) (w_goto X dX12_isMethod_106 (by decide)) ?_
            exact g_rZ2 X zb1 dX12_isMethod_110
    · refine g1 (pc' := 8) (w_aload_n X dX12_isMethod_7 rfl 0 rfl) ?_
      refine g1 (pc' := 9) (w_iconst X (3) dX12_isMethod_8 (by decide)) ?_
      refine g_bd (pc' := 12) (fun r6 => [(0, .ref (xb x + o0))]) (fun r6 => [.int r6.1]) (fun r6 => r6.2) (fun r6 h => k_X12_fails X hR hN Z hk0 mw_1085 (by decide) (Nat.le_of_ble_eq_true rfl) dX12_isMethod_9 h) (fun r6 => ?_)
      show Gz x 2 12 [(0, .ref (xb x + o0))] [.int r6.1] KDF r6.2 _ _
      refine g_gd (fun h7 => ?_)
      exact g_rZ2 X h7 dX12_isMethod_12
  exact G _ h _ rfl
theorem k_X12_isMethod {x : Cxt} {cc : ByteArray} {nL : Nat} {own : String} {ret : Option FieldType} (X : Ok x cc nL own ret) {d : Nat} (hR : Rm x d KDF) (hN : Nst x) (Z : xz x = 0) {pc : Nat} {lv : List (Nat × Value)} {rest : List Value} {M : Mm} {o0 : Nat} (hk0 : KDF[o0]? = some (12, 0)) {idx : Nat} (hw : Cond.methodLink own idx yX12_isMethod ∈ tbG) (hdd : 5 + 1 ≤ d) (hrm : (rest.map fun v => v.category).sum ≤ 8) (hd : decode cc pc = .ok (.invokevirtual idx, 3)) {r : Int32} {M' : Mm} (h : f_X12_isMethod o0 M = some (r, M')) : StpZ x nL pc lv (.ref (xb x + o0) :: rest) KDF M (pc + 3) lv (.int r :: rest) KDF M' :=
  w_callV (st := []) (As := []) X hR hN (CtX0 Z (c_X12_isMethod hk0 h)) ⟨Nat.le_refl _, Nat.le_refl _⟩ ⟨Nat.le_refl _, Nat.le_refl _⟩ hk0 (ci := 12) (fs := fs_12 o0) (fun _ _ _ => rfl) rfl hw mw_1099 mw_32 mw_75 mw_1100 (n := 0) (by decide +kernel) rfl hdd (by decide) hrm hd
def f_X12_isSuitorItem (o0 : Nat) (M : Mm) : Option (Int32 × Mm) :=
  (if (M o0 11) = (M o0 9) then Bd (f_X12_fails o0 (3 : Int32) M) (fun r2 => Gd (zb r2.1) (some (r2.1, r2.2))) else Bd (f_X12_isNumber o0 (1 : Int32) (20 : Int32) M) (fun r4 => (if r4.1 = 0 then some ((0 : Int32), r4.2) else Gd (ib (r4.2 o0 11) 6) (Lt (st2 r4.2 133 (ix (r4.2 o0 11)) (r4.2 o0 5)) (fun M7 => Lt (st2 M7 o0 11 ((M7 o0 11) + (1 : Int32))) (fun M8 => Bd (f_X12_isEnd o0 M8) (fun r9 => Gd (zb r9.1) (some (r9.1, r9.2)))))))))
set_option maxRecDepth 100000 in
set_option maxHeartbeats 4000000 in
theorem c_X12_isSuitorItem {l : Launch} {D : va_G} {an : An} {b : Nat} {o0 : Nat} (hk0 : KDF[o0]? = some (12, 0)) {M : Mm} {r : Int32} {M' : Mm} (h : f_X12_isSuitorItem o0 M = some (r, M')) : Ct l D an b 0 yX12_isSuitorItem cX12_isSuitorItem 1 (some .boolean) 4 [.ref (b + o0)] KDF M (some (.int r)) KDF M' := by
  refine CtX.mk (as := fun b => [.ref (b + o0)]) (rv := fun b => (some (.int r))) (by decide) (fun b => Nat.le_of_ble_eq_true rfl) ⟨Nat.le_refl _, Nat.le_refl _⟩ (fun x X hR Z hN _ _ => ?_)
  have X : Ok x cX12_isSuitorItem 1 RX12 (some .boolean) := X
  have G : Gz x 1 0 [(0, .ref (xb x + o0))] [] KDF M (f_X12_isSuitorItem o0 M) (PsI2 x KDF) := by
    unfold f_X12_isSuitorItem
    refine g1 (pc' := 1) (w_aload_n X dX12_isSuitorItem_0 rfl 0 rfl) ?_
    refine g1 (pc' := 4) (gt_12_11 X hk0 mw_949 dX12_isSuitorItem_1) ?_
    refine g1 (pc' := 5) (w_aload_n X dX12_isSuitorItem_4 rfl 0 rfl) ?_
    refine g1 (pc' := 8) (gt_12_9 X hk0 mw_947 dX12_isSuitorItem_5) ?_
    refine g_if (pcT := 11) (pcF := 17) (w_icmp_ne (tgt := 17) X dX12_isSuitorItem_8 (by decide)) (fun h1 => ?_) (fun h1 => ?_)
    · refine g1 (pc' := 12) (w_aload_n X dX12_isSuitorItem_11 rfl 0 rfl) ?_
      refine g1 (pc' := 13) (w_iconst X (3) dX12_isSuitorItem_12 (by decide)) ?_
      refine g_bd (pc' := 16) (fun r2 => [(0, .ref (xb x + o0))]) (fun r2 => [.int r2.1]) (fun r2 => r2.2) (fun r2 h => k_X12_fails X hR hN Z hk0 mw_1085 (by decide) (Nat.le_of_ble_eq_true rfl) dX12_isSuitorItem_13 h) (fun r2 => ?_)
      show Gz x 1 16 [(0, .ref (xb x + o0))] [.int r2.1] KDF r2.2 _ _
      refine g_gd (fun h3 => ?_)
      exact g_rZ2 X h3 dX12_isSuitorItem_16
    · refine g1 (pc' := 18) (w_aload_n X dX12_isSuitorItem_17 rfl 0 rfl) ?_
      refine g1 (pc' := 19) (w_iconst X (1) dX12_isSuitorItem_18 (by decide)) ?_
      refine g1 (pc' := 21) (w_bipush X (20) dX12_isSuitorItem_19 (by decide)) ?_
      refine g_bd (pc' := 24) (fun r4 => [(0, .ref (xb x + o0))]) (fun r4 => [.int r4.1]) (fun r4 => r4.2) (fun r4 h => k_X12_isNumber X hR hN Z hk0 mw_1093 (by decide) (Nat.le_of_ble_eq_true rfl) dX12_isSuitorItem_21 h) (fun r4 => ?_)
      show Gz x 1 24 [(0, .ref (xb x + o0))] [.int r4.1] KDF r4.2 _ _
      refine g_if (pcT := 27) (pcF := 29) (w_if_ne (tgt := 29) X dX12_isSuitorItem_24 (by decide)) (fun h5 => ?_) (fun h5 => ?_)
      · refine g1 (pc' := 28) (w_iconst X (0) dX12_isSuitorItem_27 (by decide)) ?_
        exact g_rZ2 X zb0 dX12_isSuitorItem_28
      · refine g1 (pc' := 30) (w_aload_n X dX12_isSuitorItem_29 rfl 0 rfl) ?_
        refine g1 (pc' := 33) (gt_12_15 X hk0 mw_953 dX12_isSuitorItem_30) ?_
        refine g1 (pc' := 34) (w_aload_n X dX12_isSuitorItem_33 rfl 0 rfl) ?_
        refine g1 (pc' := 37) (gt_12_11 X hk0 mw_949 dX12_isSuitorItem_34) ?_
        refine g1 (pc' := 38) (w_aload_n X dX12_isSuitorItem_37 rfl 0 rfl) ?_
        refine g1 (pc' := 41) (gt_12_5 X hk0 mw_943 dX12_isSuitorItem_38) ?_
        refine g_gd (fun h6 => ?_)
        refine g_lt (pc' := 42) (fun M7 => [(0, .ref (xb x + o0))]) (fun M7 => []) (fun M7 => M7) (w_iast X Z kd_133 h6 dX12_isSuitorItem_41) (fun M7 => ?_)
        show Gz x 1 42 [(0, .ref (xb x + o0))] [] KDF M7 _ _
        refine g1 (pc' := 43) (w_aload_n X dX12_isSuitorItem_42 rfl 0 rfl) ?_
        refine g1 (pc' := 44) (w_dup X dX12_isSuitorItem_43 rfl) ?_
        refine g1 (pc' := 47) (gt_12_11 X hk0 mw_949 dX12_isSuitorItem_44) ?_
        refine g1 (pc' := 48) (w_iconst X (1) dX12_isSuitorItem_47 (by decide)) ?_
        refine g1 (pc' := 49) (w_iadd X dX12_isSuitorItem_48) ?_
        refine g_lt (pc' := 52) (fun M8 => [(0, .ref (xb x + o0))]) (fun M8 => []) (fun M8 => M8) (pt_12_11 X Z hk0 mw_949 dX12_isSuitorItem_49) (fun M8 => ?_)
        show Gz x 1 52 [(0, .ref (xb x + o0))] [] KDF M8 _ _
        refine g1 (pc' := 53) (w_aload_n X dX12_isSuitorItem_52 rfl 0 rfl) ?_
        refine g_bd (pc' := 56) (fun r9 => [(0, .ref (xb x + o0))]) (fun r9 => [.int r9.1]) (fun r9 => r9.2) (fun r9 h => k_X12_isEnd X hR hN Z hk0 mw_1115 (by decide) (Nat.le_of_ble_eq_true rfl) dX12_isSuitorItem_53 h) (fun r9 => ?_)
        show Gz x 1 56 [(0, .ref (xb x + o0))] [.int r9.1] KDF r9.2 _ _
        refine g_gd (fun h10 => ?_)
        exact g_rZ2 X h10 dX12_isSuitorItem_56
  exact G _ h _ rfl
theorem k_X12_isSuitorItem {x : Cxt} {cc : ByteArray} {nL : Nat} {own : String} {ret : Option FieldType} (X : Ok x cc nL own ret) {d : Nat} (hR : Rm x d KDF) (hN : Nst x) (Z : xz x = 0) {pc : Nat} {lv : List (Nat × Value)} {rest : List Value} {M : Mm} {o0 : Nat} (hk0 : KDF[o0]? = some (12, 0)) {idx : Nat} (hw : Cond.methodLink own idx yX12_isSuitorItem ∈ tbG) (hdd : 4 + 1 ≤ d) (hrm : (rest.map fun v => v.category).sum ≤ 8) (hd : decode cc pc = .ok (.invokevirtual idx, 3)) {r : Int32} {M' : Mm} (h : f_X12_isSuitorItem o0 M = some (r, M')) : StpZ x nL pc lv (.ref (xb x + o0) :: rest) KDF M (pc + 3) lv (.int r :: rest) KDF M' :=
  w_callV (st := []) (As := []) X hR hN (CtX0 Z (c_X12_isSuitorItem hk0 h)) ⟨Nat.le_refl _, Nat.le_refl _⟩ ⟨Nat.le_refl _, Nat.le_refl _⟩ hk0 (ci := 12) (fs := fs_12 o0) (fun _ _ _ => rfl) rfl hw mw_1113 mw_34 mw_75 mw_1114 (n := 0) (by decide +kernel) rfl hdd (by decide) hrm hd
def f_X12_isCall (o0 : Nat) (M : Mm) : Option (Int32 × Mm) :=
  (if (M o0 12) < 0 then Bd (f_X12_isPart o0 M) (fun r2 => (if r2.1 = 0 then some ((0 : Int32), r2.2) else Lt (st2 r2.2 o0 12 (r2.2 o0 5)) (fun M4 => Bd (f_X12_isEnd o0 M4) (fun r5 => Gd (zb r5.1) (some (r5.1, r5.2)))))) else Bd (f_X12_fails o0 (3 : Int32) M) (fun r7 => Gd (zb r7.1) (some (r7.1, r7.2))))
set_option maxRecDepth 100000 in
set_option maxHeartbeats 4000000 in
theorem c_X12_isCall {l : Launch} {D : va_G} {an : An} {b : Nat} {o0 : Nat} (hk0 : KDF[o0]? = some (12, 0)) {M : Mm} {r : Int32} {M' : Mm} (h : f_X12_isCall o0 M = some (r, M')) : Ct l D an b 0 yX12_isCall cX12_isCall 1 (some .boolean) 5 [.ref (b + o0)] KDF M (some (.int r)) KDF M' := by
  refine CtX.mk (as := fun b => [.ref (b + o0)]) (rv := fun b => (some (.int r))) (by decide) (fun b => Nat.le_of_ble_eq_true rfl) ⟨Nat.le_refl _, Nat.le_refl _⟩ (fun x X hR Z hN _ _ => ?_)
  have X : Ok x cX12_isCall 1 RX12 (some .boolean) := X
  have G : Gz x 1 0 [(0, .ref (xb x + o0))] [] KDF M (f_X12_isCall o0 M) (PsI2 x KDF) := by
    unfold f_X12_isCall
    refine g1 (pc' := 1) (w_aload_n X dX12_isCall_0 rfl 0 rfl) ?_
    refine g1 (pc' := 4) (gt_12_12 X hk0 mw_950 dX12_isCall_1) ?_
    refine g_if (pcT := 13) (pcF := 7) (w_if_lt (tgt := 13) X dX12_isCall_4 (by decide)) (fun h1 => ?_) (fun h1 => ?_)
    · refine g1 (pc' := 14) (w_aload_n X dX12_isCall_13 rfl 0 rfl) ?_
      refine g_bd (pc' := 17) (fun r2 => [(0, .ref (xb x + o0))]) (fun r2 => [.int r2.1]) (fun r2 => r2.2) (fun r2 h => k_X12_isPart X hR hN Z hk0 mw_1101 (by decide) (Nat.le_of_ble_eq_true rfl) dX12_isCall_14 h) (fun r2 => ?_)
      show Gz x 1 17 [(0, .ref (xb x + o0))] [.int r2.1] KDF r2.2 _ _
      refine g_if (pcT := 20) (pcF := 22) (w_if_ne (tgt := 22) X dX12_isCall_17 (by decide)) (fun h3 => ?_) (fun h3 => ?_)
      · refine g1 (pc' := 21) (w_iconst X (0) dX12_isCall_20 (by decide)) ?_
        exact g_rZ2 X zb0 dX12_isCall_21
      · refine g1 (pc' := 23) (w_aload_n X dX12_isCall_22 rfl 0 rfl) ?_
        refine g1 (pc' := 24) (w_aload_n X dX12_isCall_23 rfl 0 rfl) ?_
        refine g1 (pc' := 27) (gt_12_5 X hk0 mw_943 dX12_isCall_24) ?_
        refine g_lt (pc' := 30) (fun M4 => [(0, .ref (xb x + o0))]) (fun M4 => []) (fun M4 => M4) (pt_12_12 X Z hk0 mw_950 dX12_isCall_27) (fun M4 => ?_)
        show Gz x 1 30 [(0, .ref (xb x + o0))] [] KDF M4 _ _
        refine g1 (pc' := 31) (w_aload_n X dX12_isCall_30 rfl 0 rfl) ?_
        refine g_bd (pc' := 34) (fun r5 => [(0, .ref (xb x + o0))]) (fun r5 => [.int r5.1]) (fun r5 => r5.2) (fun r5 h => k_X12_isEnd X hR hN Z hk0 mw_1115 (by decide) (Nat.le_of_ble_eq_true rfl) dX12_isCall_31 h) (fun r5 => ?_)
        show Gz x 1 34 [(0, .ref (xb x + o0))] [.int r5.1] KDF r5.2 _ _
        refine g_gd (fun h6 => ?_)
        exact g_rZ2 X h6 dX12_isCall_34
    · refine g1 (pc' := 8) (w_aload_n X dX12_isCall_7 rfl 0 rfl) ?_
      refine g1 (pc' := 9) (w_iconst X (3) dX12_isCall_8 (by decide)) ?_
      refine g_bd (pc' := 12) (fun r7 => [(0, .ref (xb x + o0))]) (fun r7 => [.int r7.1]) (fun r7 => r7.2) (fun r7 h => k_X12_fails X hR hN Z hk0 mw_1085 (by decide) (Nat.le_of_ble_eq_true rfl) dX12_isCall_9 h) (fun r7 => ?_)
      show Gz x 1 12 [(0, .ref (xb x + o0))] [.int r7.1] KDF r7.2 _ _
      refine g_gd (fun h8 => ?_)
      exact g_rZ2 X h8 dX12_isCall_12
  exact G _ h _ rfl
theorem k_X12_isCall {x : Cxt} {cc : ByteArray} {nL : Nat} {own : String} {ret : Option FieldType} (X : Ok x cc nL own ret) {d : Nat} (hR : Rm x d KDF) (hN : Nst x) (Z : xz x = 0) {pc : Nat} {lv : List (Nat × Value)} {rest : List Value} {M : Mm} {o0 : Nat} (hk0 : KDF[o0]? = some (12, 0)) {idx : Nat} (hw : Cond.methodLink own idx yX12_isCall ∈ tbG) (hdd : 5 + 1 ≤ d) (hrm : (rest.map fun v => v.category).sum ≤ 8) (hd : decode cc pc = .ok (.invokevirtual idx, 3)) {r : Int32} {M' : Mm} (h : f_X12_isCall o0 M = some (r, M')) : StpZ x nL pc lv (.ref (xb x + o0) :: rest) KDF M (pc + 3) lv (.int r :: rest) KDF M' :=
  w_callV (st := []) (As := []) X hR hN (CtX0 Z (c_X12_isCall hk0 h)) ⟨Nat.le_refl _, Nat.le_refl _⟩ ⟨Nat.le_refl _, Nat.le_refl _⟩ hk0 (ci := 12) (fs := fs_12 o0) (fun _ _ _ => rfl) rfl hw mw_1121 mw_36 mw_75 mw_1122 (n := 0) (by decide +kernel) rfl hdd (by decide) hrm hd
def f_X12_isClause (o0 : Nat) (M : Mm) : Option (Int32 × Mm) :=
  (if (M o0 4) = (98 : Int32) then (if (M o0 9) ≤ 0 then Bd (f_X12_isHead o0 M) (fun r3 => Gd (zb r3.1) (some (r3.1, r3.2))) else Bd (f_X12_fails o0 (3 : Int32) M) (fun r5 => Gd (zb r5.1) (some (r5.1, r5.2)))) else (if (M o0 9) = 0 then Bd (f_X12_fails o0 (1 : Int32) M) (fun r8 => Gd (zb r8.1) (some (r8.1, r8.2))) else (if (M o0 4) = (109 : Int32) then Bd (f_X12_isMethod o0 M) (fun r11 => Gd (zb r11.1) (some (r11.1, r11.2))) else (if (M o0 4) = (114 : Int32) then Bd (f_X12_isSuitorItem o0 M) (fun r14 => Gd (zb r14.1) (some (r14.1, r14.2))) else (if (M o0 4) = (99 : Int32) then Bd (f_X12_isCall o0 M) (fun r17 => Gd (zb r17.1) (some (r17.1, r17.2))) else Bd (f_X12_fails o0 (1 : Int32) M) (fun r19 => Gd (zb r19.1) (some (r19.1, r19.2))))))))
set_option maxRecDepth 100000 in
set_option maxHeartbeats 4000000 in
theorem c_X12_isClause {l : Launch} {D : va_G} {an : An} {b : Nat} {o0 : Nat} (hk0 : KDF[o0]? = some (12, 0)) {M : Mm} {r : Int32} {M' : Mm} (h : f_X12_isClause o0 M = some (r, M')) : Ct l D an b 0 yX12_isClause cX12_isClause 1 (some .boolean) 6 [.ref (b + o0)] KDF M (some (.int r)) KDF M' := by
  refine CtX.mk (as := fun b => [.ref (b + o0)]) (rv := fun b => (some (.int r))) (by decide) (fun b => Nat.le_of_ble_eq_true rfl) ⟨Nat.le_refl _, Nat.le_refl _⟩ (fun x X hR Z hN _ _ => ?_)
  have X : Ok x cX12_isClause 1 RX12 (some .boolean) := X
  have G : Gz x 1 0 [(0, .ref (xb x + o0))] [] KDF M (f_X12_isClause o0 M) (PsI2 x KDF) := by
    unfold f_X12_isClause
    refine g1 (pc' := 1) (w_aload_n X dX12_isClause_0 rfl 0 rfl) ?_
    refine g1 (pc' := 4) (gt_12_4 X hk0 mw_942 dX12_isClause_1) ?_
    refine g1 (pc' := 6) (w_bipush X (98) dX12_isClause_4 (by decide)) ?_
    refine g_if (pcT := 9) (pcF := 29) (w_icmp_ne (tgt := 29) X dX12_isClause_6 (by decide)) (fun h1 => ?_) (fun h1 => ?_)
    · refine g1 (pc' := 10) (w_aload_n X dX12_isClause_9 rfl 0 rfl) ?_
      refine g1 (pc' := 13) (gt_12_9 X hk0 mw_947 dX12_isClause_10) ?_
      refine g_if (pcT := 24) (pcF := 16) (w_if_le (tgt := 24) X dX12_isClause_13 (by decide)) (fun h2 => ?_) (fun h2 => ?_)
      · refine g1 (pc' := 25) (w_aload_n X dX12_isClause_24 rfl 0 rfl) ?_
        refine g_bd (pc' := 28) (fun r3 => [(0, .ref (xb x + o0))]) (fun r3 => [.int r3.1]) (fun r3 => r3.2) (fun r3 h => k_X12_isHead X hR hN Z hk0 mw_1089 (by decide) (Nat.le_of_ble_eq_true rfl) dX12_isClause_25 h) (fun r3 => ?_)
        show Gz x 1 28 [(0, .ref (xb x + o0))] [.int r3.1] KDF r3.2 _ _
        refine g_gd (fun h4 => ?_)
        exact g_rZ2 X h4 dX12_isClause_28
      · refine g1 (pc' := 17) (w_aload_n X dX12_isClause_16 rfl 0 rfl) ?_
        refine g1 (pc' := 18) (w_iconst X (3) dX12_isClause_17 (by decide)) ?_
        refine g_bd (pc' := 21) (fun r5 => [(0, .ref (xb x + o0))]) (fun r5 => [.int r5.1]) (fun r5 => r5.2) (fun r5 h => k_X12_fails X hR hN Z hk0 mw_1085 (by decide) (Nat.le_of_ble_eq_true rfl) dX12_isClause_18 h) (fun r5 => ?_)
        show Gz x 1 21 [(0, .ref (xb x + o0))] [.int r5.1] KDF r5.2 _ _
        refine g1 (pc' := 28) (w_goto X dX12_isClause_21 (by decide)) ?_
        refine g_gd (fun h6 => ?_)
        exact g_rZ2 X h6 dX12_isClause_28
    · refine g1 (pc' := 30) (w_aload_n X dX12_isClause_29 rfl 0 rfl) ?_
      refine g1 (pc' := 33) (gt_12_9 X hk0 mw_947 dX12_isClause_30) ?_
      refine g_if (pcT := 36) (pcF := 42) (w_if_ne (tgt := 42) X dX12_isClause_33 (by decide)) (fun h7 => ?_) (fun h7 => ?_)
      · refine g1 (pc' := 37) (w_aload_n X dX12_isClause_36 rfl 0 rfl) ?_
        refine g1 (pc' := 38) (w_iconst X (1) dX12_isClause_37 (by decide)) ?_
        refine g_bd (pc' := 41) (fun r8 => [(0, .ref (xb x + o0))]) (fun r8 => [.int r8.1]) (fun r8 => r8.2) (fun r8 h => k_X12_fails X hR hN Z hk0 mw_1085 (by decide) (Nat.le_of_ble_eq_true rfl) dX12_isClause_38 h) (fun r8 => ?_)
        show Gz x 1 41 [(0, .ref (xb x + o0))] [.int r8.1] KDF r8.2 _ _
        refine g_gd (fun h9 => ?_)
        exact g_rZ2 X h9 dX12_isClause_41
      · refine g1 (pc' := 43) (w_aload_n X dX12_isClause_42 rfl 0 rfl) ?_
        refine g1 (pc' := 46) (gt_12_4 X hk0 mw_942 dX12_isClause_43) ?_
        refine g1 (pc' := 48) (w_bipush X (109) dX12_isClause_46 (by decide)) ?_
        refine g_if (pcT := 51) (pcF := 58) (w_icmp_ne (tgt := 58) X dX12_isClause_48 (by decide)) (fun h10 => ?_) (fun h10 => ?_)
        · refine g1 (pc' := 52) (w_aload_n X dX12_isClause_51 rfl 0 rfl) ?_
          refine g_bd (pc' := 55) (fun r11 => [(0, .ref (xb x + o0))]) (fun r11 => [.int r11.1]) (fun r11 => r11.2) (fun r11 h => k_X12_isMethod X hR hN Z hk0 mw_1097 (by decide) (Nat.le_of_ble_eq_true rfl) dX12_isClause_52 h) (fun r11 => ?_)
          show Gz x 1 55 [(0, .ref (xb x + o0))] [.int r11.1] KDF r11.2 _ _
          refine g1 (pc' := 95) (w_goto X dX12_isClause_55 (by decide)) ?_
          refine g_gd (fun h12 => ?_)
          exact g_rZ2 X h12 dX12_isClause_95
        · refine g1 (pc' := 59) (w_aload_n X dX12_isClause_58 rfl 0 rfl) ?_
          refine g1 (pc' := 62) (gt_12_4 X hk0 mw_942 dX12_isClause_59) ?_
          refine g1 (pc' := 64) (w_bipush X (114) dX12_isClause_62 (by decide)) ?_
          refine g_if (pcT := 67) (pcF := 74) (w_icmp_ne (tgt := 74) X dX12_isClause_64 (by decide)) (fun h13 => ?_) (fun h13 => ?_)
          · refine g1 (pc' := 68) (w_aload_n X dX12_isClause_67 rfl 0 rfl) ?_
            refine g_bd (pc' := 71) (fun r14 => [(0, .ref (xb x + o0))]) (fun r14 => [.int r14.1]) (fun r14 => r14.2) (fun r14 h => k_X12_isSuitorItem X hR hN Z hk0 mw_1111 (by decide) (Nat.le_of_ble_eq_true rfl) dX12_isClause_68 h) (fun r14 => ?_)
            show Gz x 1 71 [(0, .ref (xb x + o0))] [.int r14.1] KDF r14.2 _ _
            refine g1 (pc' := 95) (w_goto X dX12_isClause_71 (by decide)) ?_
            refine g_gd (fun h15 => ?_)
            exact g_rZ2 X h15 dX12_isClause_95
          · refine g1 (pc' := 75) (w_aload_n X dX12_isClause_74 rfl 0 rfl) ?_
            refine g1 (pc' := 78) (gt_12_4 X hk0 mw_942 dX12_isClause_75) ?_
            refine g1 (pc' := 80) (w_bipush X (99) dX12_isClause_78 (by decide)) ?_
            refine g_if (pcT := 83) (pcF := 90) (w_icmp_ne (tgt := 90) X dX12_isClause_80 (by decide)) (fun h16 => ?_) (fun h16 => ?_)
            · refine g1 (pc' := 84) (w_aload_n X dX12_isClause_83 rfl 0 rfl) ?_
              refine g_bd (pc' := 87) (fun r17 => [(0, .ref (xb x + o0))]) (fun r17 => [.int r17.1]) (fun r17 => r17.2) (fun r17 h => k_X12_isCall X hR hN Z hk0 mw_1119 (by decide) (Nat.le_of_ble_eq_true rfl) dX12_isClause_84 h) (fun r17 => ?_)
              show Gz x 1 87 [(0, .ref (xb x + o0))] [.int r17.1] KDF r17.2 _ _
              refine g1 (pc' := 95) (w_goto X dX12_isClause_87 (by decide)) ?_
              refine g_gd (fun h18 => ?_)
              exact g_rZ2 X h18 dX12_isClause_95
            · refine g1 (pc' := 91) (w_aload_n X dX12_isClause_90 rfl 0 rfl) ?_
              refine g1 (pc' := 92) (w_iconst X (1) dX12_isClause_91 (by decide)) ?_
              refine g_bd (pc' := 95) (fun r19 => [(0, .ref (xb x + o0))]) (fun r19 => [.int r19.1]) (fun r19 => r19.2) (fun r19 h => k_X12_fails X hR hN Z hk0 mw_1085 (by decide) (Nat.le_of_ble_eq_true rfl) dX12_isClause_92 h) (fun r19 => ?_)
              show Gz x 1 95 [(0, .ref (xb x + o0))] [.int r19.1] KDF r19.2 _ _
              refine g_gd (fun h20 => ?_)
              exact g_rZ2 X h20 dX12_isClause_95
  exact G _ h _ rfl
theorem k_X12_isClause {x : Cxt} {cc : ByteArray} {nL : Nat} {own : String} {ret : Option FieldType} (X : Ok x cc nL own ret) {d : Nat} (hR : Rm x d KDF) (hN : Nst x) (Z : xz x = 0) {pc : Nat} {lv : List (Nat × Value)} {rest : List Value} {M : Mm} {o0 : Nat} (hk0 : KDF[o0]? = some (12, 0)) {idx : Nat} (hw : Cond.methodLink own idx yX12_isClause ∈ tbG) (hdd : 6 + 1 ≤ d) (hrm : (rest.map fun v => v.category).sum ≤ 8) (hd : decode cc pc = .ok (.invokevirtual idx, 3)) {r : Int32} {M' : Mm} (h : f_X12_isClause o0 M = some (r, M')) : StpZ x nL pc lv (.ref (xb x + o0) :: rest) KDF M (pc + 3) lv (.int r :: rest) KDF M' :=
  w_callV (st := []) (As := []) X hR hN (CtX0 Z (c_X12_isClause hk0 h)) ⟨Nat.le_refl _, Nat.le_refl _⟩ ⟨Nat.le_refl _, Nat.le_refl _⟩ hk0 (ci := 12) (fs := fs_12 o0) (fun _ _ _ => rfl) rfl hw mw_1083 mw_28 mw_75 mw_1084 (n := 0) (by decide +kernel) rfl hdd (by decide) hrm hd
def b_X12_isRead_29  (s29 : Mm) : Option ((Mm) ⊕ (Mm)) :=
  some (.inl s29)
def f_X12_isRead (o0 : Nat) (M : Mm) : Option (Int32 × Mm) :=
  Lt (st2 M o0 2 (0 : Int32)) (fun M1 => Lt (st2 M1 o0 9 (0 : Int32)) (fun M2 => Lt (st2 M2 o0 10 (0 : Int32)) (fun M3 => Lt (st2 M3 o0 11 (0 : Int32)) (fun M4 => Lt (st2 M4 o0 12 (-1 : Int32)) (fun M5 => Bd (f_X12_nextToken o0 M5) (fun r6 => Bd (Lp (b_X12_isRead_29) 100000 r6) (fun e7 => some ((1 : Int32), e7))))))))
set_option maxRecDepth 100000 in
set_option maxHeartbeats 4000000 in
theorem c_X12_isRead {l : Launch} {D : va_G} {an : An} {b : Nat} {o0 : Nat} (hk0 : KDF[o0]? = some (12, 0)) {M : Mm} {r : Int32} {M' : Mm} (h : f_X12_isRead o0 M = some (r, M')) : Ct l D an b 0 yX12_isRead cX12_isRead 1 (some .boolean) 7 [.ref (b + o0)] KDF M (some (.int r)) KDF M' := by
  refine CtX.mk (as := fun b => [.ref (b + o0)]) (rv := fun b => (some (.int r))) (by decide) (fun b => Nat.le_of_ble_eq_true rfl) ⟨Nat.le_refl _, Nat.le_refl _⟩ (fun x X hR Z hN _ _ => ?_)
  have X : Ok x cX12_isRead 1 RX12 (some .boolean) := X
  have G : Gz x 1 0 [(0, .ref (xb x + o0))] [] KDF M (f_X12_isRead o0 M) (PsI2 x KDF) := by
    unfold f_X12_isRead
    refine g1 (pc' := 1) (w_aload_n X dX12_isRead_0 rfl 0 rfl) ?_
    refine g1 (pc' := 2) (w_iconst X (0) dX12_isRead_1 (by decide)) ?_
    refine g_lt (pc' := 5) (fun M1 => [(0, .ref (xb x + o0))]) (fun M1 => []) (fun M1 => M1) (pt_12_2 X Z hk0 mw_940 dX12_isRead_2) (fun M1 => ?_)
    show Gz x 1 5 [(0, .ref (xb x + o0))] [] KDF M1 _ _
    refine g1 (pc' := 6) (w_aload_n X dX12_isRead_5 rfl 0 rfl) ?_
    refine g1 (pc' := 7) (w_iconst X (0) dX12_isRead_6 (by decide)) ?_
    refine g_lt (pc' := 10) (fun M2 => [(0, .ref (xb x + o0))]) (fun M2 => []) (fun M2 => M2) (pt_12_9 X Z hk0 mw_947 dX12_isRead_7) (fun M2 => ?_)
    show Gz x 1 10 [(0, .ref (xb x + o0))] [] KDF M2 _ _
    refine g1 (pc' := 11) (w_aload_n X dX12_isRead_10 rfl 0 rfl) ?_
    refine g1 (pc' := 12) (w_iconst X (0) dX12_isRead_11 (by decide)) ?_
    refine g_lt (pc' := 15) (fun M3 => [(0, .ref (xb x + o0))]) (fun M3 => []) (fun M3 => M3) (pt_12_10 X Z hk0 mw_948 dX12_isRead_12) (fun M3 => ?_)
    show Gz x 1 15 [(0, .ref (xb x + o0))] [] KDF M3 _ _
    refine g1 (pc' := 16) (w_aload_n X dX12_isRead_15 rfl 0 rfl) ?_
    refine g1 (pc' := 17) (w_iconst X (0) dX12_isRead_16 (by decide)) ?_
    refine g_lt (pc' := 20) (fun M4 => [(0, .ref (xb x + o0))]) (fun M4 => []) (fun M4 => M4) (pt_12_11 X Z hk0 mw_949 dX12_isRead_17) (fun M4 => ?_)
    show Gz x 1 20 [(0, .ref (xb x + o0))] [] KDF M4 _ _
    refine g1 (pc' := 21) (w_aload_n X dX12_isRead_20 rfl 0 rfl) ?_
    refine g1 (pc' := 22) (w_iconst X (-1) dX12_isRead_21 (by decide)) ?_
    refine g_lt (pc' := 25) (fun M5 => [(0, .ref (xb x + o0))]) (fun M5 => []) (fun M5 => M5) (pt_12_12 X Z hk0 mw_950 dX12_isRead_22) (fun M5 => ?_)
    show Gz x 1 25 [(0, .ref (xb x + o0))] [] KDF M5 _ _
    refine g1 (pc' := 26) (w_aload_n X dX12_isRead_25 rfl 0 rfl) ?_
    refine g_bd (pc' := 29) (fun r6 => [(0, .ref (xb x + o0))]) (fun r6 => []) (fun r6 => r6) (fun r6 h => k_X12_nextToken X hR hN Z hk0 mw_1077 (by decide) (Nat.le_of_ble_eq_true rfl) dX12_isRead_26 h) (fun r6 => ?_)
    show Gz x 1 29 [(0, .ref (xb x + o0))] [] KDF r6 _ _
    refine g_pick (lv' := [(0, .ref (xb x + o0))]) [0] rfl ?_
    refine g_bdJ (J := 54) (fun e7 => []) (fun e7 => []) (fun e7 => e7) (g_lp (fun s29 => [(0, .ref (xb x + o0))]) (fun s29 => s29) (fun s29 => ?_) 100000 r6) (fun e7 => ?_)
    · show Gz x 1 29 [(0, .ref (xb x + o0))] [] KDF s29 (b_X12_isRead_29 s29) _
      unfold b_X12_isRead_29
      refine g_inl ?_
      exact g_end [0] rfl rfl rfl
    · show Gz x 1 54 [] [] KDF e7 _ _
      refine g1 (pc' := 55) (w_iconst X (1) dX12_isRead_54 (by decide)) ?_
      exact g_rZ2 X zb1 dX12_isRead_55
  exact G _ h _ rfl
theorem k_X12_isRead {x : Cxt} {cc : ByteArray} {nL : Nat} {own : String} {ret : Option FieldType} (X : Ok x cc nL own ret) {d : Nat} (hR : Rm x d KDF) (hN : Nst x) (Z : xz x = 0) {pc : Nat} {lv : List (Nat × Value)} {rest : List Value} {M : Mm} {o0 : Nat} (hk0 : KDF[o0]? = some (12, 0)) {idx : Nat} (hw : Cond.methodLink own idx yX12_isRead ∈ tbG) (hdd : 7 + 1 ≤ d) (hrm : (rest.map fun v => v.category).sum ≤ 8) (hd : decode cc pc = .ok (.invokevirtual idx, 3)) {r : Int32} {M' : Mm} (h : f_X12_isRead o0 M = some (r, M')) : StpZ x nL pc lv (.ref (xb x + o0) :: rest) KDF M (pc + 3) lv (.int r :: rest) KDF M' :=
  w_callV (st := []) (As := []) X hR hN (CtX0 Z (c_X12_isRead hk0 h)) ⟨Nat.le_refl _, Nat.le_refl _⟩ ⟨Nat.le_refl _, Nat.le_refl _⟩ hk0 (ci := 12) (fs := fs_12 o0) (fun _ _ _ => rfl) rfl hw mw_1075 mw_26 mw_75 mw_1076 (n := 0) (by decide +kernel) rfl hdd (by decide) hrm hd
def b_X12_bring_3  (s3 : Int32 × Mm) : Option ((Int32 × Mm) ⊕ (Mm)) :=
  some (.inl (s3.1, s3.2))
def f_X12_bring (o0 : Nat) (x1 : Int32) (o2 : Nat) (x3 : Int32) (x4 : Int32) (M : Mm) : Option (Mm) :=
  Bd (Lp (b_X12_bring_3) 100000 ((0 : Int32), M)) (fun e1 => some e1)
set_option maxRecDepth 100000 in
set_option maxHeartbeats 4000000 in
theorem c_X12_bring {l : Launch} {D : va_G} {an : An} {b : Nat} {o0 : Nat} {x1 : Int32} {o2 : Nat} {x3 : Int32} {x4 : Int32} (hk0 : KDF[o0]? = some (13, kln o0)) (hk2 : KDF[o2]? = some (13, kln o2)) {M : Mm} {M' : Mm} (h : f_X12_bring o0 x1 o2 x3 x4 M = some M') : Ct l D an b 0 yX12_bring cX12_bring 6 none 1 [.ref (b + o0), .int x1, .ref (b + o2), .int x3, .int x4] KDF M none KDF M' := by
  refine CtX.mk (as := fun b => [.ref (b + o0), .int x1, .ref (b + o2), .int x3, .int x4]) (rv := fun b => none) (by decide) (fun b => Nat.le_of_ble_eq_true rfl) ⟨Nat.le_refl _, Nat.le_refl _⟩ (fun x X hR Z hN _ _ => ?_)
  have X : Ok x cX12_bring 6 RX12 none := X
  have G : Gz x 6 0 [(0, .ref (xb x + o0)), (1, .int x1), (2, .ref (xb x + o2)), (3, .int x3), (4, .int x4)] [] KDF M (f_X12_bring o0 x1 o2 x3 x4 M) (PsM x KDF) := by
    unfold f_X12_bring
    refine g1 (pc' := 1) (w_iconst X (0) dX12_bring_0 (by decide)) ?_
    refine g1 (pc' := 3) (lv' := [(5, .int (0 : Int32)), (0, .ref (xb x + o0)), (1, .int x1), (2, .ref (xb x + o2)), (3, .int x3), (4, .int x4)]) (w_istore X dX12_bring_1 (by decide) rfl) ?_
    refine g_pick (lv' := [(0, .ref (xb x + o0)), (1, .int x1), (2, .ref (xb x + o2)), (3, .int x3), (4, .int x4), (5, .int (0 : Int32))]) [1, 2, 3, 4, 5, 0] rfl ?_
    refine g_bdJ (J := 28) (fun e1 => []) (fun e1 => []) (fun e1 => e1) (g_lp (fun s3 => [(0, .ref (xb x + o0)), (1, .int x1), (2, .ref (xb x + o2)), (3, .int x3), (4, .int x4), (5, .int s3.1)]) (fun s3 => s3.2) (fun s3 => ?_) 100000 ((0 : Int32), M)) (fun e1 => ?_)
    · show Gz x 6 3 [(0, .ref (xb x + o0)), (1, .int x1), (2, .ref (xb x + o2)), (3, .int x3), (4, .int x4), (5, .int s3.1)] [] KDF s3.2 (b_X12_bring_3 s3) _
      unfold b_X12_bring_3
      refine g_inl ?_
      exact g_end [0, 1, 2, 3, 4, 5] rfl rfl rfl
    · show Gz x 6 28 [] [] KDF e1 _ _
      exact g_rM X dX12_bring_28
  exact G _ h _ rfl
theorem k_X12_bring {x : Cxt} {cc : ByteArray} {nL : Nat} {own : String} {ret : Option FieldType} (X : Ok x cc nL own ret) {d : Nat} (hR : Rm x d KDF) (hN : Nst x) (Z : xz x = 0) {pc : Nat} {lv : List (Nat × Value)} {rest : List Value} {M : Mm} {o0 : Nat} {x1 : Int32} {o2 : Nat} {x3 : Int32} {x4 : Int32} (hk0 : KDF[o0]? = some (13, kln o0)) (hk2 : KDF[o2]? = some (13, kln o2)) {idx : Nat} (hw : Cond.methodLink own idx yX12_bring ∈ tbG) (hdd : 1 + 1 ≤ d) (hrm : (rest.map fun v => v.category).sum ≤ 8) (hd : decode cc pc = .ok (.invokestatic idx, 3)) {M' : Mm} (h : f_X12_bring o0 x1 o2 x3 x4 M = some M') : StpZ x nL pc lv (.int x4 :: .int x3 :: .ref (xb x + o2) :: .int x1 :: .ref (xb x + o0) :: rest) KDF M (pc + 3) lv (rest) KDF M' :=
  w_callS (st := []) (As := [.ref (xb x + o0), .int x1, .ref (xb x + o2), .int x3, .int x4]) X hR hN (CtX0 Z (c_X12_bring hk0 hk2 h)) ⟨Nat.le_refl _, Nat.le_refl _⟩ ⟨Nat.le_refl _, Nat.le_refl _⟩ hw mw_1124 mw_75 mw_1125 (n := 5) (by decide +kernel) rfl hdd (by decide) hrm hd
def b_X12_toRounds_2  (s2 : Int32 × Mm) : Option ((Int32 × Mm) ⊕ (Mm)) :=
  some (.inl (s2.1, s2.2))
def f_X12_toRounds (o0 : Nat) (M : Mm) : Option (Mm) :=
  Bd (Lp (b_X12_toRounds_2) 100000 ((0 : Int32), M)) (fun e1 => Gd (ib (1 : Int32) (kln o0)) (Lt (st2 e1 o0 (ix (1 : Int32)) (0 : Int32)) (fun M3 => Gd (ib (2 : Int32) (kln o0)) (Lt (st2 M3 o0 (ix (2 : Int32)) (0 : Int32)) (fun M5 => some M5)))))
set_option maxRecDepth 100000 in
set_option maxHeartbeats 4000000 in
theorem c_X12_toRounds {l : Launch} {D : va_G} {an : An} {b : Nat} {o0 : Nat} (hk0 : KDF[o0]? = some (13, kln o0)) {M : Mm} {M' : Mm} (h : f_X12_toRounds o0 M = some M') : Ct l D an b 0 yX12_toRounds cX12_toRounds 2 none 1 [.ref (b + o0)] KDF M none KDF M' := by
  refine CtX.mk (as := fun b => [.ref (b + o0)]) (rv := fun b => none) (by decide) (fun b => Nat.le_of_ble_eq_true rfl) ⟨Nat.le_refl _, Nat.le_refl _⟩ (fun x X hR Z hN _ _ => ?_)
  have X : Ok x cX12_toRounds 2 RX12 none := X
  have G : Gz x 2 0 [(0, .ref (xb x + o0))] [] KDF M (f_X12_toRounds o0 M) (PsM x KDF) := by
    unfold f_X12_toRounds
    refine g1 (pc' := 1) (w_iconst X (0) dX12_toRounds_0 (by decide)) ?_
    refine g1 (pc' := 2) (lv' := [(1, .int (0 : Int32)), (0, .ref (xb x + o0))]) (w_istore_n X dX12_toRounds_1 rfl (by decide) rfl) ?_
    refine g_pick (lv' := [(0, .ref (xb x + o0)), (1, .int (0 : Int32))]) [1, 0] rfl ?_
    refine g_bdJ (J := 20) (fun e1 => [(0, .ref (xb x + o0))]) (fun e1 => []) (fun e1 => e1) (g_lp (fun s2 => [(0, .ref (xb x + o0)), (1, .int s2.1)]) (fun s2 => s2.2) (fun s2 => ?_) 100000 ((0 : Int32), M)) (fun e1 => ?_)
    · show Gz x 2 2 [(0, .ref (xb x + o0)), (1, .int s2.1)] [] KDF s2.2 (b_X12_toRounds_2 s2) _
      unfold b_X12_toRounds_2
      refine g_inl ?_
      exact g_end [0, 1] rfl rfl rfl
    · show Gz x 2 20 [(0, .ref (xb x + o0))] [] KDF e1 _ _
      refine g1 (pc' := 21) (w_aload_n X dX12_toRounds_20 rfl 0 rfl) ?_
      refine g1 (pc' := 22) (w_iconst X (1) dX12_toRounds_21 (by decide)) ?_
      refine g1 (pc' := 23) (w_iconst X (0) dX12_toRounds_22 (by decide)) ?_
      refine g_gd (fun h2 => ?_)
      refine g_lt (pc' := 24) (fun M3 => [(0, .ref (xb x + o0))]) (fun M3 => []) (fun M3 => M3) (w_iast X Z hk0 h2 dX12_toRounds_23) (fun M3 => ?_)
      show Gz x 2 24 [(0, .ref (xb x + o0))] [] KDF M3 _ _
      refine g1 (pc' := 25) (w_aload_n X dX12_toRounds_24 rfl 0 rfl) ?_
      refine g1 (pc' := 26) (w_iconst X (2) dX12_toRounds_25 (by decide)) ?_
      refine g1 (pc' := 27) (w_iconst X (0) dX12_toRounds_26 (by decide)) ?_
      refine g_gd (fun h4 => ?_)
      refine g_lt (pc' := 28) (fun M5 => [(0, .ref (xb x + o0))]) (fun M5 => []) (fun M5 => M5) (w_iast X Z hk0 h4 dX12_toRounds_27) (fun M5 => ?_)
      show Gz x 2 28 [(0, .ref (xb x + o0))] [] KDF M5 _ _
      exact g_rM X dX12_toRounds_28
  exact G _ h _ rfl
theorem k_X12_toRounds {x : Cxt} {cc : ByteArray} {nL : Nat} {own : String} {ret : Option FieldType} (X : Ok x cc nL own ret) {d : Nat} (hR : Rm x d KDF) (hN : Nst x) (Z : xz x = 0) {pc : Nat} {lv : List (Nat × Value)} {rest : List Value} {M : Mm} {o0 : Nat} (hk0 : KDF[o0]? = some (13, kln o0)) {idx : Nat} (hw : Cond.methodLink own idx yX12_toRounds ∈ tbG) (hdd : 1 + 1 ≤ d) (hrm : (rest.map fun v => v.category).sum ≤ 8) (hd : decode cc pc = .ok (.invokestatic idx, 3)) {M' : Mm} (h : f_X12_toRounds o0 M = some M') : StpZ x nL pc lv (.ref (xb x + o0) :: rest) KDF M (pc + 3) lv (rest) KDF M' :=
  w_callS (st := []) (As := [.ref (xb x + o0)]) X hR hN (CtX0 Z (c_X12_toRounds hk0 h)) ⟨Nat.le_refl _, Nat.le_refl _⟩ ⟨Nat.le_refl _, Nat.le_refl _⟩ hw mw_1127 mw_75 mw_1128 (n := 1) (by decide +kernel) rfl hdd (by decide) hrm hd
def b_X12_tower_171  (s171 : Int32 × Mm) : Option ((Int32 × Mm) ⊕ (Mm)) :=
  some (.inl (s171.1, s171.2))
def b_X12_tower_199  (s199 : Int32 × Mm) : Option ((Int32 × Mm) ⊕ (Mm)) :=
  some (.inl (s199.1, s199.2))
def f_X12_tower (o0 : Nat) (M : Mm) : Option (Int32 × Mm) :=
  Bd (f_X12_isRead o0 M) (fun r1 => Lt (st2 r1.2 o0 0 (0 : Int32)) (fun M2 => (if r1.1 = 0 then some (((-10 : Int32) - (M2 o0 8)), M2) else Lt (st2 M2 o0 7 (-1 : Int32)) (fun M4 => Lt (st2 M4 o0 16 (M4 o0 9)) (fun M5 => Lt (st2 M5 o0 18 (M5 o0 11)) (fun M6 => Bd (f_X12_bring 131 (0 : Int32) 134 (0 : Int32) (6 : Int32) M6) (fun r7 => Bd (f_X12_bring 132 (0 : Int32) 135 (0 : Int32) (12 : Int32) r7) (fun r8 => Bd (f_X12_bring 133 (0 : Int32) 136 (0 : Int32) (6 : Int32) r8) (fun r9 => Lt ((sl (1 : Int32) (r9 o0 16)) - (1 : Int32)) (fun v10 => Lt (((if (r9 o0 10) ≤ 0 then (if (r9 o0 16) ≤ 0 then (0 : Int32) else (1 : Int32)) else (r9 o0 10))) : Int32) (fun j11 => Lt (st2 r9 o0 17 j11) (fun M14 => Lt (((if (M14 o0 10) ≤ 0 then v10 else (M14 135 (ix (0 : Int32))))) : Int32) (fun j15 => Lt (st2 M14 135 (ix (0 : Int32)) j15) (fun M17 => Lt (((if (M17 o0 12) < 0 then v10 else (M17 o0 12))) : Int32) (fun j18 => Lt (st2 M17 o0 19 j18) (fun M20 => Bd (Lp (b_X12_tower_171) 100000 ((0 : Int32), M20)) (fun e21 => Bd (f_X12_toRounds 137 e21) (fun r22 => Bd (Lp (b_X12_tower_199) 100000 ((0 : Int32), r22)) (fun e23 => Lt (st2 e23 o0 31 (0 : Int32)) (fun M24 => Lt (st2 M24 o0 33 (0 : Int32)) (fun M25 => Lt (st2 M25 142 (ix (0 : Int32)) (vp_nar .boolean (0 : Int32))) (fun M26 => Lt (st2 M26 142 (ix (1 : Int32)) (vp_nar .boolean (0 : Int32))) (fun M27 => Lt (st2 M27 o0 26 (0 : Int32)) (fun M28 => some ((M28 o0 16), M28)))))))))))))))))))))))))
set_option maxRecDepth 100000 in
set_option maxHeartbeats 4000000 in
theorem c_X12_tower {l : Launch} {D : va_G} {an : An} {b : Nat} {o0 : Nat} (hk0 : KDF[o0]? = some (12, 0)) {M : Mm} {r : Int32} {M' : Mm} (h : f_X12_tower o0 M = some (r, M')) : Ct l D an b 0 yX12_tower cX12_tower 4 (some .int) 8 [.ref (b + o0)] KDF M (some (.int r)) KDF M' := by
  refine CtX.mk (as := fun b => [.ref (b + o0)]) (rv := fun b => (some (.int r))) (by decide) (fun b => Nat.le_of_ble_eq_true rfl) ⟨Nat.le_refl _, Nat.le_refl _⟩ (fun x X hR Z hN _ _ => ?_)
  have X : Ok x cX12_tower 4 RX12 (some .int) := X
  have G : Gz x 4 0 [(0, .ref (xb x + o0))] [] KDF M (f_X12_tower o0 M) (PsI2 x KDF) := by
    unfold f_X12_tower
    refine g1 (pc' := 1) (w_aload_n X dX12_tower_0 rfl 0 rfl) ?_
    refine g_bd (pc' := 4) (fun r1 => [(0, .ref (xb x + o0))]) (fun r1 => [.int r1.1]) (fun r1 => r1.2) (fun r1 h => k_X12_isRead X hR hN Z hk0 mw_1073 (by decide) (Nat.le_of_ble_eq_true rfl) dX12_tower_1 h) (fun r1 => ?_)
    show Gz x 4 4 [(0, .ref (xb x + o0))] [.int r1.1] KDF r1.2 _ _
    refine g1 (pc' := 5) (lv' := [(1, .int r1.1), (0, .ref (xb x + o0))]) (w_istore_n X dX12_tower_4 rfl (by decide) rfl) ?_
    refine g1 (pc' := 6) (w_aload_n X dX12_tower_5 rfl 1 rfl) ?_
    refine g1 (pc' := 7) (w_iconst X (0) dX12_tower_6 (by decide)) ?_
    refine g_lt (pc' := 10) (fun M2 => [(1, .int r1.1), (0, .ref (xb x + o0))]) (fun M2 => []) (fun M2 => M2) (pt_12_0 X Z hk0 mw_938 dX12_tower_7) (fun M2 => ?_)
    show Gz x 4 10 [(1, .int r1.1), (0, .ref (xb x + o0))] [] KDF M2 _ _
    refine g1 (pc' := 11) (w_iload_n X dX12_tower_10 rfl 0 rfl) ?_
    refine g_if (pcT := 14) (pcF := 22) (w_if_ne (tgt := 22) X dX12_tower_11 (by decide)) (fun h3 => ?_) (fun h3 => ?_)
    · refine g1 (pc' := 16) (w_bipush X (-10) dX12_tower_14 (by decide)) ?_
      refine g1 (pc' := 17) (w_aload_n X dX12_tower_16 rfl 1 rfl) ?_
      refine g1 (pc' := 20) (gt_12_8 X hk0 mw_946 dX12_tower_17) ?_
      refine g1 (pc' := 21) (w_isub X dX12_tower_20) ?_
      exact g_rI2 X dX12_tower_21
    · refine g1 (pc' := 23) (w_aload_n X dX12_tower_22 rfl 1 rfl) ?_
      refine g1 (pc' := 24) (w_iconst X (-1) dX12_tower_23 (by decide)) ?_
      refine g_lt (pc' := 27) (fun M4 => [(1, .int r1.1), (0, .ref (xb x + o0))]) (fun M4 => []) (fun M4 => M4) (pt_12_7 X Z hk0 mw_945 dX12_tower_24) (fun M4 => ?_)
      show Gz x 4 27 [(1, .int r1.1), (0, .ref (xb x + o0))] [] KDF M4 _ _
      refine g1 (pc' := 28) (w_aload_n X dX12_tower_27 rfl 1 rfl) ?_
      refine g1 (pc' := 29) (w_aload_n X dX12_tower_28 rfl 1 rfl) ?_
      refine g1 (pc' := 32) (gt_12_9 X hk0 mw_947 dX12_tower_29) ?_
      refine g_lt (pc' := 35) (fun M5 => [(1, .int r1.1), (0, .ref (xb x + o0))]) (fun M5 => []) (fun M5 => M5) (pt_12_16 X Z hk0 mw_954 dX12_tower_32) (fun M5 => ?_)
      show Gz x 4 35 [(1, .int r1.1), (0, .ref (xb x + o0))] [] KDF M5 _ _
      refine g1 (pc' := 36) (w_aload_n X dX12_tower_35 rfl 1 rfl) ?_
      refine g1 (pc' := 37) (w_aload_n X dX12_tower_36 rfl 1 rfl) ?_
      refine g1 (pc' := 40) (gt_12_11 X hk0 mw_949 dX12_tower_37) ?_
      refine g_lt (pc' := 43) (fun M6 => [(1, .int r1.1), (0, .ref (xb x + o0))]) (fun M6 => []) (fun M6 => M6) (pt_12_18 X Z hk0 mw_956 dX12_tower_40) (fun M6 => ?_)
      show Gz x 4 43 [(1, .int r1.1), (0, .ref (xb x + o0))] [] KDF M6 _ _
      refine g1 (pc' := 44) (w_aload_n X dX12_tower_43 rfl 1 rfl) ?_
      refine g1 (pc' := 47) (gt_12_13 X hk0 mw_951 dX12_tower_44) ?_
      refine g1 (pc' := 48) (w_iconst X (0) dX12_tower_47 (by decide)) ?_
      refine g1 (pc' := 49) (w_aload_n X dX12_tower_48 rfl 1 rfl) ?_
      refine g1 (pc' := 52) (gt_12_20 X hk0 mw_958 dX12_tower_49) ?_
      refine g1 (pc' := 53) (w_iconst X (0) dX12_tower_52 (by decide)) ?_
      refine g1 (pc' := 55) (w_bipush X (6) dX12_tower_53 (by decide)) ?_
      refine g_bd (pc' := 58) (fun r7 => [(1, .int r1.1), (0, .ref (xb x + o0))]) (fun r7 => []) (fun r7 => r7) (fun r7 h => k_X12_bring X hR hN Z (kln_of kd_131) (kln_of kd_134) mw_1123 (by decide) (Nat.le_of_ble_eq_true rfl) dX12_tower_55 h) (fun r7 => ?_)
      show Gz x 4 58 [(1, .int r1.1), (0, .ref (xb x + o0))] [] KDF r7 _ _
      refine g1 (pc' := 59) (w_aload_n X dX12_tower_58 rfl 1 rfl) ?_
      refine g1 (pc' := 62) (gt_12_14 X hk0 mw_952 dX12_tower_59) ?_
      refine g1 (pc' := 63) (w_iconst X (0) dX12_tower_62 (by decide)) ?_
      refine g1 (pc' := 64) (w_aload_n X dX12_tower_63 rfl 1 rfl) ?_
      refine g1 (pc' := 67) (gt_12_21 X hk0 mw_959 dX12_tower_64) ?_
      refine g1 (pc' := 68) (w_iconst X (0) dX12_tower_67 (by decide)) ?_
      refine g1 (pc' := 70) (w_bipush X (12) dX12_tower_68 (by decide)) ?_
      refine g_bd (pc' := 73) (fun r8 => [(1, .int r1.1), (0, .ref (xb x + o0))]) (fun r8 => []) (fun r8 => r8) (fun r8 h => k_X12_bring X hR hN Z (kln_of kd_132) (kln_of kd_135) mw_1123 (by decide) (Nat.le_of_ble_eq_true rfl) dX12_tower_70 h) (fun r8 => ?_)
      show Gz x 4 73 [(1, .int r1.1), (0, .ref (xb x + o0))] [] KDF r8 _ _
      refine g1 (pc' := 74) (w_aload_n X dX12_tower_73 rfl 1 rfl) ?_
      refine g1 (pc' := 77) (gt_12_15 X hk0 mw_953 dX12_tower_74) ?_
      refine g1 (pc' := 78) (w_iconst X (0) dX12_tower_77 (by decide)) ?_
      refine g1 (pc' := 79) (w_aload_n X dX12_tower_78 rfl 1 rfl) ?_
      refine g1 (pc' := 82) (gt_12_22 X hk0 mw_960 dX12_tower_79) ?_
      refine g1 (pc' := 83) (w_iconst X (0) dX12_tower_82 (by decide)) ?_
      refine g1 (pc' := 85) (w_bipush X (6) dX12_tower_83 (by decide)) ?_
      refine g_bd (pc' := 88) (fun r9 => [(1, .int r1.1), (0, .ref (xb x + o0))]) (fun r9 => []) (fun r9 => r9) (fun r9 h => k_X12_bring X hR hN Z (kln_of kd_133) (kln_of kd_136) mw_1123 (by decide) (Nat.le_of_ble_eq_true rfl) dX12_tower_85 h) (fun r9 => ?_)
      show Gz x 4 88 [(1, .int r1.1), (0, .ref (xb x + o0))] [] KDF r9 _ _
      refine g1 (pc' := 89) (w_iconst X (1) dX12_tower_88 (by decide)) ?_
      refine g1 (pc' := 90) (w_aload_n X dX12_tower_89 rfl 1 rfl) ?_
      refine g1 (pc' := 93) (gt_12_16 X hk0 mw_954 dX12_tower_90) ?_
      refine g1 (pc' := 94) (w_ishl X dX12_tower_93) ?_
      refine g1 (pc' := 95) (w_iconst X (1) dX12_tower_94 (by decide)) ?_
      refine g1 (pc' := 96) (w_isub X dX12_tower_95) ?_
      refine g_lt (pc' := 97) (fun v10 => [(2, .int v10), (1, .int r1.1), (0, .ref (xb x + o0))]) (fun v10 => []) (fun v10 => r9) (w_istore_n X dX12_tower_96 rfl (by decide) rfl) (fun v10 => ?_)
      show Gz x 4 97 [(2, .int v10), (1, .int r1.1), (0, .ref (xb x + o0))] [] KDF r9 _ _
      refine g1 (pc' := 98) (w_aload_n X dX12_tower_97 rfl 2 rfl) ?_
      refine g1 (pc' := 99) (w_aload_n X dX12_tower_98 rfl 2 rfl) ?_
      refine g1 (pc' := 102) (gt_12_10 X hk0 mw_948 dX12_tower_99) ?_
      refine g_ltJ (J := 124) (fun j11 => [(0, .ref (xb x + o0)), (2, .int v10)]) (fun j11 => [.int j11, .ref (xb x + o0)]) (fun j11 => r9) ?_ (fun j11 => ?_)
      · refine g_ifS (pcT := 112) (pcF := 105) (w_if_le (tgt := 112) X dX12_tower_102 (by decide)) (fun h12 => ?_) (fun h12 => ?_)
        · refine g1 (pc' := 113) (w_aload_n X dX12_tower_112 rfl 2 rfl) ?_
          refine g1 (pc' := 116) (gt_12_16 X hk0 mw_954 dX12_tower_113) ?_
          refine g_ifS (pcT := 123) (pcF := 119) (w_if_le (tgt := 123) X dX12_tower_116 (by decide)) (fun h13 => ?_) (fun h13 => ?_)
          · refine g1 (pc' := 124) (w_iconst X (0) dX12_tower_123 (by decide)) ?_
            exact g_end [2, 0] rfl rfl rfl
          · refine g1 (pc' := 120) (w_iconst X (1) dX12_tower_119 (by decide)) ?_
            refine g1 (pc' := 124) (w_goto X dX12_tower_120 (by decide)) ?_
            exact g_end [2, 0] rfl rfl rfl
        · refine g1 (pc' := 106) (w_aload_n X dX12_tower_105 rfl 2 rfl) ?_
          refine g1 (pc' := 109) (gt_12_10 X hk0 mw_948 dX12_tower_106) ?_
          refine g1 (pc' := 124) (w_goto X dX12_tower_109 (by decide)) ?_
          exact g_end [2, 0] rfl rfl rfl
      · show Gz x 4 124 [(0, .ref (xb x + o0)), (2, .int v10)] [.int j11, .ref (xb x + o0)] KDF r9 _ _
        refine g_lt (pc' := 127) (fun M14 => [(0, .ref (xb x + o0)), (2, .int v10)]) (fun M14 => []) (fun M14 => M14) (pt_12_17 X Z hk0 mw_955 dX12_tower_124) (fun M14 => ?_)
        show Gz x 4 127 [(0, .ref (xb x + o0)), (2, .int v10)] [] KDF M14 _ _
        refine g1 (pc' := 128) (w_aload_n X dX12_tower_127 rfl 0 rfl) ?_
        refine g1 (pc' := 131) (gt_12_21 X hk0 mw_959 dX12_tower_128) ?_
        refine g1 (pc' := 132) (w_iconst X (0) dX12_tower_131 (by decide)) ?_
        refine g1 (pc' := 133) (w_aload_n X dX12_tower_132 rfl 0 rfl) ?_
        refine g1 (pc' := 136) (gt_12_10 X hk0 mw_948 dX12_tower_133) ?_
        refine g_ltJ (J := 149) (fun j15 => [(0, .ref (xb x + o0)), (2, .int v10)]) (fun j15 => [.int j15, .int (0 : Int32), .ref (xb x + 135)]) (fun j15 => M14) ?_ (fun j15 => ?_)
        · refine g_ifS (pcT := 148) (pcF := 139) (w_if_le (tgt := 148) X dX12_tower_136 (by decide)) (fun h16 => ?_) (fun h16 => ?_)
          · refine g1 (pc' := 149) (w_iload_n X dX12_tower_148 rfl 1 rfl) ?_
            exact g_end [0, 1] rfl rfl rfl
          · refine g1 (pc' := 140) (w_aload_n X dX12_tower_139 rfl 0 rfl) ?_
            refine g1 (pc' := 143) (gt_12_21 X hk0 mw_959 dX12_tower_140) ?_
            refine g1 (pc' := 144) (w_iconst X (0) dX12_tower_143 (by decide)) ?_
            refine g1 (pc' := 145) (w_iald X kd_135 (ib_lit (by decide)) dX12_tower_144) ?_
            refine g1 (pc' := 149) (w_goto X dX12_tower_145 (by decide)) ?_
            exact g_end [0, 1] rfl rfl rfl
        · show Gz x 4 149 [(0, .ref (xb x + o0)), (2, .int v10)] [.int j15, .int (0 : Int32), .ref (xb x + 135)] KDF M14 _ _
          refine g_lt (pc' := 150) (fun M17 => [(0, .ref (xb x + o0)), (2, .int v10)]) (fun M17 => []) (fun M17 => M17) (w_iast X Z kd_135 (ib_lit (by decide)) dX12_tower_149) (fun M17 => ?_)
          show Gz x 4 150 [(0, .ref (xb x + o0)), (2, .int v10)] [] KDF M17 _ _
          refine g1 (pc' := 151) (w_aload_n X dX12_tower_150 rfl 0 rfl) ?_
          refine g1 (pc' := 152) (w_aload_n X dX12_tower_151 rfl 0 rfl) ?_
          refine g1 (pc' := 155) (gt_12_12 X hk0 mw_950 dX12_tower_152) ?_
          refine g_ltJ (J := 166) (fun j18 => [(0, .ref (xb x + o0))]) (fun j18 => [.int j18, .ref (xb x + o0)]) (fun j18 => M17) ?_ (fun j18 => ?_)
          · refine g_ifS (pcT := 165) (pcF := 158) (w_if_lt (tgt := 165) X dX12_tower_155 (by decide)) (fun h19 => ?_) (fun h19 => ?_)
            · refine g1 (pc' := 166) (w_iload_n X dX12_tower_165 rfl 1 rfl) ?_
              exact g_end [0] rfl rfl rfl
            · refine g1 (pc' := 159) (w_aload_n X dX12_tower_158 rfl 0 rfl) ?_
              refine g1 (pc' := 162) (gt_12_12 X hk0 mw_950 dX12_tower_159) ?_
              refine g1 (pc' := 166) (w_goto X dX12_tower_162 (by decide)) ?_
              exact g_end [0] rfl rfl rfl
          · show Gz x 4 166 [(0, .ref (xb x + o0))] [.int j18, .ref (xb x + o0)] KDF M17 _ _
            refine g_lt (pc' := 169) (fun M20 => [(0, .ref (xb x + o0))]) (fun M20 => []) (fun M20 => M20) (pt_12_19 X Z hk0 mw_957 dX12_tower_166) (fun M20 => ?_)
            show Gz x 4 169 [(0, .ref (xb x + o0))] [] KDF M20 _ _
            refine g1 (pc' := 170) (w_iconst X (0) dX12_tower_169 (by decide)) ?_
            refine g1 (pc' := 171) (lv' := [(3, .int (0 : Int32)), (0, .ref (xb x + o0))]) (w_istore_n X dX12_tower_170 rfl (by decide) rfl) ?_
            refine g_pick (lv' := [(0, .ref (xb x + o0)), (3, .int (0 : Int32))]) [1, 0] rfl ?_
            refine g_bdJ (J := 190) (fun e21 => [(0, .ref (xb x + o0))]) (fun e21 => []) (fun e21 => e21) (g_lp (fun s171 => [(0, .ref (xb x + o0)), (3, .int s171.1)]) (fun s171 => s171.2) (fun s171 => ?_) 100000 ((0 : Int32), M20)) (fun e21 => ?_)
            · show Gz x 4 171 [(0, .ref (xb x + o0)), (3, .int s171.1)] [] KDF s171.2 (b_X12_tower_171 s171) _
              unfold b_X12_tower_171
              refine g_inl ?_
              exact g_end [0, 1] rfl rfl rfl
            · show Gz x 4 190 [(0, .ref (xb x + o0))] [] KDF e21 _ _
              refine g1 (pc' := 191) (w_aload_n X dX12_tower_190 rfl 0 rfl) ?_
              refine g1 (pc' := 194) (gt_12_23 X hk0 mw_961 dX12_tower_191) ?_
              refine g_bd (pc' := 197) (fun r22 => [(0, .ref (xb x + o0))]) (fun r22 => []) (fun r22 => r22) (fun r22 h => k_X12_toRounds X hR hN Z (kln_of kd_137) mw_1126 (by decide) (Nat.le_of_ble_eq_true rfl) dX12_tower_194 h) (fun r22 => ?_)
              show Gz x 4 197 [(0, .ref (xb x + o0))] [] KDF r22 _ _
              refine g1 (pc' := 198) (w_iconst X (0) dX12_tower_197 (by decide)) ?_
              refine g1 (pc' := 199) (lv' := [(3, .int (0 : Int32)), (0, .ref (xb x + o0))]) (w_istore_n X dX12_tower_198 rfl (by decide) rfl) ?_
              refine g_pick (lv' := [(0, .ref (xb x + o0)), (3, .int (0 : Int32))]) [1, 0] rfl ?_
              refine g_bdJ (J := 221) (fun e23 => [(0, .ref (xb x + o0))]) (fun e23 => []) (fun e23 => e23) (g_lp (fun s199 => [(0, .ref (xb x + o0)), (3, .int s199.1)]) (fun s199 => s199.2) (fun s199 => ?_) 100000 ((0 : Int32), r22)) (fun e23 => ?_)
              · show Gz x 4 199 [(0, .ref (xb x + o0)), (3, .int s199.1)] [] KDF s199.2 (b_X12_tower_199 s199) _
                unfold b_X12_tower_199
                refine g_inl ?_
                exact g_end [0, 1] rfl rfl rfl
              · show Gz x 4 221 [(0, .ref (xb x + o0))] [] KDF e23 _ _
                refine g1 (pc' := 222) (w_aload_n X dX12_tower_221 rfl 0 rfl) ?_
                refine g1 (pc' := 223) (w_iconst X (0) dX12_tower_222 (by decide)) ?_
                refine g_lt (pc' := 226) (fun M24 => [(0, .ref (xb x + o0))]) (fun M24 => []) (fun M24 => M24) (pt_12_31 X Z hk0 mw_969 dX12_tower_223) (fun M24 => ?_)
                show Gz x 4 226 [(0, .ref (xb x + o0))] [] KDF M24 _ _
                refine g1 (pc' := 227) (w_aload_n X dX12_tower_226 rfl 0 rfl) ?_
                refine g1 (pc' := 228) (w_iconst X (0) dX12_tower_227 (by decide)) ?_
                refine g_lt (pc' := 231) (fun M25 => [(0, .ref (xb x + o0))]) (fun M25 => []) (fun M25 => M25) (pt_12_33 X Z hk0 mw_971 dX12_tower_228) (fun M25 => ?_)
                show Gz x 4 231 [(0, .ref (xb x + o0))] [] KDF M25 _ _
                refine g1 (pc' := 232) (w_aload_n X dX12_tower_231 rfl 0 rfl) ?_
                refine g1 (pc' := 235) (gt_12_29 X hk0 mw_967 dX12_tower_232) ?_
                refine g1 (pc' := 236) (w_iconst X (0) dX12_tower_235 (by decide)) ?_
                refine g1 (pc' := 237) (w_iconst X (0) dX12_tower_236 (by decide)) ?_
                refine g_lt (pc' := 238) (fun M26 => [(0, .ref (xb x + o0))]) (fun M26 => []) (fun M26 => M26) (w_zast X Z kd_142 (ib_lit (by decide)) dX12_tower_237) (fun M26 => ?_)
                show Gz x 4 238 [(0, .ref (xb x + o0))] [] KDF M26 _ _
                refine g1 (pc' := 239) (w_aload_n X dX12_tower_238 rfl 0 rfl) ?_
                refine g1 (pc' := 242) (gt_12_29 X hk0 mw_967 dX12_tower_239) ?_
                refine g1 (pc' := 243) (w_iconst X (1) dX12_tower_242 (by decide)) ?_
                refine g1 (pc' := 244) (w_iconst X (0) dX12_tower_243 (by decide)) ?_
                refine g_lt (pc' := 245) (fun M27 => [(0, .ref (xb x + o0))]) (fun M27 => []) (fun M27 => M27) (w_zast X Z kd_142 (ib_lit (by decide)) dX12_tower_244) (fun M27 => ?_)
                show Gz x 4 245 [(0, .ref (xb x + o0))] [] KDF M27 _ _
                refine g1 (pc' := 246) (w_aload_n X dX12_tower_245 rfl 0 rfl) ?_
                refine g1 (pc' := 247) (w_iconst X (0) dX12_tower_246 (by decide)) ?_
                refine g_lt (pc' := 250) (fun M28 => [(0, .ref (xb x + o0))]) (fun M28 => []) (fun M28 => M28) (pt_12_26 X Z hk0 mw_964 dX12_tower_247) (fun M28 => ?_)
                show Gz x 4 250 [(0, .ref (xb x + o0))] [] KDF M28 _ _
                refine g1 (pc' := 251) (w_aload_n X dX12_tower_250 rfl 0 rfl) ?_
                refine g1 (pc' := 254) (gt_12_16 X hk0 mw_954 dX12_tower_251) ?_
                exact g_rI2 X dX12_tower_254
  exact G _ h _ rfl
theorem k_X12_tower {x : Cxt} {cc : ByteArray} {nL : Nat} {own : String} {ret : Option FieldType} (X : Ok x cc nL own ret) {d : Nat} (hR : Rm x d KDF) (hN : Nst x) (Z : xz x = 0) {pc : Nat} {lv : List (Nat × Value)} {rest : List Value} {M : Mm} {o0 : Nat} (hk0 : KDF[o0]? = some (12, 0)) {idx : Nat} (hw : Cond.methodLink own idx yX12_tower ∈ tbG) (hdd : 8 + 1 ≤ d) (hrm : (rest.map fun v => v.category).sum ≤ 8) (hd : decode cc pc = .ok (.invokevirtual idx, 3)) {r : Int32} {M' : Mm} (h : f_X12_tower o0 M = some (r, M')) : StpZ x nL pc lv (.ref (xb x + o0) :: rest) KDF M (pc + 3) lv (.int r :: rest) KDF M' :=
  w_callV (st := []) (As := []) X hR hN (CtX0 Z (c_X12_tower hk0 h)) ⟨Nat.le_refl _, Nat.le_refl _⟩ ⟨Nat.le_refl _, Nat.le_refl _⟩ hk0 (ci := 12) (fs := fs_12 o0) (fun _ _ _ => rfl) rfl hw mw_1070 mw_1071 mw_75 mw_1072 (n := 0) (by decide +kernel) rfl hdd (by decide) hrm hd
def f_X12_fault (o0 : Nat) (M : Mm) : Int32 :=
  (M o0 7)
set_option maxRecDepth 100000 in
set_option maxHeartbeats 4000000 in
theorem c_X12_fault {l : Launch} {D : va_G} {an : An} {b : Nat} {o0 : Nat} (hk0 : KDF[o0]? = some (12, 0)) {M : Mm}  : Ct l D an b 0 yX12_fault cX12_fault 1 (some .int) 1 [.ref (b + o0)] KDF M (some (.int (f_X12_fault o0 M))) KDF M := by
  refine CtX.mk (as := fun b => [.ref (b + o0)]) (rv := fun b => (some (.int (f_X12_fault o0 M)))) (by decide) (fun b => Nat.le_of_ble_eq_true rfl) ⟨Nat.le_refl _, Nat.le_refl _⟩ (fun x X hR Z hN _ _ => ?_)
  have X : Ok x cX12_fault 1 RX12 (some .int) := X
  have G : Gz x 1 0 [(0, .ref (xb x + o0))] [] KDF M (some (f_X12_fault o0 M)) (PsI x KDF M) := by
    unfold f_X12_fault
    refine g1 (pc' := 1) (w_aload_n X dX12_fault_0 rfl 0 rfl) ?_
    refine g1 (pc' := 4) (gt_12_7 X hk0 mw_945 dX12_fault_1) ?_
    exact g_rI X dX12_fault_4
  exact G _ rfl _ rfl
theorem k_X12_fault {x : Cxt} {cc : ByteArray} {nL : Nat} {own : String} {ret : Option FieldType} (X : Ok x cc nL own ret) {d : Nat} (hR : Rm x d KDF) (hN : Nst x) (Z : xz x = 0) {pc : Nat} {lv : List (Nat × Value)} {rest : List Value} {M : Mm} {o0 : Nat} (hk0 : KDF[o0]? = some (12, 0)) {idx : Nat} (hw : Cond.methodLink own idx yX12_fault ∈ tbG) (hdd : 1 + 1 ≤ d) (hrm : (rest.map fun v => v.category).sum ≤ 8) (hd : decode cc pc = .ok (.invokevirtual idx, 3))  : StpZ x nL pc lv (.ref (xb x + o0) :: rest) KDF M (pc + 3) lv (.int (f_X12_fault o0 M) :: rest) KDF M :=
  w_callV (st := []) (As := []) X hR hN (CtX0 Z (c_X12_fault hk0 )) ⟨Nat.le_refl _, Nat.le_refl _⟩ ⟨Nat.le_refl _, Nat.le_refl _⟩ hk0 (ci := 12) (fs := fs_12 o0) (fun _ _ _ => rfl) rfl hw mw_1130 mw_1131 mw_75 mw_1132 (n := 0) (by decide +kernel) rfl hdd (by decide) hrm hd
def b_X12_figuresOf_4  (s4 : Int32 × Int32) : Option ((Int32 × Int32) ⊕ (Int32)) :=
  some (.inl (s4.1, s4.2))
def f_X12_figuresOf (o0 : Nat) (o1 : Nat) (M : Mm) : Option (Int32) :=
  Bd (Lp (b_X12_figuresOf_4) 100000 ((0 : Int32), (0 : Int32))) (fun e1 => some e1)
set_option maxRecDepth 100000 in
set_option maxHeartbeats 4000000 in
theorem c_X12_figuresOf {l : Launch} {D : va_G} {an : An} {b : Nat} {o0 : Nat} {o1 : Nat} (hk0 : KDF[o0]? = some (12, 0)) (hk1 : KDF[o1]? = some (13, kln o1)) {M : Mm} {r : Int32} (h : f_X12_figuresOf o0 o1 M = some r) : Ct l D an b 0 yX12_figuresOf cX12_figuresOf 4 (some .int) 1 [.ref (b + o0), .ref (b + o1)] KDF M (some (.int r)) KDF M := by
  refine CtX.mk (as := fun b => [.ref (b + o0), .ref (b + o1)]) (rv := fun b => (some (.int r))) (by decide) (fun b => Nat.le_of_ble_eq_true rfl) ⟨Nat.le_refl _, Nat.le_refl _⟩ (fun x X hR Z hN _ _ => ?_)
  have X : Ok x cX12_figuresOf 4 RX12 (some .int) := X
  have G : Gz x 4 0 [(0, .ref (xb x + o0)), (1, .ref (xb x + o1))] [] KDF M (f_X12_figuresOf o0 o1 M) (PsI x KDF M) := by
    unfold f_X12_figuresOf
    refine g1 (pc' := 1) (w_iconst X (0) dX12_figuresOf_0 (by decide)) ?_
    refine g1 (pc' := 2) (lv' := [(2, .int (0 : Int32)), (0, .ref (xb x + o0)), (1, .ref (xb x + o1))]) (w_istore_n X dX12_figuresOf_1 rfl (by decide) rfl) ?_
    refine g1 (pc' := 3) (w_iconst X (0) dX12_figuresOf_2 (by decide)) ?_
    refine g1 (pc' := 4) (lv' := [(3, .int (0 : Int32)), (2, .int (0 : Int32)), (0, .ref (xb x + o0)), (1, .ref (xb x + o1))]) (w_istore_n X dX12_figuresOf_3 rfl (by decide) rfl) ?_
    refine g_pick (lv' := [(0, .ref (xb x + o0)), (1, .ref (xb x + o1)), (2, .int (0 : Int32)), (3, .int (0 : Int32))]) [2, 3, 1, 0] rfl ?_
    refine g_bdJ (J := 31) (fun e1 => [(2, .int e1)]) (fun e1 => []) (fun e1 => M) (g_lp (fun s4 => [(0, .ref (xb x + o0)), (1, .ref (xb x + o1)), (2, .int s4.1), (3, .int s4.2)]) (fun s4 => M) (fun s4 => ?_) 100000 ((0 : Int32), (0 : Int32))) (fun e1 => ?_)
    · show Gz x 4 4 [(0, .ref (xb x + o0)), (1, .ref (xb x + o1)), (2, .int s4.1), (3, .int s4.2)] [] KDF M (b_X12_figuresOf_4 s4) _
      unfold b_X12_figuresOf_4
      refine g_inl ?_
      exact g_end [0, 1, 2, 3] rfl rfl rfl
    · show Gz x 4 31 [(2, .int e1)] [] KDF M _ _
      refine g1 (pc' := 32) (w_iload_n X dX12_figuresOf_31 rfl 0 rfl) ?_
      exact g_rI X dX12_figuresOf_32
  exact G _ h _ rfl
theorem k_X12_figuresOf {x : Cxt} {cc : ByteArray} {nL : Nat} {own : String} {ret : Option FieldType} (X : Ok x cc nL own ret) {d : Nat} (hR : Rm x d KDF) (hN : Nst x) (Z : xz x = 0) {pc : Nat} {lv : List (Nat × Value)} {rest : List Value} {M : Mm} {o0 : Nat} {o1 : Nat} (hk0 : KDF[o0]? = some (12, 0)) (hk1 : KDF[o1]? = some (13, kln o1)) {idx : Nat} (hw : Cond.methodLink own idx yX12_figuresOf ∈ tbG) (hdd : 1 + 1 ≤ d) (hrm : (rest.map fun v => v.category).sum ≤ 8) (hd : decode cc pc = .ok (.invokevirtual idx, 3)) {r : Int32} (h : f_X12_figuresOf o0 o1 M = some r) : StpZ x nL pc lv (.ref (xb x + o1) :: .ref (xb x + o0) :: rest) KDF M (pc + 3) lv (.int r :: rest) KDF M :=
  w_callV (st := []) (As := [.ref (xb x + o1)]) X hR hN (CtX0 Z (c_X12_figuresOf hk0 hk1 h)) ⟨Nat.le_refl _, Nat.le_refl _⟩ ⟨Nat.le_refl _, Nat.le_refl _⟩ hk0 (ci := 12) (fs := fs_12 o0) (fun _ _ _ => rfl) rfl hw mw_1139 mw_37 mw_75 mw_1140 (n := 1) (by decide +kernel) rfl hdd (by decide) hrm hd
def b_X12_wedIn_7  (s7 : Int32 × Int32 × Int32) : Option ((Int32 × Int32 × Int32) ⊕ (Int32 × Int32)) :=
  some (.inl (s7.1, s7.2.1, s7.2.2))
def f_X12_wedIn (o0 : Nat) (o1 : Nat) (M : Mm) : Option (Int32) :=
  Bd (Lp (b_X12_wedIn_7) 100000 ((-1 : Int32), (0 : Int32), (0 : Int32))) (fun e1 => (if (M o0 18) ≤ (1 : Int32) then some (-1 : Int32) else (if e1.2 = (1 : Int32) then some e1.1 else some (-1 : Int32))))
set_option maxRecDepth 100000 in
set_option maxHeartbeats 4000000 in
theorem c_X12_wedIn {l : Launch} {D : va_G} {an : An} {b : Nat} {o0 : Nat} {o1 : Nat} (hk0 : KDF[o0]? = some (12, 0)) (hk1 : KDF[o1]? = some (13, kln o1)) {M : Mm} {r : Int32} (h : f_X12_wedIn o0 o1 M = some r) : Ct l D an b 0 yX12_wedIn cX12_wedIn 5 (some .int) 2 [.ref (b + o0), .ref (b + o1)] KDF M (some (.int r)) KDF M := by
  refine CtX.mk (as := fun b => [.ref (b + o0), .ref (b + o1)]) (rv := fun b => (some (.int r))) (by decide) (fun b => Nat.le_of_ble_eq_true rfl) ⟨Nat.le_refl _, Nat.le_refl _⟩ (fun x X hR Z hN _ _ => ?_)
  have X : Ok x cX12_wedIn 5 RX12 (some .int) := X
  have G : Gz x 5 0 [(0, .ref (xb x + o0)), (1, .ref (xb x + o1))] [] KDF M (f_X12_wedIn o0 o1 M) (PsI x KDF M) := by
    unfold f_X12_wedIn
    refine g1 (pc' := 1) (w_iconst X (-1) dX12_wedIn_0 (by decide)) ?_
    refine g1 (pc' := 2) (lv' := [(2, .int (-1 : Int32)), (0, .ref (xb x + o0)), (1, .ref (xb x + o1))]) (w_istore_n X dX12_wedIn_1 rfl (by decide) rfl) ?_
    refine g1 (pc' := 3) (w_iconst X (0) dX12_wedIn_2 (by decide)) ?_
    refine g1 (pc' := 4) (lv' := [(3, .int (0 : Int32)), (2, .int (-1 : Int32)), (0, .ref (xb x + o0)), (1, .ref (xb x + o1))]) (w_istore_n X dX12_wedIn_3 rfl (by decide) rfl) ?_
    refine g1 (pc' := 5) (w_iconst X (0) dX12_wedIn_4 (by decide)) ?_
    refine g1 (pc' := 7) (lv' := [(4, .int (0 : Int32)), (3, .int (0 : Int32)), (2, .int (-1 : Int32)), (0, .ref (xb x + o0)), (1, .ref (xb x + o1))]) (w_istore X dX12_wedIn_5 (by decide) rfl) ?_
    refine g_pick (lv' := [(0, .ref (xb x + o0)), (1, .ref (xb x + o1)), (2, .int (-1 : Int32)), (3, .int (0 : Int32)), (4, .int (0 : Int32))]) [3, 4, 2, 1, 0] rfl ?_
    refine g_bdJ (J := 59) (fun e1 => [(0, .ref (xb x + o0)), (2, .int e1.1), (3, .int e1.2)]) (fun e1 => []) (fun e1 => M) (g_lp (fun s7 => [(0, .ref (xb x + o0)), (1, .ref (xb x + o1)), (2, .int s7.1), (3, .int s7.2.1), (4, .int s7.2.2)]) (fun s7 => M) (fun s7 => ?_) 100000 ((-1 : Int32), (0 : Int32), (0 : Int32))) (fun e1 => ?_)
    · show Gz x 5 7 [(0, .ref (xb x + o0)), (1, .ref (xb x + o1)), (2, .int s7.1), (3, .int s7.2.1), (4, .int s7.2.2)] [] KDF M (b_X12_wedIn_7 s7) _
      unfold b_X12_wedIn_7
      refine g_inl ?_
      exact g_end [0, 1, 2, 3, 4] rfl rfl rfl
    · show Gz x 5 59 [(0, .ref (xb x + o0)), (2, .int e1.1), (3, .int e1.2)] [] KDF M _ _
      refine g1 (pc' := 60) (w_aload_n X dX12_wedIn_59 rfl 0 rfl) ?_
      refine g1 (pc' := 63) (gt_12_18 X hk0 mw_956 dX12_wedIn_60) ?_
      refine g1 (pc' := 64) (w_iconst X (1) dX12_wedIn_63 (by decide)) ?_
      refine g_if (pcT := 76) (pcF := 67) (w_icmp_le (tgt := 76) X dX12_wedIn_64 (by decide)) (fun h2 => ?_) (fun h2 => ?_)
      · refine g1 (pc' := 77) (w_iconst X (-1) dX12_wedIn_76 (by decide)) ?_
        exact g_rI X dX12_wedIn_77
      · refine g1 (pc' := 68) (w_iload_n X dX12_wedIn_67 rfl 2 rfl) ?_
        refine g1 (pc' := 69) (w_iconst X (1) dX12_wedIn_68 (by decide)) ?_
        refine g_if (pcT := 72) (pcF := 76) (w_icmp_ne (tgt := 76) X dX12_wedIn_69 (by decide)) (fun h3 => ?_) (fun h3 => ?_)
        · refine g1 (pc' := 73) (w_iload_n X dX12_wedIn_72 rfl 1 rfl) ?_
          refine g1 (pc' := 77) (w_goto X dX12_wedIn_73 (by decide)) ?_
          exact g_rI X dX12_wedIn_77
        · refine g1 (pc' := 77) (w_iconst X (-1) dX12_wedIn_76 (by decide)) ?_
          exact g_rI X dX12_wedIn_77
  exact G _ h _ rfl
theorem k_X12_wedIn {x : Cxt} {cc : ByteArray} {nL : Nat} {own : String} {ret : Option FieldType} (X : Ok x cc nL own ret) {d : Nat} (hR : Rm x d KDF) (hN : Nst x) (Z : xz x = 0) {pc : Nat} {lv : List (Nat × Value)} {rest : List Value} {M : Mm} {o0 : Nat} {o1 : Nat} (hk0 : KDF[o0]? = some (12, 0)) (hk1 : KDF[o1]? = some (13, kln o1)) {idx : Nat} (hw : Cond.methodLink own idx yX12_wedIn ∈ tbG) (hdd : 2 + 1 ≤ d) (hrm : (rest.map fun v => v.category).sum ≤ 8) (hd : decode cc pc = .ok (.invokevirtual idx, 3)) {r : Int32} (h : f_X12_wedIn o0 o1 M = some r) : StpZ x nL pc lv (.ref (xb x + o1) :: .ref (xb x + o0) :: rest) KDF M (pc + 3) lv (.int r :: rest) KDF M :=
  w_callV (st := []) (As := [.ref (xb x + o1)]) X hR hN (CtX0 Z (c_X12_wedIn hk0 hk1 h)) ⟨Nat.le_refl _, Nat.le_refl _⟩ ⟨Nat.le_refl _, Nat.le_refl _⟩ hk0 (ci := 12) (fs := fs_12 o0) (fun _ _ _ => rfl) rfl hw mw_1143 mw_38 mw_75 mw_1144 (n := 1) (by decide +kernel) rfl hdd (by decide) hrm hd
