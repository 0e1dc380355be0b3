def f_X12_isBell (o0 : Nat) (x1 : Int32) (M : Mm) : Int32 :=
  (f_X12_in x1 (0 : Int32) ((M o0 16) - (1 : Int32)))
theorem z_X12_isBell {o0 : Nat} {x1 : Int32} {M : Mm} : zb (f_X12_isBell o0 x1 M) := by
  unfold f_X12_isBell
  repeat' (first | exact zb0 | exact zb1 | exact z_X12_in | apply zbi)
set_option maxRecDepth 100000 in
set_option maxHeartbeats 4000000 in
theorem c_X12_isBell {l : Launch} {D : va_G} {an : An} {b : Nat} {o0 : Nat} {x1 : Int32} (hk0 : KDF[o0]? = some (12, 0)) {M : Mm}  : Ct l D an b 0 yX12_isBell cX12_isBell 2 (some .boolean) 2 [.ref (b + o0), .int x1] KDF M (some (.int (f_X12_isBell o0 x1 M))) KDF M := by
  refine CtX.mk (as := fun b => [.ref (b + o0), .int x1]) (rv := fun b => (some (.int (f_X12_isBell o0 x1 M)))) (by decide) (fun b => Nat.le_of_ble_eq_true rfl) ⟨Nat.le_refl _, Nat.le_refl _⟩ (fun x X hR Z hN _ _ => ?_)
  have X : Ok x cX12_isBell 2 RX12 (some .boolean) := X
  have G : Gz x 2 0 [(0, .ref (xb x + o0)), (1, .int x1)] [] KDF M (some (f_X12_isBell o0 x1 M)) (PsI x KDF M) := by
    unfold f_X12_isBell
    refine g1 (pc' := 1) (w_iload_n X dX12_isBell_0 rfl 1 rfl) ?_
    refine g1 (pc' := 2) (w_iconst X (0) dX12_isBell_1 (by decide)) ?_
    refine g1 (pc' := 3) (w_aload_n X dX12_isBell_2 rfl 0 rfl) ?_
    refine g1 (pc' := 6) (gt_12_16 X hk0 mw_945 dX12_isBell_3) ?_
    refine g1 (pc' := 7) (w_iconst X (1) dX12_isBell_6 (by decide)) ?_
    refine g1 (pc' := 8) (w_isub X dX12_isBell_7) ?_
    refine g1 (pc' := 11) (k_X12_in X hR hN Z  mw_1055 (by decide) (Nat.le_of_ble_eq_true rfl) dX12_isBell_8) ?_
    exact g_rZ X z_X12_in dX12_isBell_11
  exact G _ rfl _ rfl
theorem k_X12_isBell {x : Cxt} {cc : ByteArray} {nL : Nat} {own : String} {ret : Option FieldType} (X : Ok x cc nL own ret) {d : Nat} (hR : Rm x d KDF) (hN : Nst x) (Z : xz x = 0) {pc : Nat} {lv : List (Nat × Value)} {rest : List Value} {M : Mm} {o0 : Nat} {x1 : Int32} (hk0 : KDF[o0]? = some (12, 0)) {idx : Nat} (hw : Cond.methodLink own idx yX12_isBell ∈ tbG) (hdd : 2 + 1 ≤ d) (hrm : (rest.map fun v => v.category).sum ≤ 8) (hd : decode cc pc = .ok (.invokevirtual idx, 3))  : StpZ x nL pc lv (.int x1 :: .ref (xb x + o0) :: rest) KDF M (pc + 3) lv (.int (f_X12_isBell o0 x1 M) :: rest) KDF M :=
  w_callV (st := []) (As := [.int x1]) X hR hN (CtX0 Z (c_X12_isBell hk0 )) ⟨Nat.le_refl _, Nat.le_refl _⟩ ⟨Nat.le_refl _, Nat.le_refl _⟩ hk0 (ci := 12) (fs := fs_12 o0) (fun _ _ _ => rfl) rfl hw mw_1171 mw_42 mw_72 mw_1172 (n := 1) (by decide +kernel) rfl hdd (by decide) hrm hd
def f_X12_isSuitor (o0 : Nat) (x1 : Int32) (M : Mm) : Int32 :=
  (f_X12_in x1 (0 : Int32) ((M o0 18) - (1 : Int32)))
theorem z_X12_isSuitor {o0 : Nat} {x1 : Int32} {M : Mm} : zb (f_X12_isSuitor o0 x1 M) := by
  unfold f_X12_isSuitor
  repeat' (first | exact zb0 | exact zb1 | exact z_X12_in | apply zbi)
set_option maxRecDepth 100000 in
set_option maxHeartbeats 4000000 in
theorem c_X12_isSuitor {l : Launch} {D : va_G} {an : An} {b : Nat} {o0 : Nat} {x1 : Int32} (hk0 : KDF[o0]? = some (12, 0)) {M : Mm}  : Ct l D an b 0 yX12_isSuitor cX12_isSuitor 2 (some .boolean) 2 [.ref (b + o0), .int x1] KDF M (some (.int (f_X12_isSuitor o0 x1 M))) KDF M := by
  refine CtX.mk (as := fun b => [.ref (b + o0), .int x1]) (rv := fun b => (some (.int (f_X12_isSuitor o0 x1 M)))) (by decide) (fun b => Nat.le_of_ble_eq_true rfl) ⟨Nat.le_refl _, Nat.le_refl _⟩ (fun x X hR Z hN _ _ => ?_)
  have X : Ok x cX12_isSuitor 2 RX12 (some .boolean) := X
  have G : Gz x 2 0 [(0, .ref (xb x + o0)), (1, .int x1)] [] KDF M (some (f_X12_isSuitor o0 x1 M)) (PsI x KDF M) := by
    unfold f_X12_isSuitor
    refine g1 (pc' := 1) (w_iload_n X dX12_isSuitor_0 rfl 1 rfl) ?_
    refine g1 (pc' := 2) (w_iconst X (0) dX12_isSuitor_1 (by decide)) ?_
    refine g1 (pc' := 3) (w_aload_n X dX12_isSuitor_2 rfl 0 rfl) ?_
    refine g1 (pc' := 6) (gt_12_18 X hk0 mw_947 dX12_isSuitor_3) ?_
    refine g1 (pc' := 7) (w_iconst X (1) dX12_isSuitor_6 (by decide)) ?_
    refine g1 (pc' := 8) (w_isub X dX12_isSuitor_7) ?_
    refine g1 (pc' := 11) (k_X12_in X hR hN Z  mw_1055 (by decide) (Nat.le_of_ble_eq_true rfl) dX12_isSuitor_8) ?_
    exact g_rZ X z_X12_in dX12_isSuitor_11
  exact G _ rfl _ rfl
theorem k_X12_isSuitor {x : Cxt} {cc : ByteArray} {nL : Nat} {own : String} {ret : Option FieldType} (X : Ok x cc nL own ret) {d : Nat} (hR : Rm x d KDF) (hN : Nst x) (Z : xz x = 0) {pc : Nat} {lv : List (Nat × Value)} {rest : List Value} {M : Mm} {o0 : Nat} {x1 : Int32} (hk0 : KDF[o0]? = some (12, 0)) {idx : Nat} (hw : Cond.methodLink own idx yX12_isSuitor ∈ tbG) (hdd : 2 + 1 ≤ d) (hrm : (rest.map fun v => v.category).sum ≤ 8) (hd : decode cc pc = .ok (.invokevirtual idx, 3))  : StpZ x nL pc lv (.int x1 :: .ref (xb x + o0) :: rest) KDF M (pc + 3) lv (.int (f_X12_isSuitor o0 x1 M) :: rest) KDF M :=
  w_callV (st := []) (As := [.int x1]) X hR hN (CtX0 Z (c_X12_isSuitor hk0 )) ⟨Nat.le_refl _, Nat.le_refl _⟩ ⟨Nat.le_refl _, Nat.le_refl _⟩ hk0 (ci := 12) (fs := fs_12 o0) (fun _ _ _ => rfl) rfl hw mw_1184 mw_44 mw_72 mw_1185 (n := 1) (by decide +kernel) rfl hdd (by decide) hrm hd
def f_X12_feed (o0 : Nat) (x1 : Int32) (M : Mm) : Option (Int32 × Mm) :=
  (if (f_X12_in x1 (0 : Int32) (255 : Int32)) = 0 then some ((-1000000002 : Int32), M) else (if (M o0 0) = (240 : Int32) then some ((-1000000004 : Int32), M) else Gd (ib (M o0 0) 240) (Lt (st2 M 129 (ix (M o0 0)) x1) (fun M4 => Lt (st2 M4 o0 0 ((M4 o0 0) + (1 : Int32))) (fun M5 => some ((M5 o0 0), M5))))))
set_option maxRecDepth 100000 in
set_option maxHeartbeats 4000000 in
theorem c_X12_feed {l : Launch} {D : va_G} {an : An} {b : Nat} {o0 : Nat} {x1 : Int32} (hk0 : KDF[o0]? = some (12, 0)) {M : Mm} {r : Int32} {M' : Mm} (h : f_X12_feed o0 x1 M = some (r, M')) : Ct l D an b 0 yX12_feed cX12_feed 2 (some .int) 2 [.ref (b + o0), .int x1] KDF M (some (.int r)) KDF M' := by
  refine CtX.mk (as := fun b => [.ref (b + o0), .int x1]) (rv := fun b => (some (.int r))) (by decide) (fun b => Nat.le_of_ble_eq_true rfl) ⟨Nat.le_refl _, Nat.le_refl _⟩ (fun x X hR Z hN _ _ => ?_)
  have X : Ok x cX12_feed 2 RX12 (some .int) := X
  have G : Gz x 2 0 [(0, .ref (xb x + o0)), (1, .int x1)] [] KDF M (f_X12_feed o0 x1 M) (PsI2 x KDF) := by
    unfold f_X12_feed
    refine g1 (pc' := 1) (w_iload_n X dX12_feed_0 rfl 1 rfl) ?_
    refine g1 (pc' := 2) (w_iconst X (0) dX12_feed_1 (by decide)) ?_
    refine g1 (pc' := 5) (w_sipush X (255) dX12_feed_2 (by decide)) ?_
    refine g1 (pc' := 8) (k_X12_in X hR hN Z  mw_1055 (by decide) (Nat.le_of_ble_eq_true rfl) dX12_feed_5) ?_
    refine g_if (pcT := 11) (pcF := 14) (w_if_ne (tgt := 14) X dX12_feed_8 (by decide)) (fun h1 => ?_) (fun h1 => ?_)
    · refine g1 (pc' := 13) (w_ldc (v := -1000000002) X dX12_feed_11 mw_1058) ?_
      exact g_rI2 X dX12_feed_13
    · refine g1 (pc' := 15) (w_aload_n X dX12_feed_14 rfl 0 rfl) ?_
      refine g1 (pc' := 18) (gt_12_0 X hk0 mw_929 dX12_feed_15) ?_
      refine g1 (pc' := 21) (w_sipush X (240) dX12_feed_18 (by decide)) ?_
      refine g_if (pcT := 24) (pcF := 27) (w_icmp_ne (tgt := 27) X dX12_feed_21 (by decide)) (fun h2 => ?_) (fun h2 => ?_)
      · refine g1 (pc' := 26) (w_ldc (v := -1000000004) X dX12_feed_24 mw_1059) ?_
        exact g_rI2 X dX12_feed_26
      · refine g1 (pc' := 28) (w_aload_n X dX12_feed_27 rfl 0 rfl) ?_
        refine g1 (pc' := 31) (gt_12_1 X hk0 mw_930 dX12_feed_28) ?_
        refine g1 (pc' := 32) (w_aload_n X dX12_feed_31 rfl 0 rfl) ?_
        refine g1 (pc' := 35) (gt_12_0 X hk0 mw_929 dX12_feed_32) ?_
        refine g1 (pc' := 36) (w_iload_n X dX12_feed_35 rfl 1 rfl) ?_
        refine g_gd (fun h3 => ?_)
        refine g_lt (pc' := 37) (fun M4 => [(0, .ref (xb x + o0)), (1, .int x1)]) (fun M4 => []) (fun M4 => M4) (w_iast X Z kd_129 h3 dX12_feed_36) (fun M4 => ?_)
        show Gz x 2 37 [(0, .ref (xb x + o0)), (1, .int x1)] [] KDF M4 _ _
        refine g1 (pc' := 38) (w_aload_n X dX12_feed_37 rfl 0 rfl) ?_
        refine g1 (pc' := 39) (w_dup X dX12_feed_38 rfl) ?_
        refine g1 (pc' := 42) (gt_12_0 X hk0 mw_929 dX12_feed_39) ?_
        refine g1 (pc' := 43) (w_iconst X (1) dX12_feed_42 (by decide)) ?_
        refine g1 (pc' := 44) (w_iadd X dX12_feed_43) ?_
        refine g_lt (pc' := 47) (fun M5 => [(0, .ref (xb x + o0)), (1, .int x1)]) (fun M5 => []) (fun M5 => M5) (pt_12_0 X Z hk0 mw_929 dX12_feed_44) (fun M5 => ?_)
        show Gz x 2 47 [(0, .ref (xb x + o0)), (1, .int x1)] [] KDF M5 _ _
        refine g1 (pc' := 48) (w_aload_n X dX12_feed_47 rfl 0 rfl) ?_
        refine g1 (pc' := 51) (gt_12_0 X hk0 mw_929 dX12_feed_48) ?_
        exact g_rI2 X dX12_feed_51
  exact G _ h _ rfl
theorem k_X12_feed {x : Cxt} {cc : ByteArray} {nL : Nat} {own : String} {ret : Option FieldType} (X : Ok x cc nL own ret) {d : Nat} (hR : Rm x d KDF) (hN : Nst x) (Z : xz x = 0) {pc : Nat} {lv : List (Nat × Value)} {rest : List Value} {M : Mm} {o0 : Nat} {x1 : Int32} (hk0 : KDF[o0]? = some (12, 0)) {idx : Nat} (hw : Cond.methodLink own idx yX12_feed ∈ tbG) (hdd : 2 + 1 ≤ d) (hrm : (rest.map fun v => v.category).sum ≤ 8) (hd : decode cc pc = .ok (.invokevirtual idx, 3)) {r : Int32} {M' : Mm} (h : f_X12_feed o0 x1 M = some (r, M')) : StpZ x nL pc lv (.int x1 :: .ref (xb x + o0) :: rest) KDF M (pc + 3) lv (.int r :: rest) KDF M' :=
  w_callV (st := []) (As := [.int x1]) X hR hN (CtX0 Z (c_X12_feed hk0 h)) ⟨Nat.le_refl _, Nat.le_refl _⟩ ⟨Nat.le_refl _, Nat.le_refl _⟩ hk0 (ci := 12) (fs := fs_12 o0) (fun _ _ _ => rfl) rfl hw mw_1052 mw_1053 mw_72 mw_1054 (n := 1) (by decide +kernel) rfl hdd (by decide) hrm hd
def b_X12_nextToken_0 (o0 : Nat) (s0 : Mm) : Option ((Mm) ⊕ (Mm)) :=
  (if (s0 o0 0) ≤ (s0 o0 2) then some (.inr s0) else Gd (ib (s0 o0 2) 240) ((if (s0 129 (ix (s0 o0 2))) = (32 : Int32) then Lt (st2 s0 o0 2 ((s0 o0 2) + (1 : Int32))) (fun M4 => some (.inl M4)) else some (.inr s0))))
def b_X12_nextToken_95 (o0 : Nat) (s95 : Mm) : Option ((Mm) ⊕ (Mm)) :=
  (if (s95 o0 0) ≤ (s95 o0 2) then some (.inr s95) else Gd (ib (s95 o0 2) 240) ((if (f_X12_in (s95 129 (ix (s95 o0 2))) (48 : Int32) (57 : Int32)) = 0 then some (.inr s95) else Bd (((if (3 : Int32) ≤ (s95 o0 6) then some (s95 o0 5) else Gd (ib (s95 o0 2) 240) (some ((((10 : Int32) * (s95 o0 5)) + (s95 129 (ix (s95 o0 2)))) - (48 : Int32))))) : Option (Int32)) (fun j20 => Lt (st2 s95 o0 5 j20) (fun M23 => Lt (st2 M23 o0 6 ((M23 o0 6) + (1 : Int32))) (fun M24 => Lt (st2 M24 o0 2 ((M24 o0 2) + (1 : Int32))) (fun M25 => some (.inl M25))))))))
def f_X12_nextToken (o0 : Nat) (M : Mm) : Option (Mm) :=
  Bd (Lp (b_X12_nextToken_0 o0) 100000 M) (fun e5 => Lt (st2 e5 o0 3 (e5 o0 2)) (fun M6 => Lt (st2 M6 o0 5 (0 : Int32)) (fun M7 => Lt (st2 M7 o0 6 (0 : Int32)) (fun M8 => (if (M8 o0 2) = (M8 o0 0) then Lt (st2 M8 o0 4 (-2 : Int32)) (fun M10 => some M10) else Gd (ib (M8 o0 2) 240) ((if (f_X12_in (M8 129 (ix (M8 o0 2))) (48 : Int32) (57 : Int32)) = 0 then Gd (ib (M8 o0 2) 240) (Lt (st2 M8 o0 4 (M8 129 (ix (M8 o0 2)))) (fun M14 => Lt (st2 M14 o0 2 ((M14 o0 2) + (1 : Int32))) (fun M15 => some M15))) else Bd (Lp (b_X12_nextToken_95 o0) 100000 M8) (fun e26 => Lt (st2 e26 o0 4 (-1 : Int32)) (fun M27 => some M27)))))))))
set_option maxRecDepth 100000 in
set_option maxHeartbeats 4000000 in
theorem c_X12_nextToken {l : Launch} {D : va_G} {an : An} {b : Nat} {o0 : Nat} (hk0 : KDF[o0]? = some (12, 0)) {M : Mm} {M' : Mm} (h : f_X12_nextToken o0 M = some M') : Ct l D an b 0 yX12_nextToken cX12_nextToken 1 none 2 [.ref (b + o0)] KDF M none KDF M' := by
  refine CtX.mk (as := fun b => [.ref (b + o0)]) (rv := fun b => none) (by decide) (fun b => Nat.le_of_ble_eq_true rfl) ⟨Nat.le_refl _, Nat.le_refl _⟩ (fun x X hR Z hN _ _ => ?_)
  have X : Ok x cX12_nextToken 1 RX12 none := X
  have G : Gz x 1 0 [(0, .ref (xb x + o0))] [] KDF M (f_X12_nextToken o0 M) (PsM x KDF) := by
    unfold f_X12_nextToken
    refine g_pick (lv' := [(0, .ref (xb x + o0))]) [0] rfl ?_
    refine g_bdJ (J := 38) (fun e5 => [(0, .ref (xb x + o0))]) (fun e5 => []) (fun e5 => e5) (g_lp (fun s0 => [(0, .ref (xb x + o0))]) (fun s0 => s0) (fun s0 => ?_) 100000 M) (fun e5 => ?_)
    · show Gz x 1 0 [(0, .ref (xb x + o0))] [] KDF s0 (b_X12_nextToken_0 o0 s0) _
      unfold b_X12_nextToken_0
      refine g1 (pc' := 1) (w_aload_n X dX12_nextToken_0 rfl 0 rfl) ?_
      refine g1 (pc' := 4) (gt_12_2 X hk0 mw_931 dX12_nextToken_1) ?_
      refine g1 (pc' := 5) (w_aload_n X dX12_nextToken_4 rfl 0 rfl) ?_
      refine g1 (pc' := 8) (gt_12_0 X hk0 mw_929 dX12_nextToken_5) ?_
      refine g_if (pcT := 38) (pcF := 11) (w_icmp_ge (tgt := 38) X dX12_nextToken_8 (by decide)) (fun h1 => ?_) (fun h1 => ?_)
      · refine g_inr ?_
        exact g_end [0] rfl rfl rfl
      · refine g1 (pc' := 12) (w_aload_n X dX12_nextToken_11 rfl 0 rfl) ?_
        refine g1 (pc' := 15) (gt_12_1 X hk0 mw_930 dX12_nextToken_12) ?_
        refine g1 (pc' := 16) (w_aload_n X dX12_nextToken_15 rfl 0 rfl) ?_
        refine g1 (pc' := 19) (gt_12_2 X hk0 mw_931 dX12_nextToken_16) ?_
        refine g_gd (fun h2 => ?_)
        refine g1 (pc' := 20) (w_iald X kd_129 h2 dX12_nextToken_19) ?_
        refine g1 (pc' := 22) (w_bipush X (32) dX12_nextToken_20 (by decide)) ?_
        refine g_if (pcT := 25) (pcF := 38) (w_icmp_ne (tgt := 38) X dX12_nextToken_22 (by decide)) (fun h3 => ?_) (fun h3 => ?_)
        · refine g1 (pc' := 26) (w_aload_n X dX12_nextToken_25 rfl 0 rfl) ?_
          refine g1 (pc' := 27) (w_dup X dX12_nextToken_26 rfl) ?_
          refine g1 (pc' := 30) (gt_12_2 X hk0 mw_931 dX12_nextToken_27) ?_
          refine g1 (pc' := 31) (w_iconst X (1) dX12_nextToken_30 (by decide)) ?_
          refine g1 (pc' := 32) (w_iadd X dX12_nextToken_31) ?_
          refine g_lt (pc' := 35) (fun M4 => [(0, .ref (xb x + o0))]) (fun M4 => []) (fun M4 => M4) (pt_12_2 X Z hk0 mw_931 dX12_nextToken_32) (fun M4 => ?_)
          show Gz x 1 35 [(0, .ref (xb x + o0))] [] KDF M4 _ _
          refine g1 (pc' := 0) (w_goto X dX12_nextToken_35 (by decide)) ?_
          refine g_inl ?_
          exact g_end [0] rfl rfl rfl
        · refine g_inr ?_
          exact g_end [0] rfl rfl rfl
    · show Gz x 1 38 [(0, .ref (xb x + o0))] [] KDF e5 _ _
      refine g1 (pc' := 39) (w_aload_n X dX12_nextToken_38 rfl 0 rfl) ?_
      refine g1 (pc' := 40) (w_aload_n X dX12_nextToken_39 rfl 0 rfl) ?_
      refine g1 (pc' := 43) (gt_12_2 X hk0 mw_931 dX12_nextToken_40) ?_
      refine g_lt (pc' := 46) (fun M6 => [(0, .ref (xb x + o0))]) (fun M6 => []) (fun M6 => M6) (pt_12_3 X Z hk0 mw_932 dX12_nextToken_43) (fun M6 => ?_)
      show Gz x 1 46 [(0, .ref (xb x + o0))] [] KDF M6 _ _
      refine g1 (pc' := 47) (w_aload_n X dX12_nextToken_46 rfl 0 rfl) ?_
      refine g1 (pc' := 48) (w_iconst X (0) dX12_nextToken_47 (by decide)) ?_
      refine g_lt (pc' := 51) (fun M7 => [(0, .ref (xb x + o0))]) (fun M7 => []) (fun M7 => M7) (pt_12_5 X Z hk0 mw_934 dX12_nextToken_48) (fun M7 => ?_)
      show Gz x 1 51 [(0, .ref (xb x + o0))] [] KDF M7 _ _
      refine g1 (pc' := 52) (w_aload_n X dX12_nextToken_51 rfl 0 rfl) ?_
      refine g1 (pc' := 53) (w_iconst X (0) dX12_nextToken_52 (by decide)) ?_
      refine g_lt (pc' := 56) (fun M8 => [(0, .ref (xb x + o0))]) (fun M8 => []) (fun M8 => M8) (pt_12_6 X Z hk0 mw_935 dX12_nextToken_53) (fun M8 => ?_)
      show Gz x 1 56 [(0, .ref (xb x + o0))] [] KDF M8 _ _
      refine g1 (pc' := 57) (w_aload_n X dX12_nextToken_56 rfl 0 rfl) ?_
      refine g1 (pc' := 60) (gt_12_2 X hk0 mw_931 dX12_nextToken_57) ?_
      refine g1 (pc' := 61) (w_aload_n X dX12_nextToken_60 rfl 0 rfl) ?_
      refine g1 (pc' := 64) (gt_12_0 X hk0 mw_929 dX12_nextToken_61) ?_
      refine g_if (pcT := 67) (pcF := 76) (w_icmp_ne (tgt := 76) X dX12_nextToken_64 (by decide)) (fun h9 => ?_) (fun h9 => ?_)
      · refine g1 (pc' := 68) (w_aload_n X dX12_nextToken_67 rfl 0 rfl) ?_
        refine g1 (pc' := 70) (w_bipush X (-2) dX12_nextToken_68 (by decide)) ?_
        refine g_lt (pc' := 73) (fun M10 => [(0, .ref (xb x + o0))]) (fun M10 => []) (fun M10 => M10) (pt_12_4 X Z hk0 mw_933 dX12_nextToken_70) (fun M10 => ?_)
        show Gz x 1 73 [(0, .ref (xb x + o0))] [] KDF M10 _ _
        refine g1 (pc' := 218) (w_goto X dX12_nextToken_73 (by decide)) ?_
        exact g_rM X dX12_nextToken_218
      · refine g1 (pc' := 77) (w_aload_n X dX12_nextToken_76 rfl 0 rfl) ?_
        refine g1 (pc' := 80) (gt_12_1 X hk0 mw_930 dX12_nextToken_77) ?_
        refine g1 (pc' := 81) (w_aload_n X dX12_nextToken_80 rfl 0 rfl) ?_
        refine g1 (pc' := 84) (gt_12_2 X hk0 mw_931 dX12_nextToken_81) ?_
        refine g_gd (fun h11 => ?_)
        refine g1 (pc' := 85) (w_iald X kd_129 h11 dX12_nextToken_84) ?_
        refine g1 (pc' := 87) (w_bipush X (48) dX12_nextToken_85 (by decide)) ?_
        refine g1 (pc' := 89) (w_bipush X (57) dX12_nextToken_87 (by decide)) ?_
        refine g1 (pc' := 92) (k_X12_in X hR hN Z  mw_1055 (by decide) (Nat.le_of_ble_eq_true rfl) dX12_nextToken_89) ?_
        refine g_if (pcT := 195) (pcF := 95) (w_if_eq (tgt := 195) X dX12_nextToken_92 (by decide)) (fun h12 => ?_) (fun h12 => ?_)
        · refine g1 (pc' := 196) (w_aload_n X dX12_nextToken_195 rfl 0 rfl) ?_
          refine g1 (pc' := 197) (w_aload_n X dX12_nextToken_196 rfl 0 rfl) ?_
          refine g1 (pc' := 200) (gt_12_1 X hk0 mw_930 dX12_nextToken_197) ?_
          refine g1 (pc' := 201) (w_aload_n X dX12_nextToken_200 rfl 0 rfl) ?_
          refine g1 (pc' := 204) (gt_12_2 X hk0 mw_931 dX12_nextToken_201) ?_
          refine g_gd (fun h13 => ?_)
          refine g1 (pc' := 205) (w_iald X kd_129 h13 dX12_nextToken_204) ?_
          refine g_lt (pc' := 208) (fun M14 => [(0, .ref (xb x + o0))]) (fun M14 => []) (fun M14 => M14) (pt_12_4 X Z hk0 mw_933 dX12_nextToken_205) (fun M14 => ?_)
          show Gz x 1 208 [(0, .ref (xb x + o0))] [] KDF M14 _ _
          refine g1 (pc' := 209) (w_aload_n X dX12_nextToken_208 rfl 0 rfl) ?_
          refine g1 (pc' := 210) (w_dup X dX12_nextToken_209 rfl) ?_
          refine g1 (pc' := 213) (gt_12_2 X hk0 mw_931 dX12_nextToken_210) ?_
          refine g1 (pc' := 214) (w_iconst X (1) dX12_nextToken_213 (by decide)) ?_
          refine g1 (pc' := 215) (w_iadd X dX12_nextToken_214) ?_
          refine g_lt (pc' := 218) (fun M15 => [(0, .ref (xb x + o0))]) (fun M15 => []) (fun M15 => M15) (pt_12_2 X Z hk0 mw_931 dX12_nextToken_215) (fun M15 => ?_)
          show Gz x 1 218 [(0, .ref (xb x + o0))] [] KDF M15 _ _
          exact g_rM X dX12_nextToken_218
        · refine g_pick (lv' := [(0, .ref (xb x + o0))]) [0] rfl ?_
          refine g_bdJ (J := 187) (fun e26 => [(0, .ref (xb x + o0))]) (fun e26 => []) (fun e26 => e26) (g_lp (fun s95 => [(0, .ref (xb x + o0))]) (fun s95 => s95) (fun s95 => ?_) 100000 M8) (fun e26 => ?_)
          · show Gz x 1 95 [(0, .ref (xb x + o0))] [] KDF s95 (b_X12_nextToken_95 o0 s95) _
            unfold b_X12_nextToken_95
            refine g1 (pc' := 96) (w_aload_n X dX12_nextToken_95 rfl 0 rfl) ?_
            refine g1 (pc' := 99) (gt_12_2 X hk0 mw_931 dX12_nextToken_96) ?_
            refine g1 (pc' := 100) (w_aload_n X dX12_nextToken_99 rfl 0 rfl) ?_
            refine g1 (pc' := 103) (gt_12_0 X hk0 mw_929 dX12_nextToken_100) ?_
            refine g_if (pcT := 187) (pcF := 106) (w_icmp_ge (tgt := 187) X dX12_nextToken_103 (by decide)) (fun h16 => ?_) (fun h16 => ?_)
            · refine g_inr ?_
              exact g_end [0] rfl rfl rfl
            · refine g1 (pc' := 107) (w_aload_n X dX12_nextToken_106 rfl 0 rfl) ?_
              refine g1 (pc' := 110) (gt_12_1 X hk0 mw_930 dX12_nextToken_107) ?_
              refine g1 (pc' := 111) (w_aload_n X dX12_nextToken_110 rfl 0 rfl) ?_
              refine g1 (pc' := 114) (gt_12_2 X hk0 mw_931 dX12_nextToken_111) ?_
              refine g_gd (fun h17 => ?_)
              refine g1 (pc' := 115) (w_iald X kd_129 h17 dX12_nextToken_114) ?_
              refine g1 (pc' := 117) (w_bipush X (48) dX12_nextToken_115 (by decide)) ?_
              refine g1 (pc' := 119) (w_bipush X (57) dX12_nextToken_117 (by decide)) ?_
              refine g1 (pc' := 122) (k_X12_in X hR hN Z  mw_1055 (by decide) (Nat.le_of_ble_eq_true rfl) dX12_nextToken_119) ?_
              refine g_if (pcT := 187) (pcF := 125) (w_if_eq (tgt := 187) X dX12_nextToken_122 (by decide)) (fun h18 => ?_) (fun h18 => ?_)
              · refine g_inr ?_
                exact g_end [0] rfl rfl rfl
              · refine g1 (pc' := 126) (w_aload_n X dX12_nextToken_125 rfl 0 rfl) ?_
                refine g1 (pc' := 127) (w_aload_n X dX12_nextToken_126 rfl 0 rfl) ?_
                refine g1 (pc' := 130) (gt_12_6 X hk0 mw_935 dX12_nextToken_127) ?_
                refine g1 (pc' := 131) (w_iconst X (3) dX12_nextToken_130 (by decide)) ?_
                refine g_bdJ (J := 161) (fun j20 => [(0, .ref (xb x + o0))]) (fun j20 => [.int j20, .ref (xb x + o0)]) (fun j20 => s95) ?_ (fun j20 => ?_)
                · refine g_if (pcT := 157) (pcF := 134) (w_icmp_ge (tgt := 157) X dX12_nextToken_131 (by decide)) (fun h21 => ?_) (fun h21 => ?_)
                  · refine g1 (pc' := 158) (w_aload_n X dX12_nextToken_157 rfl 0 rfl) ?_
                    refine g1 (pc' := 161) (gt_12_5 X hk0 mw_934 dX12_nextToken_158) ?_
                    exact g_end [0] rfl rfl rfl
                  · refine g1 (pc' := 136) (w_bipush X (10) dX12_nextToken_134 (by decide)) ?_
                    refine g1 (pc' := 137) (w_aload_n X dX12_nextToken_136 rfl 0 rfl) ?_
                    refine g1 (pc' := 140) (gt_12_5 X hk0 mw_934 dX12_nextToken_137) ?_
                    refine g1 (pc' := 141) (w_imul X dX12_nextToken_140) ?_
                    refine g1 (pc' := 142) (w_aload_n X dX12_nextToken_141 rfl 0 rfl) ?_
                    refine g1 (pc' := 145) (gt_12_1 X hk0 mw_930 dX12_nextToken_142) ?_
                    refine g1 (pc' := 146) (w_aload_n X dX12_nextToken_145 rfl 0 rfl) ?_
                    refine g1 (pc' := 149) (gt_12_2 X hk0 mw_931 dX12_nextToken_146) ?_
                    refine g_gd (fun h22 => ?_)
                    refine g1 (pc' := 150) (w_iald X kd_129 h22 dX12_nextToken_149) ?_
                    refine g1 (pc' := 151) (w_iadd X dX12_nextToken_150) ?_
                    refine g1 (pc' := 153) (w_bipush X (48) dX12_nextToken_151 (by decide)) ?_
                    refine g1 (pc' := 154) (w_isub X dX12_nextToken_153) ?_
                    refine g1 (pc' := 161) (w_goto X dX12_nextToken_154 (by decide)) ?_
                    exact g_end [0] rfl rfl rfl
                · show Gz x 1 161 [(0, .ref (xb x + o0))] [.int j20, .ref (xb x + o0)] KDF s95 _ _
                  refine g_lt (pc' := 164) (fun M23 => [(0, .ref (xb x + o0))]) (fun M23 => []) (fun M23 => M23) (pt_12_5 X Z hk0 mw_934 dX12_nextToken_161) (fun M23 => ?_)
                  show Gz x 1 164 [(0, .ref (xb x + o0))] [] KDF M23 _ _
                  refine g1 (pc' := 165) (w_aload_n X dX12_nextToken_164 rfl 0 rfl) ?_
                  refine g1 (pc' := 166) (w_dup X dX12_nextToken_165 rfl) ?_
                  refine g1 (pc' := 169) (gt_12_6 X hk0 mw_935 dX12_nextToken_166) ?_
                  refine g1 (pc' := 170) (w_iconst X (1) dX12_nextToken_169 (by decide)) ?_
                  refine g1 (pc' := 171) (w_iadd X dX12_nextToken_170) ?_
                  refine g_lt (pc' := 174) (fun M24 => [(0, .ref (xb x + o0))]) (fun M24 => []) (fun M24 => M24) (pt_12_6 X Z hk0 mw_935 dX12_nextToken_171) (fun M24 => ?_)
                  show Gz x 1 174 [(0, .ref (xb x + o0))] [] KDF M24 _ _
                  refine g1 (pc' := 175) (w_aload_n X dX12_nextToken_174 rfl 0 rfl) ?_
                  refine g1 (pc' := 176) (w_dup X dX12_nextToken_175 rfl) ?_
                  refine g1 (pc' := 179) (gt_12_2 X hk0 mw_931 dX12_nextToken_176) ?_
                  refine g1 (pc' := 180) (w_iconst X (1) dX12_nextToken_179 (by decide)) ?_
                  refine g1 (pc' := 181) (w_iadd X dX12_nextToken_180) ?_
                  refine g_lt (pc' := 184) (fun M25 => [(0, .ref (xb x + o0))]) (fun M25 => []) (fun M25 => M25) (pt_12_2 X Z hk0 mw_931 dX12_nextToken_181) (fun M25 => ?_)
                  show Gz x 1 184 [(0, .ref (xb x + o0))] [] KDF M25 _ _
                  refine g1 (pc' := 95) (w_goto X dX12_nextToken_184 (by decide)) ?_
                  refine g_inl ?_
                  exact g_end [0] rfl rfl rfl
          · show Gz x 1 187 [(0, .ref (xb x + o0))] [] KDF e26 _ _
            refine g1 (pc' := 188) (w_aload_n X dX12_nextToken_187 rfl 0 rfl) ?_
            refine g1 (pc' := 189) (w_iconst X (-1) dX12_nextToken_188 (by decide)) ?_
            refine g_lt (pc' := 192) (fun M27 => [(0, .ref (xb x + o0))]) (fun M27 => []) (fun M27 => M27) (pt_12_4 X Z hk0 mw_933 dX12_nextToken_189) (fun M27 => ?_)
            show Gz x 1 192 [(0, .ref (xb x + o0))] [] KDF M27 _ _
            refine g1 (pc' := 218) (w_goto X dX12_nextToken_192 (by decide)) ?_
            exact g_rM X dX12_nextToken_218
  exact G _ h _ rfl
theorem k_X12_nextToken {x : Cxt} {cc : ByteArray} {nL : Nat} {own : String} {ret : Option FieldType} (X : Ok x cc nL own ret) {d : Nat} (hR : Rm x d KDF) (hN : Nst x) (Z : xz x = 0) {pc : Nat} {lv : List (Nat × Value)} {rest : List Value} {M : Mm} {o0 : Nat} (hk0 : KDF[o0]? = some (12, 0)) {idx : Nat} (hw : Cond.methodLink own idx yX12_nextToken ∈ tbG) (hdd : 2 + 1 ≤ d) (hrm : (rest.map fun v => v.category).sum ≤ 8) (hd : decode cc pc = .ok (.invokevirtual idx, 3)) {M' : Mm} (h : f_X12_nextToken o0 M = some M') : StpZ x nL pc lv (.ref (xb x + o0) :: rest) KDF M (pc + 3) lv (rest) KDF M' :=
  w_callV (st := []) (As := []) X hR hN (CtX0 Z (c_X12_nextToken hk0 h)) ⟨Nat.le_refl _, Nat.le_refl _⟩ ⟨Nat.le_refl _, Nat.le_refl _⟩ hk0 (ci := 12) (fs := fs_12 o0) (fun _ _ _ => rfl) rfl hw mw_1070 mw_24 mw_72 mw_1071 (n := 0) (by decide +kernel) rfl hdd (by decide) hrm hd
def f_X12_fails (o0 : Nat) (x1 : Int32) (M : Mm) : Option (Int32 × Mm) :=
  Lt (st2 M o0 7 (M o0 3)) (fun M1 => Lt (st2 M1 o0 8 x1) (fun M2 => some ((0 : Int32), M2)))
set_option maxRecDepth 100000 in
set_option maxHeartbeats 4000000 in
theorem c_X12_fails {l : Launch} {D : va_G} {an : An} {b : Nat} {o0 : Nat} {x1 : Int32} (hk0 : KDF[o0]? = some (12, 0)) {M : Mm} {r : Int32} {M' : Mm} (h : f_X12_fails o0 x1 M = some (r, M')) : Ct l D an b 0 yX12_fails cX12_fails 2 (some .boolean) 1 [.ref (b + o0), .int x1] KDF M (some (.int r)) KDF M' := by
  refine CtX.mk (as := fun b => [.ref (b + o0), .int x1]) (rv := fun b => (some (.int r))) (by decide) (fun b => Nat.le_of_ble_eq_true rfl) ⟨Nat.le_refl _, Nat.le_refl _⟩ (fun x X hR Z hN _ _ => ?_)
  have X : Ok x cX12_fails 2 RX12 (some .boolean) := X
  have G : Gz x 2 0 [(0, .ref (xb x + o0)), (1, .int x1)] [] KDF M (f_X12_fails o0 x1 M) (PsI2 x KDF) := by
    unfold f_X12_fails
    refine g1 (pc' := 1) (w_aload_n X dX12_fails_0 rfl 0 rfl) ?_
    refine g1 (pc' := 2) (w_aload_n X dX12_fails_1 rfl 0 rfl) ?_
    refine g1 (pc' := 5) (gt_12_3 X hk0 mw_932 dX12_fails_2) ?_
    refine g_lt (pc' := 8) (fun M1 => [(0, .ref (xb x + o0)), (1, .int x1)]) (fun M1 => []) (fun M1 => M1) (pt_12_7 X Z hk0 mw_936 dX12_fails_5) (fun M1 => ?_)
    show Gz x 2 8 [(0, .ref (xb x + o0)), (1, .int x1)] [] KDF M1 _ _
    refine g1 (pc' := 9) (w_aload_n X dX12_fails_8 rfl 0 rfl) ?_
    refine g1 (pc' := 10) (w_iload_n X dX12_fails_9 rfl 1 rfl) ?_
    refine g_lt (pc' := 13) (fun M2 => [(0, .ref (xb x + o0)), (1, .int x1)]) (fun M2 => []) (fun M2 => M2) (pt_12_8 X Z hk0 mw_937 dX12_fails_10) (fun M2 => ?_)
    show Gz x 2 13 [(0, .ref (xb x + o0)), (1, .int x1)] [] KDF M2 _ _
    refine g1 (pc' := 14) (w_iconst X (0) dX12_fails_13 (by decide)) ?_
    exact g_rZ2 X zb0 dX12_fails_14
  exact G _ h _ rfl
theorem k_X12_fails {x : Cxt} {cc : ByteArray} {nL : Nat} {own : String} {ret : Option FieldType} (X : Ok x cc nL own ret) {d : Nat} (hR : Rm x d KDF) (hN : Nst x) (Z : xz x = 0) {pc : Nat} {lv : List (Nat × Value)} {rest : List Value} {M : Mm} {o0 : Nat} {x1 : Int32} (hk0 : KDF[o0]? = some (12, 0)) {idx : Nat} (hw : Cond.methodLink own idx yX12_fails ∈ tbG) (hdd : 1 + 1 ≤ d) (hrm : (rest.map fun v => v.category).sum ≤ 8) (hd : decode cc pc = .ok (.invokevirtual idx, 3)) {r : Int32} {M' : Mm} (h : f_X12_fails o0 x1 M = some (r, M')) : StpZ x nL pc lv (.int x1 :: .ref (xb x + o0) :: rest) KDF M (pc + 3) lv (.int r :: rest) KDF M' :=
  w_callV (st := []) (As := [.int x1]) X hR hN (CtX0 Z (c_X12_fails hk0 h)) ⟨Nat.le_refl _, Nat.le_refl _⟩ ⟨Nat.le_refl _, Nat.le_refl _⟩ hk0 (ci := 12) (fs := fs_12 o0) (fun _ _ _ => rfl) rfl hw mw_1078 mw_26 mw_72 mw_1079 (n := 1) (by decide +kernel) rfl hdd (by decide) hrm hd
def f_X12_isNumber (o0 : Nat) (x1 : Int32) (x2 : Int32) (M : Mm) : Option (Int32 × Mm) :=
  Bd (f_X12_nextToken o0 M) (fun r1 => (if (r1 o0 4) = (-1 : Int32) then (if (4 : Int32) ≤ (r1 o0 6) then Bd (f_X12_fails o0 (2 : Int32) r1) (fun r4 => (if r4.1 = 0 then some ((0 : Int32), r4.2) else some ((1 : Int32), r4.2))) else (if (f_X12_in (r1 o0 5) x1 x2) = 0 then Bd (f_X12_fails o0 (2 : Int32) r1) (fun r7 => (if r7.1 = 0 then some ((0 : Int32), r7.2) else some ((1 : Int32), r7.2))) else some ((1 : Int32), r1))) else Bd (f_X12_fails o0 (1 : Int32) r1) (fun r9 => Gd (zb r9.1) (some (r9.1, r9.2)))))
set_option maxRecDepth 100000 in
set_option maxHeartbeats 4000000 in
theorem c_X12_isNumber {l : Launch} {D : va_G} {an : An} {b : Nat} {o0 : Nat} {x1 : Int32} {x2 : Int32} (hk0 : KDF[o0]? = some (12, 0)) {M : Mm} {r : Int32} {M' : Mm} (h : f_X12_isNumber o0 x1 x2 M = some (r, M')) : Ct l D an b 0 yX12_isNumber cX12_isNumber 3 (some .boolean) 3 [.ref (b + o0), .int x1, .int x2] KDF M (some (.int r)) KDF M' := by
  refine CtX.mk (as := fun b => [.ref (b + o0), .int x1, .int x2]) (rv := fun b => (some (.int r))) (by decide) (fun b => Nat.le_of_ble_eq_true rfl) ⟨Nat.le_refl _, Nat.le_refl _⟩ (fun x X hR Z hN _ _ => ?_)
  have X : Ok x cX12_isNumber 3 RX12 (some .boolean) := X
  have G : Gz x 3 0 [(0, .ref (xb x + o0)), (1, .int x1), (2, .int x2)] [] KDF M (f_X12_isNumber o0 x1 x2 M) (PsI2 x KDF) := by
    unfold f_X12_isNumber
    refine g1 (pc' := 1) (w_aload_n X dX12_isNumber_0 rfl 0 rfl) ?_
    refine g_bd (pc' := 4) (fun r1 => [(0, .ref (xb x + o0)), (1, .int x1), (2, .int x2)]) (fun r1 => []) (fun r1 => r1) (fun r1 h => k_X12_nextToken X hR hN Z hk0 mw_1068 (by decide) (Nat.le_of_ble_eq_true rfl) dX12_isNumber_1 h) (fun r1 => ?_)
    show Gz x 3 4 [(0, .ref (xb x + o0)), (1, .int x1), (2, .int x2)] [] KDF r1 _ _
    refine g1 (pc' := 5) (w_aload_n X dX12_isNumber_4 rfl 0 rfl) ?_
    refine g1 (pc' := 8) (gt_12_4 X hk0 mw_933 dX12_isNumber_5) ?_
    refine g1 (pc' := 9) (w_iconst X (-1) dX12_isNumber_8 (by decide)) ?_
    refine g_if (pcT := 18) (pcF := 12) (w_icmp_eq (tgt := 18) X dX12_isNumber_9 (by decide)) (fun h2 => ?_) (fun h2 => ?_)
    · refine g1 (pc' := 19) (w_aload_n X dX12_isNumber_18 rfl 0 rfl) ?_
      refine g1 (pc' := 22) (gt_12_6 X hk0 mw_935 dX12_isNumber_19) ?_
      refine g1 (pc' := 23) (w_iconst X (4) dX12_isNumber_22 (by decide)) ?_
      refine g_if (pcT := 38) (pcF := 26) (w_icmp_ge (tgt := 38) X dX12_isNumber_23 (by decide)) (fun h3 => ?_) (fun h3 => ?_)
      · refine g1 (pc' := 39) (w_aload_n X dX12_isNumber_38 rfl 0 rfl) ?_
        refine g1 (pc' := 40) (w_iconst X (2) dX12_isNumber_39 (by decide)) ?_
        refine g_bd (pc' := 43) (fun r4 => [(0, .ref (xb x + o0)), (1, .int x1), (2, .int x2)]) (fun r4 => [.int r4.1]) (fun r4 => r4.2) (fun r4 h => k_X12_fails X hR hN Z hk0 mw_1076 (by decide) (Nat.le_of_ble_eq_true rfl) dX12_isNumber_40 h) (fun r4 => ?_)
        show Gz x 3 43 [(0, .ref (xb x + o0)), (1, .int x1), (2, .int x2)] [.int r4.1] KDF r4.2 _ _
        refine g_if (pcT := 50) (pcF := 46) (w_if_eq (tgt := 50) X dX12_isNumber_43 (by decide)) (fun h5 => ?_) (fun h5 => ?_)
        · refine g1 (pc' := 51) (w_iconst X (0) dX12_isNumber_50 (by decide)) ?_
          exact g_rZ2 X zb0 dX12_isNumber_51
        · refine g1 (pc' := 47) (w_iconst X (1) dX12_isNumber_46 (by decide)) ?_
          refine g1 (pc' := 51) (w_goto X dX12_isNumber_47 (by decide)) ?_
          exact g_rZ2 X zb1 dX12_isNumber_51
      · refine g1 (pc' := 27) (w_aload_n X dX12_isNumber_26 rfl 0 rfl) ?_
        refine g1 (pc' := 30) (gt_12_5 X hk0 mw_934 dX12_isNumber_27) ?_
        refine g1 (pc' := 31) (w_iload_n X dX12_isNumber_30 rfl 1 rfl) ?_
        refine g1 (pc' := 32) (w_iload_n X dX12_isNumber_31 rfl 2 rfl) ?_
        refine g1 (pc' := 35) (k_X12_in X hR hN Z  mw_1055 (by decide) (Nat.le_of_ble_eq_true rfl) dX12_isNumber_32) ?_
        refine g_if (pcT := 38) (pcF := 46) (w_if_ne (tgt := 46) X dX12_isNumber_35 (by decide)) (fun h6 => ?_) (fun h6 => ?_)
        · refine g1 (pc' := 39) (w_aload_n X dX12_isNumber_38 rfl 0 rfl) ?_
          refine g1 (pc' := 40) (w_iconst X (2) dX12_isNumber_39 (by decide)) ?_
          refine g_bd (pc' := 43) (fun r7 => [(0, .ref (xb x + o0)), (1, .int x1), (2, .int x2)]) (fun r7 => [.int r7.1]) (fun r7 => r7.2) (fun r7 h => k_X12_fails X hR hN Z hk0 mw_1076 (by decide) (Nat.le_of_ble_eq_true rfl) dX12_isNumber_40 h) (fun r7 => ?_)
          show Gz x 3 43 [(0, .ref (xb x + o0)), (1, .int x1), (2, .int x2)] [.int r7.1] KDF r7.2 _ _
          refine g_if (pcT := 50) (pcF := 46) (w_if_eq (tgt := 50) X dX12_isNumber_43 (by decide)) (fun h8 => ?_) (fun h8 => ?_)
          · refine g1 (pc' := 51) (w_iconst X (0) dX12_isNumber_50 (by decide)) ?_
            exact g_rZ2 X zb0 dX12_isNumber_51
          · refine g1 (pc' := 47) (w_iconst X (1) dX12_isNumber_46 (by decide)) ?_
            refine g1 (pc' := 51) (w_goto X dX12_isNumber_47 (by decide)) ?_
            exact g_rZ2 X zb1 dX12_isNumber_51
        · refine g1 (pc' := 47) (w_iconst X (1) dX12_isNumber_46 (by decide)) ?_
          refine g1 (pc' := 51) (w_goto X dX12_isNumber_47 (by decide)) ?_
          exact g_rZ2 X zb1 dX12_isNumber_51
    · refine g1 (pc' := 13) (w_aload_n X dX12_isNumber_12 rfl 0 rfl) ?_
      refine g1 (pc' := 14) (w_iconst X (1) dX12_isNumber_13 (by decide)) ?_
      refine g_bd (pc' := 17) (fun r9 => [(0, .ref (xb x + o0)), (1, .int x1), (2, .int x2)]) (fun r9 => [.int r9.1]) (fun r9 => r9.2) (fun r9 h => k_X12_fails X hR hN Z hk0 mw_1076 (by decide) (Nat.le_of_ble_eq_true rfl) dX12_isNumber_14 h) (fun r9 => ?_)
      show Gz x 3 17 [(0, .ref (xb x + o0)), (1, .int x1), (2, .int x2)] [.int r9.1] KDF r9.2 _ _
      refine g_gd (fun h10 => ?_)
      exact g_rZ2 X h10 dX12_isNumber_17
  exact G _ h _ rfl
theorem k_X12_isNumber {x : Cxt} {cc : ByteArray} {nL : Nat} {own : String} {ret : Option FieldType} (X : Ok x cc nL own ret) {d : Nat} (hR : Rm x d KDF) (hN : Nst x) (Z : xz x = 0) {pc : Nat} {lv : List (Nat × Value)} {rest : List Value} {M : Mm} {o0 : Nat} {x1 : Int32} {x2 : Int32} (hk0 : KDF[o0]? = some (12, 0)) {idx : Nat} (hw : Cond.methodLink own idx yX12_isNumber ∈ tbG) (hdd : 3 + 1 ≤ d) (hrm : (rest.map fun v => v.category).sum ≤ 8) (hd : decode cc pc = .ok (.invokevirtual idx, 3)) {r : Int32} {M' : Mm} (h : f_X12_isNumber o0 x1 x2 M = some (r, M')) : StpZ x nL pc lv (.int x2 :: .int x1 :: .ref (xb x + o0) :: rest) KDF M (pc + 3) lv (.int r :: rest) KDF M' :=
  w_callV (st := []) (As := [.int x1, .int x2]) X hR hN (CtX0 Z (c_X12_isNumber hk0 h)) ⟨Nat.le_refl _, Nat.le_refl _⟩ ⟨Nat.le_refl _, Nat.le_refl _⟩ hk0 (ci := 12) (fs := fs_12 o0) (fun _ _ _ => rfl) rfl hw mw_1086 mw_28 mw_72 mw_1087 (n := 2) (by decide +kernel) rfl hdd (by decide) hrm hd
def f_X12_isEnd (o0 : Nat) (M : Mm) : Option (Int32 × Mm) :=
  Bd (f_X12_nextToken o0 M) (fun r1 => (if (r1 o0 4) = (59 : Int32) then some ((1 : Int32), r1) else Bd (f_X12_fails o0 (1 : Int32) r1) (fun r3 => (if r3.1 = 0 then some ((0 : Int32), r3.2) else some ((1 : Int32), r3.2)))))
set_option maxRecDepth 100000 in
set_option maxHeartbeats 4000000 in
theorem c_X12_isEnd {l : Launch} {D : va_G} {an : An} {b : Nat} {o0 : Nat} (hk0 : KDF[o0]? = some (12, 0)) {M : Mm} {r : Int32} {M' : Mm} (h : f_X12_isEnd o0 M = some (r, M')) : Ct l D an b 0 yX12_isEnd cX12_isEnd 1 (some .boolean) 3 [.ref (b + o0)] KDF M (some (.int r)) KDF M' := by
  refine CtX.mk (as := fun b => [.ref (b + o0)]) (rv := fun b => (some (.int r))) (by decide) (fun b => Nat.le_of_ble_eq_true rfl) ⟨Nat.le_refl _, Nat.le_refl _⟩ (fun x X hR Z hN _ _ => ?_)
  have X : Ok x cX12_isEnd 1 RX12 (some .boolean) := X
  have G : Gz x 1 0 [(0, .ref (xb x + o0))] [] KDF M (f_X12_isEnd o0 M) (PsI2 x KDF) := by
    unfold f_X12_isEnd
    refine g1 (pc' := 1) (w_aload_n X dX12_isEnd_0 rfl 0 rfl) ?_
    refine g_bd (pc' := 4) (fun r1 => [(0, .ref (xb x + o0))]) (fun r1 => []) (fun r1 => r1) (fun r1 h => k_X12_nextToken X hR hN Z hk0 mw_1068 (by decide) (Nat.le_of_ble_eq_true rfl) dX12_isEnd_1 h) (fun r1 => ?_)
    show Gz x 1 4 [(0, .ref (xb x + o0))] [] KDF r1 _ _
    refine g1 (pc' := 5) (w_aload_n X dX12_isEnd_4 rfl 0 rfl) ?_
    refine g1 (pc' := 8) (gt_12_4 X hk0 mw_933 dX12_isEnd_5) ?_
    refine g1 (pc' := 10) (w_bipush X (59) dX12_isEnd_8 (by decide)) ?_
    refine g_if (pcT := 21) (pcF := 13) (w_icmp_eq (tgt := 21) X dX12_isEnd_10 (by decide)) (fun h2 => ?_) (fun h2 => ?_)
    · refine g1 (pc' := 22) (w_iconst X (1) dX12_isEnd_21 (by decide)) ?_
      refine g1 (pc' := 26) (w_goto X dX12_isEnd_22 (by decide)) ?_
      exact g_rZ2 X zb1 dX12_isEnd_26
    · refine g1 (pc' := 14) (w_aload_n X dX12_isEnd_13 rfl 0 rfl) ?_
      refine g1 (pc' := 15) (w_iconst X (1) dX12_isEnd_14 (by decide)) ?_
      refine g_bd (pc' := 18) (fun r3 => [(0, .ref (xb x + o0))]) (fun r3 => [.int r3.1]) (fun r3 => r3.2) (fun r3 h => k_X12_fails X hR hN Z hk0 mw_1076 (by decide) (Nat.le_of_ble_eq_true rfl) dX12_isEnd_15 h) (fun r3 => ?_)
      show Gz x 1 18 [(0, .ref (xb x + o0))] [.int r3.1] KDF r3.2 _ _
      refine g_if (pcT := 25) (pcF := 21) (w_if_eq (tgt := 25) X dX12_isEnd_18 (by decide)) (fun h4 => ?_) (fun h4 => ?_)
      · refine g1 (pc' := 26) (w_iconst X (0) dX12_isEnd_25 (by decide)) ?_
        exact g_rZ2 X zb0 dX12_isEnd_26
      · refine g1 (pc' := 22) (w_iconst X (1) dX12_isEnd_21 (by decide)) ?_
        refine g1 (pc' := 26) (w_goto X dX12_isEnd_22 (by decide)) ?_
        exact g_rZ2 X zb1 dX12_isEnd_26
  exact G _ h _ rfl
theorem k_X12_isEnd {x : Cxt} {cc : ByteArray} {nL : Nat} {own : String} {ret : Option FieldType} (X : Ok x cc nL own ret) {d : Nat} (hR : Rm x d KDF) (hN : Nst x) (Z : xz x = 0) {pc : Nat} {lv : List (Nat × Value)} {rest : List Value} {M : Mm} {o0 : Nat} (hk0 : KDF[o0]? = some (12, 0)) {idx : Nat} (hw : Cond.methodLink own idx yX12_isEnd ∈ tbG) (hdd : 3 + 1 ≤ d) (hrm : (rest.map fun v => v.category).sum ≤ 8) (hd : decode cc pc = .ok (.invokevirtual idx, 3)) {r : Int32} {M' : Mm} (h : f_X12_isEnd o0 M = some (r, M')) : StpZ x nL pc lv (.ref (xb x + o0) :: rest) KDF M (pc + 3) lv (.int r :: rest) KDF M' :=
  w_callV (st := []) (As := []) X hR hN (CtX0 Z (c_X12_isEnd hk0 h)) ⟨Nat.le_refl _, Nat.le_refl _⟩ ⟨Nat.le_refl _, Nat.le_refl _⟩ hk0 (ci := 12) (fs := fs_12 o0) (fun _ _ _ => rfl) rfl hw mw_1108 mw_32 mw_72 mw_1109 (n := 0) (by decide +kernel) rfl hdd (by decide) hrm hd
def b_X12_isChange_7 (x0 : Int32) (x1 : Int32) (s7 : Int32 × Int32 × Int32) : Option ((Int32 × Int32 × Int32) ⊕ (Int32 × Int32)) :=
  (if x1 ≤ s7.2.2 then some (.inr (s7.1, s7.2.1)) else Lt (((if s7.2.1 = 0 then (0 : Int32) else (if (f_X12_has x0 s7.2.2) = 0 then (1 : Int32) else (if (rm s7.1 (2 : Int32)) = 0 then (1 : Int32) else (0 : Int32))))) : Int32) (fun j2 => Lt (((if (f_X12_has x0 s7.2.2) = 0 then (s7.1 + (1 : Int32)) else (0 : Int32))) : Int32) (fun j6 => Lt (s7.2.2 + (1 : Int32)) (fun v8 => some (.inl (j6, j2, v8))))))
def f_X12_isChange (x0 : Int32) (x1 : Int32) : Option (Int32) :=
  Bd (Lp (b_X12_isChange_7 x0 x1) 100000 ((0 : Int32), (1 : Int32), (0 : Int32))) (fun e9 => (if e9.2 = 0 then some (0 : Int32) else (if (rm e9.1 (2 : Int32)) = 0 then some (1 : Int32) else some (0 : Int32))))
set_option maxRecDepth 100000 in
set_option maxHeartbeats 4000000 in
theorem c_X12_isChange {l : Launch} {D : va_G} {an : An} {b : Nat} {x0 : Int32} {x1 : Int32}  {M : Mm} {r : Int32} (h : f_X12_isChange x0 x1 = some r) : Ct l D an b 0 yX12_isChange cX12_isChange 5 (some .boolean) 2 [.int x0, .int x1] KDF M (some (.int r)) KDF M := by
  refine CtX.mk (as := fun b => [.int x0, .int x1]) (rv := fun b => (some (.int r))) (by decide) (fun b => Nat.le_of_ble_eq_true rfl) ⟨Nat.le_refl _, Nat.le_refl _⟩ (fun x X hR Z hN _ _ => ?_)
  have X : Ok x cX12_isChange 5 RX12 (some .boolean) := X
  have G : Gz x 5 0 [(0, .int x0), (1, .int x1)] [] KDF M (f_X12_isChange x0 x1) (PsI x KDF M) := by
    unfold f_X12_isChange
    refine g1 (pc' := 1) (w_iconst X (0) dX12_isChange_0 (by decide)) ?_
    refine g1 (pc' := 2) (lv' := [(2, .int (0 : Int32)), (0, .int x0), (1, .int x1)]) (w_istore_n X dX12_isChange_1 rfl (by decide) rfl) ?_
    refine g1 (pc' := 3) (w_iconst X (1) dX12_isChange_2 (by decide)) ?_
    refine g1 (pc' := 4) (lv' := [(3, .int (1 : Int32)), (2, .int (0 : Int32)), (0, .int x0), (1, .int x1)]) (w_istore_n X dX12_isChange_3 rfl (by decide) rfl) ?_
    refine g1 (pc' := 5) (w_iconst X (0) dX12_isChange_4 (by decide)) ?_
    refine g1 (pc' := 7) (lv' := [(4, .int (0 : Int32)), (3, .int (1 : Int32)), (2, .int (0 : Int32)), (0, .int x0), (1, .int x1)]) (w_istore X dX12_isChange_5 (by decide) rfl) ?_
    refine g_pick (lv' := [(0, .int x0), (1, .int x1), (2, .int (0 : Int32)), (3, .int (1 : Int32)), (4, .int (0 : Int32))]) [3, 4, 2, 1, 0] rfl ?_
    refine g_bdJ (J := 61) (fun e9 => [(2, .int e9.1), (3, .int e9.2)]) (fun e9 => []) (fun e9 => M) (g_lp (fun s7 => [(0, .int x0), (1, .int x1), (2, .int s7.1), (3, .int s7.2.1), (4, .int s7.2.2)]) (fun s7 => M) (fun s7 => ?_) 100000 ((0 : Int32), (1 : Int32), (0 : Int32))) (fun e9 => ?_)
    · show Gz x 5 7 [(0, .int x0), (1, .int x1), (2, .int s7.1), (3, .int s7.2.1), (4, .int s7.2.2)] [] KDF M (b_X12_isChange_7 x0 x1 s7) _
      unfold b_X12_isChange_7
      refine g1 (pc' := 9) (w_iload X dX12_isChange_7 4 rfl) ?_
      refine g1 (pc' := 10) (w_iload_n X dX12_isChange_9 rfl 1 rfl) ?_
      refine g_if (pcT := 61) (pcF := 13) (w_icmp_ge (tgt := 61) X dX12_isChange_10 (by decide)) (fun h1 => ?_) (fun h1 => ?_)
      · refine g_inr ?_
        exact g_end [2, 3] rfl rfl rfl
      · refine g1 (pc' := 14) (w_iload_n X dX12_isChange_13 rfl 3 rfl) ?_
        refine g_ltJ (J := 37) (fun j2 => [(0, .int x0), (1, .int x1), (2, .int s7.1), (4, .int s7.2.2)]) (fun j2 => [.int j2]) (fun j2 => M) ?_ (fun j2 => ?_)
        · refine g_ifS (pcT := 36) (pcF := 17) (w_if_eq (tgt := 36) X dX12_isChange_14 (by decide)) (fun h3 => ?_) (fun h3 => ?_)
          · refine g1 (pc' := 37) (w_iconst X (0) dX12_isChange_36 (by decide)) ?_
            exact g_end [0, 1, 2, 4] rfl rfl rfl
          · refine g1 (pc' := 18) (w_iload_n X dX12_isChange_17 rfl 0 rfl) ?_
            refine g1 (pc' := 20) (w_iload X dX12_isChange_18 4 rfl) ?_
            refine g1 (pc' := 23) (k_X12_has X hR hN Z  mw_1099 (by decide) (Nat.le_of_ble_eq_true rfl) dX12_isChange_20) ?_
            refine g_ifS (pcT := 32) (pcF := 26) (w_if_eq (tgt := 32) X dX12_isChange_23 (by decide)) (fun h4 => ?_) (fun h4 => ?_)
            · refine g1 (pc' := 33) (w_iconst X (1) dX12_isChange_32 (by decide)) ?_
              refine g1 (pc' := 37) (w_goto X dX12_isChange_33 (by decide)) ?_
              exact g_end [0, 1, 2, 4] rfl rfl rfl
            · refine g1 (pc' := 27) (w_iload_n X dX12_isChange_26 rfl 2 rfl) ?_
              refine g1 (pc' := 28) (w_iconst X (2) dX12_isChange_27 (by decide)) ?_
              refine g1 (pc' := 29) (w_irem X dX12_isChange_28 (by decide)) ?_
              refine g_ifS (pcT := 32) (pcF := 36) (w_if_ne (tgt := 36) X dX12_isChange_29 (by decide)) (fun h5 => ?_) (fun h5 => ?_)
              · refine g1 (pc' := 33) (w_iconst X (1) dX12_isChange_32 (by decide)) ?_
                refine g1 (pc' := 37) (w_goto X dX12_isChange_33 (by decide)) ?_
                exact g_end [0, 1, 2, 4] rfl rfl rfl
              · refine g1 (pc' := 37) (w_iconst X (0) dX12_isChange_36 (by decide)) ?_
                exact g_end [0, 1, 2, 4] rfl rfl rfl
        · show Gz x 5 37 [(0, .int x0), (1, .int x1), (2, .int s7.1), (4, .int s7.2.2)] [.int j2] KDF M _ _
          refine g1 (pc' := 38) (lv' := [(3, .int j2), (0, .int x0), (1, .int x1), (2, .int s7.1), (4, .int s7.2.2)]) (w_istore_n X dX12_isChange_37 rfl (by decide) rfl) ?_
          refine g1 (pc' := 39) (w_iload_n X dX12_isChange_38 rfl 1 rfl) ?_
          refine g1 (pc' := 41) (w_iload X dX12_isChange_39 4 rfl) ?_
          refine g1 (pc' := 44) (k_X12_has X hR hN Z  mw_1099 (by decide) (Nat.le_of_ble_eq_true rfl) dX12_isChange_41) ?_
          refine g_ltJ (J := 54) (fun j6 => [(0, .int x0), (1, .int x1), (3, .int j2), (4, .int s7.2.2)]) (fun j6 => [.int j6]) (fun j6 => M) ?_ (fun j6 => ?_)
          · refine g_ifS (pcT := 51) (pcF := 47) (w_if_eq (tgt := 51) X dX12_isChange_44 (by decide)) (fun h7 => ?_) (fun h7 => ?_)
            · refine g1 (pc' := 52) (w_iload_n X dX12_isChange_51 rfl 3 rfl) ?_
              refine g1 (pc' := 53) (w_iconst X (1) dX12_isChange_52 (by decide)) ?_
              refine g1 (pc' := 54) (w_iadd X dX12_isChange_53) ?_
              exact g_end [1, 2, 0, 4] rfl rfl rfl
            · refine g1 (pc' := 48) (w_iconst X (0) dX12_isChange_47 (by decide)) ?_
              refine g1 (pc' := 54) (w_goto X dX12_isChange_48 (by decide)) ?_
              exact g_end [1, 2, 0, 4] rfl rfl rfl
          · show Gz x 5 54 [(0, .int x0), (1, .int x1), (3, .int j2), (4, .int s7.2.2)] [.int j6] KDF M _ _
            refine g1 (pc' := 55) (lv' := [(2, .int j6), (0, .int x0), (1, .int x1), (3, .int j2), (4, .int s7.2.2)]) (w_istore_n X dX12_isChange_54 rfl (by decide) rfl) ?_
            refine g_lt (pc' := 58) (fun v8 => [(4, .int v8), (2, .int j6), (0, .int x0), (1, .int x1), (3, .int j2)]) (fun v8 => []) (fun v8 => M) (w_iinc X dX12_isChange_55 4 rfl rfl (by decide) rfl) (fun v8 => ?_)
            show Gz x 5 58 [(4, .int v8), (2, .int j6), (0, .int x0), (1, .int x1), (3, .int j2)] [] KDF M _ _
            refine g1 (pc' := 7) (w_goto X dX12_isChange_58 (by decide)) ?_
            refine g_inl ?_
            exact g_end [2, 3, 1, 4, 0] rfl rfl rfl
    · show Gz x 5 61 [(2, .int e9.1), (3, .int e9.2)] [] KDF M _ _
      refine g1 (pc' := 62) (w_iload_n X dX12_isChange_61 rfl 1 rfl) ?_
      refine g_if (pcT := 75) (pcF := 65) (w_if_eq (tgt := 75) X dX12_isChange_62 (by decide)) (fun h10 => ?_) (fun h10 => ?_)
      · refine g1 (pc' := 76) (w_iconst X (0) dX12_isChange_75 (by decide)) ?_
        exact g_rZ X zb0 dX12_isChange_76
      · refine g1 (pc' := 66) (w_iload_n X dX12_isChange_65 rfl 0 rfl) ?_
        refine g1 (pc' := 67) (w_iconst X (2) dX12_isChange_66 (by decide)) ?_
        refine g1 (pc' := 68) (w_irem X dX12_isChange_67 (by decide)) ?_
        refine g_if (pcT := 71) (pcF := 75) (w_if_ne (tgt := 75) X dX12_isChange_68 (by decide)) (fun h11 => ?_) (fun h11 => ?_)
        · refine g1 (pc' := 72) (w_iconst X (1) dX12_isChange_71 (by decide)) ?_
          refine g1 (pc' := 76) (w_goto X dX12_isChange_72 (by decide)) ?_
          exact g_rZ X zb1 dX12_isChange_76
        · refine g1 (pc' := 76) (w_iconst X (0) dX12_isChange_75 (by decide)) ?_
          exact g_rZ X zb0 dX12_isChange_76
  exact G _ h _ rfl
theorem k_X12_isChange {x : Cxt} {cc : ByteArray} {nL : Nat} {own : String} {ret : Option FieldType} (X : Ok x cc nL own ret) {d : Nat} (hR : Rm x d KDF) (hN : Nst x) (Z : xz x = 0) {pc : Nat} {lv : List (Nat × Value)} {rest : List Value} {M : Mm} {x0 : Int32} {x1 : Int32}  {idx : Nat} (hw : Cond.methodLink own idx yX12_isChange ∈ tbG) (hdd : 2 + 1 ≤ d) (hrm : (rest.map fun v => v.category).sum ≤ 8) (hd : decode cc pc = .ok (.invokestatic idx, 3)) {r : Int32} (h : f_X12_isChange x0 x1 = some r) : StpZ x nL pc lv (.int x1 :: .int x0 :: rest) KDF M (pc + 3) lv (.int r :: rest) KDF M :=
  w_callS (st := []) (As := [.int x0, .int x1]) X hR hN (CtX0 Z (c_X12_isChange  h)) ⟨Nat.le_refl _, Nat.le_refl _⟩ ⟨Nat.le_refl _, Nat.le_refl _⟩ hw mw_1097 mw_72 mw_1098 (n := 2) (by decide +kernel) rfl hdd (by decide) hrm hd
def b_X12_isHead_2 (o0 : Nat) (s2 : Int32 × Mm) : Option ((Int32 × Mm) ⊕ ((Int32 × Mm) ⊕ (Mm))) :=
  (if s2.1 = 0 then some (.inr (.inr s2.2)) else (if (s2.2 o0 9) = (6 : Int32) then Bd (f_X12_fails o0 (1 : Int32) s2.2) (fun r3 => Gd (zb r3.1) (some (.inr (.inl (r3.1, r3.2))))) else Bd (f_X12_isNumber o0 (1 : Int32) (20 : Int32) s2.2) (fun r5 => (if r5.1 = 0 then some (.inr (.inl ((0 : Int32), r5.2))) else Gd (ib (r5.2 o0 9) 6) (Lt (st2 r5.2 130 (ix (r5.2 o0 9)) (r5.2 o0 5)) (fun M8 => Lt (st2 M8 o0 9 ((M8 o0 9) + (1 : Int32))) (fun M9 => Bd (f_X12_nextToken o0 M9) (fun r10 => Lt (((if (r10 o0 4) = (44 : Int32) then (1 : Int32) else (0 : Int32))) : Int32) (fun j11 => some (.inl (j11, r10)))))))))))
def f_X12_isHead (o0 : Nat) (M : Mm) : Option (Int32 × Mm) :=
  BdS (Lp (b_X12_isHead_2 o0) 100000 ((1 : Int32), M)) (fun e13 => (if (e13 o0 4) = (59 : Int32) then (if (2 : Int32) < (e13 o0 9) then some ((1 : Int32), e13) else Bd (f_X12_fails o0 (1 : Int32) e13) (fun r16 => (if r16.1 = 0 then some ((0 : Int32), r16.2) else some ((1 : Int32), r16.2)))) else Bd (f_X12_fails o0 (1 : Int32) e13) (fun r18 => (if r18.1 = 0 then some ((0 : Int32), r18.2) else some ((1 : Int32), r18.2)))))
set_option maxRecDepth 100000 in
set_option maxHeartbeats 4000000 in
theorem c_X12_isHead {l : Launch} {D : va_G} {an : An} {b : Nat} {o0 : Nat} (hk0 : KDF[o0]? = some (12, 0)) {M : Mm} {r : Int32} {M' : Mm} (h : f_X12_isHead o0 M = some (r, M')) : Ct l D an b 0 yX12_isHead cX12_isHead 2 (some .boolean) 4 [.ref (b + o0)] KDF M (some (.int r)) KDF M' := by
  refine CtX.mk (as := fun b => [.ref (b + o0)]) (rv := fun b => (some (.int r))) (by decide) (fun b => Nat.le_of_ble_eq_true rfl) ⟨Nat.le_refl _, Nat.le_refl _⟩ (fun x X hR Z hN _ _ => ?_)
  have X : Ok x cX12_isHead 2 RX12 (some .boolean) := X
  have G : Gz x 2 0 [(0, .ref (xb x + o0))] [] KDF M (f_X12_isHead o0 M) (PsI2 x KDF) := by
    unfold f_X12_isHead
    refine g1 (pc' := 1) (w_iconst X (1) dX12_isHead_0 (by decide)) ?_
    refine g1 (pc' := 2) (lv' := [(1, .int (1 : Int32)), (0, .ref (xb x + o0))]) (w_istore_n X dX12_isHead_1 rfl (by decide) rfl) ?_
    refine g_pick (lv' := [(0, .ref (xb x + o0)), (1, .int (1 : Int32))]) [1, 0] rfl ?_
    refine g_bdS (J := 78) (fun e13 => [(0, .ref (xb x + o0))]) (fun e13 => []) (fun e13 => e13) (g_lp (fun s2 => [(0, .ref (xb x + o0)), (1, .int s2.1)]) (fun s2 => s2.2) (fun s2 => ?_) 100000 ((1 : Int32), M)) (fun e13 => ?_)
    · show Gz x 2 2 [(0, .ref (xb x + o0)), (1, .int s2.1)] [] KDF s2.2 (b_X12_isHead_2 o0 s2) _
      unfold b_X12_isHead_2
      refine g1 (pc' := 3) (w_iload_n X dX12_isHead_2 rfl 1 rfl) ?_
      refine g_if (pcT := 78) (pcF := 6) (w_if_eq (tgt := 78) X dX12_isHead_3 (by decide)) (fun h1 => ?_) (fun h1 => ?_)
      · refine g_inr ?_
        refine g_inr ?_
        exact g_end [0] rfl rfl rfl
      · refine g1 (pc' := 7) (w_aload_n X dX12_isHead_6 rfl 0 rfl) ?_
        refine g1 (pc' := 10) (gt_12_9 X hk0 mw_938 dX12_isHead_7) ?_
        refine g1 (pc' := 12) (w_bipush X (6) dX12_isHead_10 (by decide)) ?_
        refine g_if (pcT := 15) (pcF := 21) (w_icmp_ne (tgt := 21) X dX12_isHead_12 (by decide)) (fun h2 => ?_) (fun h2 => ?_)
        · refine g1 (pc' := 16) (w_aload_n X dX12_isHead_15 rfl 0 rfl) ?_
          refine g1 (pc' := 17) (w_iconst X (1) dX12_isHead_16 (by decide)) ?_
          refine g_bd (pc' := 20) (fun r3 => [(0, .ref (xb x + o0)), (1, .int s2.1)]) (fun r3 => [.int r3.1]) (fun r3 => r3.2) (fun r3 h => k_X12_fails X hR hN Z hk0 mw_1076 (by decide) (Nat.le_of_ble_eq_true rfl) dX12_isHead_17 h) (fun r3 => ?_)
          show Gz x 2 20 [(0, .ref (xb x + o0)), (1, .int s2.1)] [.int r3.1] KDF r3.2 _ _
          refine g_gd (fun h4 => ?_)
          refine g_inr ?_
          refine g_inl ?_
          exact g_rZ2 X h4 dX12_isHead_20
        · refine g1 (pc' := 22) (w_aload_n X dX12_isHead_21 rfl 0 rfl) ?_
          refine g1 (pc' := 23) (w_iconst X (1) dX12_isHead_22 (by decide)) ?_
          refine g1 (pc' := 25) (w_bipush X (20) dX12_isHead_23 (by decide)) ?_
          refine g_bd (pc' := 28) (fun r5 => [(0, .ref (xb x + o0)), (1, .int s2.1)]) (fun r5 => [.int r5.1]) (fun r5 => r5.2) (fun r5 h => k_X12_isNumber X hR hN Z hk0 mw_1084 (by decide) (Nat.le_of_ble_eq_true rfl) dX12_isHead_25 h) (fun r5 => ?_)
          show Gz x 2 28 [(0, .ref (xb x + o0)), (1, .int s2.1)] [.int r5.1] KDF r5.2 _ _
          refine g_if (pcT := 31) (pcF := 33) (w_if_ne (tgt := 33) X dX12_isHead_28 (by decide)) (fun h6 => ?_) (fun h6 => ?_)
          · refine g1 (pc' := 32) (w_iconst X (0) dX12_isHead_31 (by decide)) ?_
            refine g_inr ?_
            refine g_inl ?_
            exact g_rZ2 X zb0 dX12_isHead_32
          · refine g1 (pc' := 34) (w_aload_n X dX12_isHead_33 rfl 0 rfl) ?_
            refine g1 (pc' := 37) (gt_12_13 X hk0 mw_942 dX12_isHead_34) ?_
            refine g1 (pc' := 38) (w_aload_n X dX12_isHead_37 rfl 0 rfl) ?_
            refine g1 (pc' := 41) (gt_12_9 X hk0 mw_938 dX12_isHead_38) ?_
            refine g1 (pc' := 42) (w_aload_n X dX12_isHead_41 rfl 0 rfl) ?_
            refine g1 (pc' := 45) (gt_12_5 X hk0 mw_934 dX12_isHead_42) ?_
            refine g_gd (fun h7 => ?_)
            refine g_lt (pc' := 46) (fun M8 => [(0, .ref (xb x + o0)), (1, .int s2.1)]) (fun M8 => []) (fun M8 => M8) (w_iast X Z kd_130 h7 dX12_isHead_45) (fun M8 => ?_)
            show Gz x 2 46 [(0, .ref (xb x + o0)), (1, .int s2.1)] [] KDF M8 _ _
            refine g1 (pc' := 47) (w_aload_n X dX12_isHead_46 rfl 0 rfl) ?_
            refine g1 (pc' := 48) (w_dup X dX12_isHead_47 rfl) ?_
            refine g1 (pc' := 51) (gt_12_9 X hk0 mw_938 dX12_isHead_48) ?_
            refine g1 (pc' := 52) (w_iconst X (1) dX12_isHead_51 (by decide)) ?_
            refine g1 (pc' := 53) (w_iadd X dX12_isHead_52) ?_
            refine g_lt (pc' := 56) (fun M9 => [(0, .ref (xb x + o0)), (1, .int s2.1)]) (fun M9 => []) (fun M9 => M9) (pt_12_9 X Z hk0 mw_938 dX12_isHead_53) (fun M9 => ?_)
            show Gz x 2 56 [(0, .ref (xb x + o0)), (1, .int s2.1)] [] KDF M9 _ _
            refine g1 (pc' := 57) (w_aload_n X dX12_isHead_56 rfl 0 rfl) ?_
            refine g_bd (pc' := 60) (fun r10 => [(0, .ref (xb x + o0)), (1, .int s2.1)]) (fun r10 => []) (fun r10 => r10) (fun r10 h => k_X12_nextToken X hR hN Z hk0 mw_1068 (by decide) (Nat.le_of_ble_eq_true rfl) dX12_isHead_57 h) (fun r10 => ?_)
            show Gz x 2 60 [(0, .ref (xb x + o0)), (1, .int s2.1)] [] KDF r10 _ _
            refine g1 (pc' := 61) (w_aload_n X dX12_isHead_60 rfl 0 rfl) ?_
            refine g1 (pc' := 64) (gt_12_4 X hk0 mw_933 dX12_isHead_61) ?_
            refine g1 (pc' := 66) (w_bipush X (44) dX12_isHead_64 (by decide)) ?_
            refine g_ltJ (J := 74) (fun j11 => [(0, .ref (xb x + o0))]) (fun j11 => [.int j11]) (fun j11 => r10) ?_ (fun j11 => ?_)
            · refine g_ifS (pcT := 69) (pcF := 73) (w_icmp_ne (tgt := 73) X dX12_isHead_66 (by decide)) (fun h12 => ?_) (fun h12 => ?_)
              · refine g1 (pc' := 70) (w_iconst X (1) dX12_isHead_69 (by decide)) ?_
                refine g1 (pc' := 74) (w_goto X dX12_isHead_70 (by decide)) ?_
                exact g_end [0] rfl rfl rfl
              · refine g1 (pc' := 74) (w_iconst X (0) dX12_isHead_73 (by decide)) ?_
                exact g_end [0] rfl rfl rfl
            · show Gz x 2 74 [(0, .ref (xb x + o0))] [.int j11] KDF r10 _ _
              refine g1 (pc' := 75) (lv' := [(1, .int j11), (0, .ref (xb x + o0))]) (w_istore_n X dX12_isHead_74 rfl (by decide) rfl) ?_
              refine g1 (pc' := 2) (w_goto X dX12_isHead_75 (by decide)) ?_
              refine g_inl ?_
              exact g_end [1, 0] rfl rfl rfl
    · show Gz x 2 78 [(0, .ref (xb x + o0))] [] KDF e13 _ _
      refine g1 (pc' := 79) (w_aload_n X dX12_isHead_78 rfl 0 rfl) ?_
      refine g1 (pc' := 82) (gt_12_4 X hk0 mw_933 dX12_isHead_79) ?_
      refine g1 (pc' := 84) (w_bipush X (59) dX12_isHead_82 (by decide)) ?_
      refine g_if (pcT := 87) (pcF := 95) (w_icmp_ne (tgt := 95) X dX12_isHead_84 (by decide)) (fun h14 => ?_) (fun h14 => ?_)
      · refine g1 (pc' := 88) (w_aload_n X dX12_isHead_87 rfl 0 rfl) ?_
        refine g1 (pc' := 91) (gt_12_9 X hk0 mw_938 dX12_isHead_88) ?_
        refine g1 (pc' := 92) (w_iconst X (2) dX12_isHead_91 (by decide)) ?_
        refine g_if (pcT := 103) (pcF := 95) (w_icmp_gt (tgt := 103) X dX12_isHead_92 (by decide)) (fun h15 => ?_) (fun h15 => ?_)
        · refine g1 (pc' := 104) (w_iconst X (1) dX12_isHead_103 (by decide)) ?_
          refine g1 (pc' := 108) (w_goto X dX12_isHead_104 (by decide)) ?_
          exact g_rZ2 X zb1 dX12_isHead_108
        · refine g1 (pc' := 96) (w_aload_n X dX12_isHead_95 rfl 0 rfl) ?_
          refine g1 (pc' := 97) (w_iconst X (1) dX12_isHead_96 (by decide)) ?_
          refine g_bd (pc' := 100) (fun r16 => [(0, .ref (xb x + o0))]) (fun r16 => [.int r16.1]) (fun r16 => r16.2) (fun r16 h => k_X12_fails X hR hN Z hk0 mw_1076 (by decide) (Nat.le_of_ble_eq_true rfl) dX12_isHead_97 h) (fun r16 => ?_)
          show Gz x 2 100 [(0, .ref (xb x + o0))] [.int r16.1] KDF r16.2 _ _
          refine g_if (pcT := 107) (pcF := 103) (w_if_eq (tgt := 107) X dX12_isHead_100 (by decide)) (fun h17 => ?_) (fun h17 => ?_)
          · refine g1 (pc' := 108) (w_iconst X (0) dX12_isHead_107 (by decide)) ?_
            exact g_rZ2 X zb0 dX12_isHead_108
          · refine g1 (pc' := 104) (w_iconst X (1) dX12_isHead_103 (by decide)) ?_
            refine g1 (pc' := 108) (w_goto X dX12_isHead_104 (by decide)) ?_
            exact g_rZ2 X zb1 dX12_isHead_108
      · refine g1 (pc' := 96) (w_aload_n X dX12_isHead_95 rfl 0 rfl) ?_
        refine g1 (pc' := 97) (w_iconst X (1) dX12_isHead_96 (by decide)) ?_
        refine g_bd (pc' := 100) (fun r18 => [(0, .ref (xb x + o0))]) (fun r18 => [.int r18.1]) (fun r18 => r18.2) (fun r18 h => k_X12_fails X hR hN Z hk0 mw_1076 (by decide) (Nat.le_of_ble_eq_true rfl) dX12_isHead_97 h) (fun r18 => ?_)
        show Gz x 2 100 [(0, .ref (xb x + o0))] [.int r18.1] KDF r18.2 _ _
        refine g_if (pcT := 107) (pcF := 103) (w_if_eq (tgt := 107) X dX12_isHead_100 (by decide)) (fun h19 => ?_) (fun h19 => ?_)
        · refine g1 (pc' := 108) (w_iconst X (0) dX12_isHead_107 (by decide)) ?_
          exact g_rZ2 X zb0 dX12_isHead_108
        · refine g1 (pc' := 104) (w_iconst X (1) dX12_isHead_103 (by decide)) ?_
          refine g1 (pc' := 108) (w_goto X dX12_isHead_104 (by decide)) ?_
          exact g_rZ2 X zb1 dX12_isHead_108
  exact G _ h _ rfl
theorem k_X12_isHead {x : Cxt} {cc : ByteArray} {nL : Nat} {own : String} {ret : Option FieldType} (X : Ok x cc nL own ret) {d : Nat} (hR : Rm x d KDF) (hN : Nst x) (Z : xz x = 0) {pc : Nat} {lv : List (Nat × Value)} {rest : List Value} {M : Mm} {o0 : Nat} (hk0 : KDF[o0]? = some (12, 0)) {idx : Nat} (hw : Cond.methodLink own idx yX12_isHead ∈ tbG) (hdd : 4 + 1 ≤ d) (hrm : (rest.map fun v => v.category).sum ≤ 8) (hd : decode cc pc = .ok (.invokevirtual idx, 3)) {r : Int32} {M' : Mm} (h : f_X12_isHead o0 M = some (r, M')) : StpZ x nL pc lv (.ref (xb x + o0) :: rest) KDF M (pc + 3) lv (.int r :: rest) KDF M' :=
  w_callV (st := []) (As := []) X hR hN (CtX0 Z (c_X12_isHead hk0 h)) ⟨Nat.le_refl _, Nat.le_refl _⟩ ⟨Nat.le_refl _, Nat.le_refl _⟩ hk0 (ci := 12) (fs := fs_12 o0) (fun _ _ _ => rfl) rfl hw mw_1082 mw_27 mw_72 mw_1083 (n := 0) (by decide +kernel) rfl hdd (by decide) hrm hd
def f_X12_isPart (o0 : Nat) (M : Mm) : Option (Int32 × Mm) :=
  Bd (f_X12_isNumber o0 (0 : Int32) ((sl (1 : Int32) (M o0 9)) - (1 : Int32)) M) (fun r1 => (if r1.1 = 0 then some ((0 : Int32), r1.2) else Bd (f_X12_isChange (r1.2 o0 5) (r1.2 o0 9)) (fun r3 => (if r3 = 0 then Bd (f_X12_fails o0 (4 : Int32) r1.2) (fun r5 => (if r5.1 = 0 then some ((0 : Int32), r5.2) else some ((1 : Int32), r5.2))) else some ((1 : Int32), r1.2)))))
set_option maxRecDepth 100000 in
set_option maxHeartbeats 4000000 in
theorem c_X12_isPart {l : Launch} {D : va_G} {an : An} {b : Nat} {o0 : Nat} (hk0 : KDF[o0]? = some (12, 0)) {M : Mm} {r : Int32} {M' : Mm} (h : f_X12_isPart o0 M = some (r, M')) : Ct l D an b 0 yX12_isPart cX12_isPart 1 (some .boolean) 4 [.ref (b + o0)] KDF M (some (.int r)) KDF M' := by
  refine CtX.mk (as := fun b => [.ref (b + o0)]) (rv := fun b => (some (.int r))) (by decide) (fun b => Nat.le_of_ble_eq_true rfl) ⟨Nat.le_refl _, Nat.le_refl _⟩ (fun x X hR Z hN _ _ => ?_)
  have X : Ok x cX12_isPart 1 RX12 (some .boolean) := X
  have G : Gz x 1 0 [(0, .ref (xb x + o0))] [] KDF M (f_X12_isPart o0 M) (PsI2 x KDF) := by
    unfold f_X12_isPart
    refine g1 (pc' := 1) (w_aload_n X dX12_isPart_0 rfl 0 rfl) ?_
    refine g1 (pc' := 2) (w_iconst X (0) dX12_isPart_1 (by decide)) ?_
    refine g1 (pc' := 3) (w_iconst X (1) dX12_isPart_2 (by decide)) ?_
    refine g1 (pc' := 4) (w_aload_n X dX12_isPart_3 rfl 0 rfl) ?_
    refine g1 (pc' := 7) (gt_12_9 X hk0 mw_938 dX12_isPart_4) ?_
    refine g1 (pc' := 8) (w_ishl X dX12_isPart_7) ?_
    refine g1 (pc' := 9) (w_iconst X (1) dX12_isPart_8 (by decide)) ?_
    refine g1 (pc' := 10) (w_isub X dX12_isPart_9) ?_
    refine g_bd (pc' := 13) (fun r1 => [(0, .ref (xb x + o0))]) (fun r1 => [.int r1.1]) (fun r1 => r1.2) (fun r1 h => k_X12_isNumber X hR hN Z hk0 mw_1084 (by decide) (Nat.le_of_ble_eq_true rfl) dX12_isPart_10 h) (fun r1 => ?_)
    show Gz x 1 13 [(0, .ref (xb x + o0))] [.int r1.1] KDF r1.2 _ _
    refine g_if (pcT := 16) (pcF := 18) (w_if_ne (tgt := 18) X dX12_isPart_13 (by decide)) (fun h2 => ?_) (fun h2 => ?_)
    · refine g1 (pc' := 17) (w_iconst X (0) dX12_isPart_16 (by decide)) ?_
      exact g_rZ2 X zb0 dX12_isPart_17
    · refine g1 (pc' := 19) (w_aload_n X dX12_isPart_18 rfl 0 rfl) ?_
      refine g1 (pc' := 22) (gt_12_5 X hk0 mw_934 dX12_isPart_19) ?_
      refine g1 (pc' := 23) (w_aload_n X dX12_isPart_22 rfl 0 rfl) ?_
      refine g1 (pc' := 26) (gt_12_9 X hk0 mw_938 dX12_isPart_23) ?_
      refine g_bd (pc' := 29) (fun r3 => [(0, .ref (xb x + o0))]) (fun r3 => [.int r3]) (fun r3 => r1.2) (fun r3 h => k_X12_isChange X hR hN Z  mw_1096 (by decide) (Nat.le_of_ble_eq_true rfl) dX12_isPart_26 h) (fun r3 => ?_)
      show Gz x 1 29 [(0, .ref (xb x + o0))] [.int r3] KDF r1.2 _ _
      refine g_if (pcT := 32) (pcF := 40) (w_if_ne (tgt := 40) X dX12_isPart_29 (by decide)) (fun h4 => ?_) (fun h4 => ?_)
      · refine g1 (pc' := 33) (w_aload_n X dX12_isPart_32 rfl 0 rfl) ?_
        refine g1 (pc' := 34) (w_iconst X (4) dX12_isPart_33 (by decide)) ?_
        refine g_bd (pc' := 37) (fun r5 => [(0, .ref (xb x + o0))]) (fun r5 => [.int r5.1]) (fun r5 => r5.2) (fun r5 h => k_X12_fails X hR hN Z hk0 mw_1076 (by decide) (Nat.le_of_ble_eq_true rfl) dX12_isPart_34 h) (fun r5 => ?_)
        show Gz x 1 37 [(0, .ref (xb x + o0))] [.int r5.1] KDF r5.2 _ _
        refine g_if (pcT := 44) (pcF := 40) (w_if_eq (tgt := 44) X dX12_isPart_37 (by decide)) (fun h6 => ?_) (fun h6 => ?_)
        · refine g1 (pc' := 45) (w_iconst X (0) dX12_isPart_44 (by decide)) ?_
          exact g_rZ2 X zb0 dX12_isPart_45
        · refine g1 (pc' := 41) (w_iconst X (1) dX12_isPart_40 (by decide)) ?_
          refine g1 (pc' := 45) (w_goto X dX12_isPart_41 (by decide)) ?_
          exact g_rZ2 X zb1 dX12_isPart_45
      · refine g1 (pc' := 41) (w_iconst X (1) dX12_isPart_40 (by decide)) ?_
        refine g1 (pc' := 45) (w_goto X dX12_isPart_41 (by decide)) ?_
        exact g_rZ2 X zb1 dX12_isPart_45
  exact G _ h _ rfl
theorem k_X12_isPart {x : Cxt} {cc : ByteArray} {nL : Nat} {own : String} {ret : Option FieldType} (X : Ok x cc nL own ret) {d : Nat} (hR : Rm x d KDF) (hN : Nst x) (Z : xz x = 0) {pc : Nat} {lv : List (Nat × Value)} {rest : List Value} {M : Mm} {o0 : Nat} (hk0 : KDF[o0]? = some (12, 0)) {idx : Nat} (hw : Cond.methodLink own idx yX12_isPart ∈ tbG) (hdd : 4 + 1 ≤ d) (hrm : (rest.map fun v => v.category).sum ≤ 8) (hd : decode cc pc = .ok (.invokevirtual idx, 3)) {r : Int32} {M' : Mm} (h : f_X12_isPart o0 M = some (r, M')) : StpZ x nL pc lv (.ref (xb x + o0) :: rest) KDF M (pc + 3) lv (.int r :: rest) KDF M' :=
  w_callV (st := []) (As := []) X hR hN (CtX0 Z (c_X12_isPart hk0 h)) ⟨Nat.le_refl _, Nat.le_refl _⟩ ⟨Nat.le_refl _, Nat.le_refl _⟩ hk0 (ci := 12) (fs := fs_12 o0) (fun _ _ _ => rfl) rfl hw mw_1094 mw_30 mw_72 mw_1095 (n := 0) (by decide +kernel) rfl hdd (by decide) hrm hd
def b_X12_isMethod_15 (o0 : Nat) (s15 : Int32 × Mm) : Option ((Int32 × Mm) ⊕ ((Int32 × Mm) ⊕ (Mm))) :=
  (if s15.1 = 0 then some (.inr (.inr s15.2)) else (if (s15.2 o0 10) = (12 : Int32) then Bd (f_X12_fails o0 (1 : Int32) s15.2) (fun r4 => Gd (zb r4.1) (some (.inr (.inl (r4.1, r4.2))))) else Bd (f_X12_isPart o0 s15.2) (fun r6 => (if r6.1 = 0 then some (.inr (.inl ((0 : Int32), r6.2))) else Gd (ib (r6.2 o0 10) 12) (Lt (st2 r6.2 131 (ix (r6.2 o0 10)) (r6.2 o0 5)) (fun M9 => Lt (st2 M9 o0 10 ((M9 o0 10) + (1 : Int32))) (fun M10 => Bd (f_X12_nextToken o0 M10) (fun r11 => Lt (((if (r11 o0 4) = (44 : Int32) then (1 : Int32) else (0 : Int32))) : Int32) (fun j12 => some (.inl (j12, r11)))))))))))
def f_X12_isMethod (o0 : Nat) (M : Mm) : Option (Int32 × Mm) :=
  (if (M o0 10) ≤ 0 then BdS (Lp (b_X12_isMethod_15 o0) 100000 ((1 : Int32), M)) (fun e14 => (if (e14 o0 4) = (59 : Int32) then some ((1 : Int32), e14) else Bd (f_X12_fails o0 (1 : Int32) e14) (fun r16 => (if r16.1 = 0 then some ((0 : Int32), r16.2) else some ((1 : Int32), r16.2))))) else Bd (f_X12_fails o0 (3 : Int32) M) (fun r18 => Gd (zb r18.1) (some (r18.1, r18.2))))
set_option maxRecDepth 100000 in
set_option maxHeartbeats 4000000 in
theorem c_X12_isMethod {l : Launch} {D : va_G} {an : An} {b : Nat} {o0 : Nat} (hk0 : KDF[o0]? = some (12, 0)) {M : Mm} {r : Int32} {M' : Mm} (h : f_X12_isMethod o0 M = some (r, M')) : Ct l D an b 0 yX12_isMethod cX12_isMethod 2 (some .boolean) 5 [.ref (b + o0)] KDF M (some (.int r)) KDF M' := by
  refine CtX.mk (as := fun b => [.ref (b + o0)]) (rv := fun b => (some (.int r))) (by decide) (fun b => Nat.le_of_ble_eq_true rfl) ⟨Nat.le_refl _, Nat.le_refl _⟩ (fun x X hR Z hN _ _ => ?_)
  have X : Ok x cX12_isMethod 2 RX12 (some .boolean) := X
  have G : Gz x 2 0 [(0, .ref (xb x + o0))] [] KDF M (f_X12_isMethod o0 M) (PsI2 x KDF) := by
    unfold f_X12_isMethod
    refine g1 (pc' := 1) (w_aload_n X dX12_isMethod_0 rfl 0 rfl) ?_
    refine g1 (pc' := 4) (gt_12_10 X hk0 mw_939 dX12_isMethod_1) ?_
    refine g_if (pcT := 13) (pcF := 7) (w_if_le (tgt := 13) X dX12_isMethod_4 (by decide)) (fun h1 => ?_) (fun h1 => ?_)
    · refine g1 (pc' := 14) (w_iconst X (1) dX12_isMethod_13 (by decide)) ?_
      refine g1 (pc' := 15) (lv' := [(1, .int (1 : Int32)), (0, .ref (xb x + o0))]) (w_istore_n X dX12_isMethod_14 rfl (by decide) rfl) ?_
      refine g_pick (lv' := [(0, .ref (xb x + o0)), (1, .int (1 : Int32))]) [1, 0] rfl ?_
      refine g_bdS (J := 88) (fun e14 => [(0, .ref (xb x + o0))]) (fun e14 => []) (fun e14 => e14) (g_lp (fun s15 => [(0, .ref (xb x + o0)), (1, .int s15.1)]) (fun s15 => s15.2) (fun s15 => ?_) 100000 ((1 : Int32), M)) (fun e14 => ?_)
      · show Gz x 2 15 [(0, .ref (xb x + o0)), (1, .int s15.1)] [] KDF s15.2 (b_X12_isMethod_15 o0 s15) _
        unfold b_X12_isMethod_15
        refine g1 (pc' := 16) (w_iload_n X dX12_isMethod_15 rfl 1 rfl) ?_
        refine g_if (pcT := 88) (pcF := 19) (w_if_eq (tgt := 88) X dX12_isMethod_16 (by decide)) (fun h2 => ?_) (fun h2 => ?_)
        · refine g_inr ?_
          refine g_inr ?_
          exact g_end [0] rfl rfl rfl
        · refine g1 (pc' := 20) (w_aload_n X dX12_isMethod_19 rfl 0 rfl) ?_
          refine g1 (pc' := 23) (gt_12_10 X hk0 mw_939 dX12_isMethod_20) ?_
          refine g1 (pc' := 25) (w_bipush X (12) dX12_isMethod_23 (by decide)) ?_
          refine g_if (pcT := 28) (pcF := 34) (w_icmp_ne (tgt := 34) X dX12_isMethod_25 (by decide)) (fun h3 => ?_) (fun h3 => ?_)
          · refine g1 (pc' := 29) (w_aload_n X dX12_isMethod_28 rfl 0 rfl) ?_
            refine g1 (pc' := 30) (w_iconst X (1) dX12_isMethod_29 (by decide)) ?_
            refine g_bd (pc' := 33) (fun r4 => [(0, .ref (xb x + o0)), (1, .int s15.1)]) (fun r4 => [.int r4.1]) (fun r4 => r4.2) (fun r4 h => k_X12_fails X hR hN Z hk0 mw_1076 (by decide) (Nat.le_of_ble_eq_true rfl) dX12_isMethod_30 h) (fun r4 => ?_)
            show Gz x 2 33 [(0, .ref (xb x + o0)), (1, .int s15.1)] [.int r4.1] KDF r4.2 _ _
            refine g_gd (fun h5 => ?_)
            refine g_inr ?_
            refine g_inl ?_
            exact g_rZ2 X h5 dX12_isMethod_33
          · refine g1 (pc' := 35) (w_aload_n X dX12_isMethod_34 rfl 0 rfl) ?_
            refine g_bd (pc' := 38) (fun r6 => [(0, .ref (xb x + o0)), (1, .int s15.1)]) (fun r6 => [.int r6.1]) (fun r6 => r6.2) (fun r6 h => k_X12_isPart X hR hN Z hk0 mw_1092 (by decide) (Nat.le_of_ble_eq_true rfl) dX12_isMethod_35 h) (fun r6 => ?_)
            show Gz x 2 38 [(0, .ref (xb x + o0)), (1, .int s15.1)] [.int r6.1] KDF r6.2 _ _
            refine g_if (pcT := 41) (pcF := 43) (w_if_ne (tgt := 43) X dX12_isMethod_38 (by decide)) (fun h7 => ?_) (fun h7 => ?_)
            · refine g1 (pc' := 42) (w_iconst X (0) dX12_isMethod_41 (by decide)) ?_
              refine g_inr ?_
              refine g_inl ?_
              exact g_rZ2 X zb0 dX12_isMethod_42
            · refine g1 (pc' := 44) (w_aload_n X dX12_isMethod_43 rfl 0 rfl) ?_
              refine g1 (pc' := 47) (gt_12_14 X hk0 mw_943 dX12_isMethod_44) ?_
              refine g1 (pc' := 48) (w_aload_n X dX12_isMethod_47 rfl 0 rfl) ?_
              refine g1 (pc' := 51) (gt_12_10 X hk0 mw_939 dX12_isMethod_48) ?_
              refine g1 (pc' := 52) (w_aload_n X dX12_isMethod_51 rfl 0 rfl) ?_
              refine g1 (pc' := 55) (gt_12_5 X hk0 mw_934 dX12_isMethod_52) ?_
              refine g_gd (fun h8 => ?_)
              refine g_lt (pc' := 56) (fun M9 => [(0, .ref (xb x + o0)), (1, .int s15.1)]) (fun M9 => []) (fun M9 => M9) (w_iast X Z kd_131 h8 dX12_isMethod_55) (fun M9 => ?_)
              show Gz x 2 56 [(0, .ref (xb x + o0)), (1, .int s15.1)] [] KDF M9 _ _
              refine g1 (pc' := 57) (w_aload_n X dX12_isMethod_56 rfl 0 rfl) ?_
              refine g1 (pc' := 58) (w_dup X dX12_isMethod_57 rfl) ?_
              refine g1 (pc' := 61) (gt_12_10 X hk0 mw_939 dX12_isMethod_58) ?_
              refine g1 (pc' := 62) (w_iconst X (1) dX12_isMethod_61 (by decide)) ?_
              refine g1 (pc' := 63) (w_iadd X dX12_isMethod_62) ?_
              refine g_lt (pc' := 66) (fun M10 => [(0, .ref (xb x + o0)), (1, .int s15.1)]) (fun M10 => []) (fun M10 => M10) (pt_12_10 X Z hk0 mw_939 dX12_isMethod_63) (fun M10 => ?_)
              show Gz x 2 66 [(0, .ref (xb x + o0)), (1, .int s15.1)] [] KDF M10 _ _
              refine g1 (pc' := 67) (w_aload_n X dX12_isMethod_66 rfl 0 rfl) ?_
              refine g_bd (pc' := 70) (fun r11 => [(0, .ref (xb x + o0)), (1, .int s15.1)]) (fun r11 => []) (fun r11 => r11) (fun r11 h => k_X12_nextToken X hR hN Z hk0 mw_1068 (by decide) (Nat.le_of_ble_eq_true rfl) dX12_isMethod_67 h) (fun r11 => ?_)
              show Gz x 2 70 [(0, .ref (xb x + o0)), (1, .int s15.1)] [] KDF r11 _ _
              refine g1 (pc' := 71) (w_aload_n X dX12_isMethod_70 rfl 0 rfl) ?_
              refine g1 (pc' := 74) (gt_12_4 X hk0 mw_933 dX12_isMethod_71) ?_
              refine g1 (pc' := 76) (w_bipush X (44) dX12_isMethod_74 (by decide)) ?_
              refine g_ltJ (J := 84) (fun j12 => [(0, .ref (xb x + o0))]) (fun j12 => [.int j12]) (fun j12 => r11) ?_ (fun j12 => ?_)
              · refine g_ifS (pcT := 79) (pcF := 83) (w_icmp_ne (tgt := 83) X dX12_isMethod_76 (by decide)) (fun h13 => ?_) (fun h13 => ?_)
                · refine g1 (pc' := 80) (w_iconst X (1) dX12_isMethod_79 (by decide)) ?_
                  refine g1 (pc' := 84) (w_goto X dX12_isMethod_80 (by decide)) ?_
                  exact g_end [0] rfl rfl rfl
                · refine g1 (pc' := 84) (w_iconst X (0) dX12_isMethod_83 (by decide)) ?_
                  exact g_end [0] rfl rfl rfl
              · show Gz x 2 84 [(0, .ref (xb x + o0))] [.int j12] KDF r11 _ _
                refine g1 (pc' := 85) (lv' := [(1, .int j12), (0, .ref (xb x + o0))]) (w_istore_n X dX12_isMethod_84 rfl (by decide) rfl) ?_
                refine g1 (pc' := 15) (w_goto X dX12_isMethod_85 (by decide)) ?_
                refine g_inl ?_
                exact g_end [1, 0] rfl rfl rfl
      · show Gz x 2 88 [(0, .ref (xb x + o0))] [] KDF e14 _ _
        refine g1 (pc' := 89) (w_aload_n X dX12_isMethod_88 rfl 0 rfl) ?_
        refine g1 (pc' := 92) (gt_12_4 X hk0 mw_933 dX12_isMethod_89) ?_
        refine g1 (pc' := 94) (w_bipush X (59) dX12_isMethod_92 (by decide)) ?_
        refine g_if (pcT := 105) (pcF := 97) (w_icmp_eq (tgt := 105) X dX12_isMethod_94 (by decide)) (fun h15 => ?_) (fun h15 => ?_)
        · refine g1 (pc' := 106) (w_iconst X (1) dX12_isMethod_105 (by decide)) ?_
          refine g1 (pc' := 110) (w_goto X dX12_isMethod_106 (by decide)) ?_
          exact g_rZ2 X zb1 dX12_isMethod_110
        · refine g1 (pc' := 98) (w_aload_n X dX12_isMethod_97 rfl 0 rfl) ?_
          refine g1 (pc' := 99) (w_iconst X (1) dX12_isMethod_98 (by decide)) ?_
          refine g_bd (pc' := 102) (fun r16 => [(0, .ref (xb x + o0))]) (fun r16 => [.int r16.1]) (fun r16 => r16.2) (fun r16 h => k_X12_fails X hR hN Z hk0 mw_1076 (by decide) (Nat.le_of_ble_eq_true rfl) dX12_isMethod_99 h) (fun r16 => ?_)
          show Gz x 2 102 [(0, .ref (xb x + o0))] [.int r16.1] KDF r16.2 _ _
          refine g_if (pcT := 109) (pcF := 105) (w_if_eq (tgt := 109) X dX12_isMethod_102 (by decide)) (fun h17 => ?_) (fun h17 => ?_)
          · refine g1 (pc' := 110) (w_iconst X (0) dX12_isMethod_109 (by decide)) ?_
            exact g_rZ2 X zb0 dX12_isMethod_110
          · refine g1 (pc' := 106) (w_iconst X (1) dX12_isMethod_105 (by decide)) ?_
            refine g1 (pc' := 110) (w_goto X dX12_isMethod_106 (by decide)) ?_
            exact g_rZ2 X zb1 dX12_isMethod_110
    · refine g1 (pc' := 8) (w_aload_n X dX12_isMethod_7 rfl 0 rfl) ?_
      refine g1 (pc' := 9) (w_iconst X (3) dX12_isMethod_8 (by decide)) ?_
      refine g_bd (pc' := 12) (fun r18 => [(0, .ref (xb x + o0))]) (fun r18 => [.int r18.1]) (fun r18 => r18.2) (fun r18 h => k_X12_fails X hR hN Z hk0 mw_1076 (by decide) (Nat.le_of_ble_eq_true rfl) dX12_isMethod_9 h) (fun r18 => ?_)
      show Gz x 2 12 [(0, .ref (xb x + o0))] [.int r18.1] KDF r18.2 _ _
      refine g_gd (fun h19 => ?_)
      exact g_rZ2 X h19 dX12_isMethod_12
  exact G _ h _ rfl
theorem k_X12_isMethod {x : Cxt} {cc : ByteArray} {nL : Nat} {own : String} {ret : Option FieldType} (X : Ok x cc nL own ret) {d : Nat} (hR : Rm x d KDF) (hN : Nst x) (Z : xz x = 0) {pc : Nat} {lv : List (Nat × Value)} {rest : List Value} {M : Mm} {o0 : Nat} (hk0 : KDF[o0]? = some (12, 0)) {idx : Nat} (hw : Cond.methodLink own idx yX12_isMethod ∈ tbG) (hdd : 5 + 1 ≤ d) (hrm : (rest.map fun v => v.category).sum ≤ 8) (hd : decode cc pc = .ok (.invokevirtual idx, 3)) {r : Int32} {M' : Mm} (h : f_X12_isMethod o0 M = some (r, M')) : StpZ x nL pc lv (.ref (xb x + o0) :: rest) KDF M (pc + 3) lv (.int r :: rest) KDF M' :=
  w_callV (st := []) (As := []) X hR hN (CtX0 Z (c_X12_isMethod hk0 h)) ⟨Nat.le_refl _, Nat.le_refl _⟩ ⟨Nat.le_refl _, Nat.le_refl _⟩ hk0 (ci := 12) (fs := fs_12 o0) (fun _ _ _ => rfl) rfl hw mw_1090 mw_29 mw_72 mw_1091 (n := 0) (by decide +kernel) rfl hdd (by decide) hrm hd
def f_X12_isSuitorItem (o0 : Nat) (M : Mm) : Option (Int32 × Mm) :=
  (if (M o0 11) = (M o0 9) then Bd (f_X12_fails o0 (3 : Int32) M) (fun r2 => Gd (zb r2.1) (some (r2.1, r2.2))) else Bd (f_X12_isNumber o0 (1 : Int32) (20 : Int32) M) (fun r4 => (if r4.1 = 0 then some ((0 : Int32), r4.2) else Gd (ib (r4.2 o0 11) 6) (Lt (st2 r4.2 132 (ix (r4.2 o0 11)) (r4.2 o0 5)) (fun M7 => Lt (st2 M7 o0 11 ((M7 o0 11) + (1 : Int32))) (fun M8 => Bd (f_X12_isEnd o0 M8) (fun r9 => Gd (zb r9.1) (some (r9.1, r9.2)))))))))
set_option maxRecDepth 100000 in
set_option maxHeartbeats 4000000 in
theorem c_X12_isSuitorItem {l : Launch} {D : va_G} {an : An} {b : Nat} {o0 : Nat} (hk0 : KDF[o0]? = some (12, 0)) {M : Mm} {r : Int32} {M' : Mm} (h : f_X12_isSuitorItem o0 M = some (r, M')) : Ct l D an b 0 yX12_isSuitorItem cX12_isSuitorItem 1 (some .boolean) 4 [.ref (b + o0)] KDF M (some (.int r)) KDF M' := by
  refine CtX.mk (as := fun b => [.ref (b + o0)]) (rv := fun b => (some (.int r))) (by decide) (fun b => Nat.le_of_ble_eq_true rfl) ⟨Nat.le_refl _, Nat.le_refl _⟩ (fun x X hR Z hN _ _ => ?_)
  have X : Ok x cX12_isSuitorItem 1 RX12 (some .boolean) := X
  have G : Gz x 1 0 [(0, .ref (xb x + o0))] [] KDF M (f_X12_isSuitorItem o0 M) (PsI2 x KDF) := by
    unfold f_X12_isSuitorItem
    refine g1 (pc' := 1) (w_aload_n X dX12_isSuitorItem_0 rfl 0 rfl) ?_
    refine g1 (pc' := 4) (gt_12_11 X hk0 mw_940 dX12_isSuitorItem_1) ?_
    refine g1 (pc' := 5) (w_aload_n X dX12_isSuitorItem_4 rfl 0 rfl) ?_
    refine g1 (pc' := 8) (gt_12_9 X hk0 mw_938 dX12_isSuitorItem_5) ?_
    refine g_if (pcT := 11) (pcF := 17) (w_icmp_ne (tgt := 17) X dX12_isSuitorItem_8 (by decide)) (fun h1 => ?_) (fun h1 => ?_)
    · refine g1 (pc' := 12) (w_aload_n X dX12_isSuitorItem_11 rfl 0 rfl) ?_
      refine g1 (pc' := 13) (w_iconst X (3) dX12_isSuitorItem_12 (by decide)) ?_
      refine g_bd (pc' := 16) (fun r2 => [(0, .ref (xb x + o0))]) (fun r2 => [.int r2.1]) (fun r2 => r2.2) (fun r2 h => k_X12_fails X hR hN Z hk0 mw_1076 (by decide) (Nat.le_of_ble_eq_true rfl) dX12_isSuitorItem_13 h) (fun r2 => ?_)
      show Gz x 1 16 [(0, .ref (xb x + o0))] [.int r2.1] KDF r2.2 _ _
      refine g_gd (fun h3 => ?_)
      exact g_rZ2 X h3 dX12_isSuitorItem_16
    · refine g1 (pc' := 18) (w_aload_n X dX12_isSuitorItem_17 rfl 0 rfl) ?_
      refine g1 (pc' := 19) (w_iconst X (1) dX12_isSuitorItem_18 (by decide)) ?_
      refine g1 (pc' := 21) (w_bipush X (20) dX12_isSuitorItem_19 (by decide)) ?_
      refine g_bd (pc' := 24) (fun r4 => [(0, .ref (xb x + o0))]) (fun r4 => [.int r4.1]) (fun r4 => r4.2) (fun r4 h => k_X12_isNumber X hR hN Z hk0 mw_1084 (by decide) (Nat.le_of_ble_eq_true rfl) dX12_isSuitorItem_21 h) (fun r4 => ?_)
      show Gz x 1 24 [(0, .ref (xb x + o0))] [.int r4.1] KDF r4.2 _ _
      refine g_if (pcT := 27) (pcF := 29) (w_if_ne (tgt := 29) X dX12_isSuitorItem_24 (by decide)) (fun h5 => ?_) (fun h5 => ?_)
      · refine g1 (pc' := 28) (w_iconst X (0) dX12_isSuitorItem_27 (by decide)) ?_
        exact g_rZ2 X zb0 dX12_isSuitorItem_28
      · refine g1 (pc' := 30) (w_aload_n X dX12_isSuitorItem_29 rfl 0 rfl) ?_
        refine g1 (pc' := 33) (gt_12_15 X hk0 mw_944 dX12_isSuitorItem_30) ?_
        refine g1 (pc' := 34) (w_aload_n X dX12_isSuitorItem_33 rfl 0 rfl) ?_
        refine g1 (pc' := 37) (gt_12_11 X hk0 mw_940 dX12_isSuitorItem_34) ?_
        refine g1 (pc' := 38) (w_aload_n X dX12_isSuitorItem_37 rfl 0 rfl) ?_
        refine g1 (pc' := 41) (gt_12_5 X hk0 mw_934 dX12_isSuitorItem_38) ?_
        refine g_gd (fun h6 => ?_)
        refine g_lt (pc' := 42) (fun M7 => [(0, .ref (xb x + o0))]) (fun M7 => []) (fun M7 => M7) (w_iast X Z kd_132 h6 dX12_isSuitorItem_41) (fun M7 => ?_)
        show Gz x 1 42 [(0, .ref (xb x + o0))] [] KDF M7 _ _
        refine g1 (pc' := 43) (w_aload_n X dX12_isSuitorItem_42 rfl 0 rfl) ?_
        refine g1 (pc' := 44) (w_dup X dX12_isSuitorItem_43 rfl) ?_
        refine g1 (pc' := 47) (gt_12_11 X hk0 mw_940 dX12_isSuitorItem_44) ?_
        refine g1 (pc' := 48) (w_iconst X (1) dX12_isSuitorItem_47 (by decide)) ?_
        refine g1 (pc' := 49) (w_iadd X dX12_isSuitorItem_48) ?_
        refine g_lt (pc' := 52) (fun M8 => [(0, .ref (xb x + o0))]) (fun M8 => []) (fun M8 => M8) (pt_12_11 X Z hk0 mw_940 dX12_isSuitorItem_49) (fun M8 => ?_)
        show Gz x 1 52 [(0, .ref (xb x + o0))] [] KDF M8 _ _
        refine g1 (pc' := 53) (w_aload_n X dX12_isSuitorItem_52 rfl 0 rfl) ?_
        refine g_bd (pc' := 56) (fun r9 => [(0, .ref (xb x + o0))]) (fun r9 => [.int r9.1]) (fun r9 => r9.2) (fun r9 h => k_X12_isEnd X hR hN Z hk0 mw_1106 (by decide) (Nat.le_of_ble_eq_true rfl) dX12_isSuitorItem_53 h) (fun r9 => ?_)
        show Gz x 1 56 [(0, .ref (xb x + o0))] [.int r9.1] KDF r9.2 _ _
        refine g_gd (fun h10 => ?_)
        exact g_rZ2 X h10 dX12_isSuitorItem_56
  exact G _ h _ rfl
theorem k_X12_isSuitorItem {x : Cxt} {cc : ByteArray} {nL : Nat} {own : String} {ret : Option FieldType} (X : Ok x cc nL own ret) {d : Nat} (hR : Rm x d KDF) (hN : Nst x) (Z : xz x = 0) {pc : Nat} {lv : List (Nat × Value)} {rest : List Value} {M : Mm} {o0 : Nat} (hk0 : KDF[o0]? = some (12, 0)) {idx : Nat} (hw : Cond.methodLink own idx yX12_isSuitorItem ∈ tbG) (hdd : 4 + 1 ≤ d) (hrm : (rest.map fun v => v.category).sum ≤ 8) (hd : decode cc pc = .ok (.invokevirtual idx, 3)) {r : Int32} {M' : Mm} (h : f_X12_isSuitorItem o0 M = some (r, M')) : StpZ x nL pc lv (.ref (xb x + o0) :: rest) KDF M (pc + 3) lv (.int r :: rest) KDF M' :=
  w_callV (st := []) (As := []) X hR hN (CtX0 Z (c_X12_isSuitorItem hk0 h)) ⟨Nat.le_refl _, Nat.le_refl _⟩ ⟨Nat.le_refl _, Nat.le_refl _⟩ hk0 (ci := 12) (fs := fs_12 o0) (fun _ _ _ => rfl) rfl hw mw_1104 mw_31 mw_72 mw_1105 (n := 0) (by decide +kernel) rfl hdd (by decide) hrm hd
def f_X12_isCall (o0 : Nat) (M : Mm) : Option (Int32 × Mm) :=
  (if (M o0 12) < 0 then Bd (f_X12_isPart o0 M) (fun r2 => (if r2.1 = 0 then some ((0 : Int32), r2.2) else Lt (st2 r2.2 o0 12 (r2.2 o0 5)) (fun M4 => Bd (f_X12_isEnd o0 M4) (fun r5 => Gd (zb r5.1) (some (r5.1, r5.2)))))) else Bd (f_X12_fails o0 (3 : Int32) M) (fun r7 => Gd (zb r7.1) (some (r7.1, r7.2))))
set_option maxRecDepth 100000 in
set_option maxHeartbeats 4000000 in
theorem c_X12_isCall {l : Launch} {D : va_G} {an : An} {b : Nat} {o0 : Nat} (hk0 : KDF[o0]? = some (12, 0)) {M : Mm} {r : Int32} {M' : Mm} (h : f_X12_isCall o0 M = some (r, M')) : Ct l D an b 0 yX12_isCall cX12_isCall 1 (some .boolean) 5 [.ref (b + o0)] KDF M (some (.int r)) KDF M' := by
  refine CtX.mk (as := fun b => [.ref (b + o0)]) (rv := fun b => (some (.int r))) (by decide) (fun b => Nat.le_of_ble_eq_true rfl) ⟨Nat.le_refl _, Nat.le_refl _⟩ (fun x X hR Z hN _ _ => ?_)
  have X : Ok x cX12_isCall 1 RX12 (some .boolean) := X
  have G : Gz x 1 0 [(0, .ref (xb x + o0))] [] KDF M (f_X12_isCall o0 M) (PsI2 x KDF) := by
    unfold f_X12_isCall
    refine g1 (pc' := 1) (w_aload_n X dX12_isCall_0 rfl 0 rfl) ?_
    refine g1 (pc' := 4) (gt_12_12 X hk0 mw_941 dX12_isCall_1) ?_
    refine g_if (pcT := 13) (pcF := 7) (w_if_lt (tgt := 13) X dX12_isCall_4 (by decide)) (fun h1 => ?_) (fun h1 => ?_)
    · refine g1 (pc' := 14) (w_aload_n X dX12_isCall_13 rfl 0 rfl) ?_
      refine g_bd (pc' := 17) (fun r2 => [(0, .ref (xb x + o0))]) (fun r2 => [.int r2.1]) (fun r2 => r2.2) (fun r2 h => k_X12_isPart X hR hN Z hk0 mw_1092 (by decide) (Nat.le_of_ble_eq_true rfl) dX12_isCall_14 h) (fun r2 => ?_)
      show Gz x 1 17 [(0, .ref (xb x + o0))] [.int r2.1] KDF r2.2 _ _
      refine g_if (pcT := 20) (pcF := 22) (w_if_ne (tgt := 22) X dX12_isCall_17 (by decide)) (fun h3 => ?_) (fun h3 => ?_)
      · refine g1 (pc' := 21) (w_iconst X (0) dX12_isCall_20 (by decide)) ?_
        exact g_rZ2 X zb0 dX12_isCall_21
      · refine g1 (pc' := 23) (w_aload_n X dX12_isCall_22 rfl 0 rfl) ?_
        refine g1 (pc' := 24) (w_aload_n X dX12_isCall_23 rfl 0 rfl) ?_
        refine g1 (pc' := 27) (gt_12_5 X hk0 mw_934 dX12_isCall_24) ?_
        refine g_lt (pc' := 30) (fun M4 => [(0, .ref (xb x + o0))]) (fun M4 => []) (fun M4 => M4) (pt_12_12 X Z hk0 mw_941 dX12_isCall_27) (fun M4 => ?_)
        show Gz x 1 30 [(0, .ref (xb x + o0))] [] KDF M4 _ _
        refine g1 (pc' := 31) (w_aload_n X dX12_isCall_30 rfl 0 rfl) ?_
        refine g_bd (pc' := 34) (fun r5 => [(0, .ref (xb x + o0))]) (fun r5 => [.int r5.1]) (fun r5 => r5.2) (fun r5 h => k_X12_isEnd X hR hN Z hk0 mw_1106 (by decide) (Nat.le_of_ble_eq_true rfl) dX12_isCall_31 h) (fun r5 => ?_)
        show Gz x 1 34 [(0, .ref (xb x + o0))] [.int r5.1] KDF r5.2 _ _
        refine g_gd (fun h6 => ?_)
        exact g_rZ2 X h6 dX12_isCall_34
    · refine g1 (pc' := 8) (w_aload_n X dX12_isCall_7 rfl 0 rfl) ?_
      refine g1 (pc' := 9) (w_iconst X (3) dX12_isCall_8 (by decide)) ?_
      refine g_bd (pc' := 12) (fun r7 => [(0, .ref (xb x + o0))]) (fun r7 => [.int r7.1]) (fun r7 => r7.2) (fun r7 h => k_X12_fails X hR hN Z hk0 mw_1076 (by decide) (Nat.le_of_ble_eq_true rfl) dX12_isCall_9 h) (fun r7 => ?_)
      show Gz x 1 12 [(0, .ref (xb x + o0))] [.int r7.1] KDF r7.2 _ _
      refine g_gd (fun h8 => ?_)
      exact g_rZ2 X h8 dX12_isCall_12
  exact G _ h _ rfl
theorem k_X12_isCall {x : Cxt} {cc : ByteArray} {nL : Nat} {own : String} {ret : Option FieldType} (X : Ok x cc nL own ret) {d : Nat} (hR : Rm x d KDF) (hN : Nst x) (Z : xz x = 0) {pc : Nat} {lv : List (Nat × Value)} {rest : List Value} {M : Mm} {o0 : Nat} (hk0 : KDF[o0]? = some (12, 0)) {idx : Nat} (hw : Cond.methodLink own idx yX12_isCall ∈ tbG) (hdd : 5 + 1 ≤ d) (hrm : (rest.map fun v => v.category).sum ≤ 8) (hd : decode cc pc = .ok (.invokevirtual idx, 3)) {r : Int32} {M' : Mm} (h : f_X12_isCall o0 M = some (r, M')) : StpZ x nL pc lv (.ref (xb x + o0) :: rest) KDF M (pc + 3) lv (.int r :: rest) KDF M' :=
  w_callV (st := []) (As := []) X hR hN (CtX0 Z (c_X12_isCall hk0 h)) ⟨Nat.le_refl _, Nat.le_refl _⟩ ⟨Nat.le_refl _, Nat.le_refl _⟩ hk0 (ci := 12) (fs := fs_12 o0) (fun _ _ _ => rfl) rfl hw mw_1112 mw_33 mw_72 mw_1113 (n := 0) (by decide +kernel) rfl hdd (by decide) hrm hd
def f_X12_isClause (o0 : Nat) (M : Mm) : Option (Int32 × Mm) :=
  (if (M o0 4) = (98 : Int32) then (if (M o0 9) ≤ 0 then Bd (f_X12_isHead o0 M) (fun r3 => Gd (zb r3.1) (some (r3.1, r3.2))) else Bd (f_X12_fails o0 (3 : Int32) M) (fun r5 => Gd (zb r5.1) (some (r5.1, r5.2)))) else (if (M o0 9) = 0 then Bd (f_X12_fails o0 (1 : Int32) M) (fun r8 => Gd (zb r8.1) (some (r8.1, r8.2))) else (if (M o0 4) = (109 : Int32) then Bd (f_X12_isMethod o0 M) (fun r11 => Gd (zb r11.1) (some (r11.1, r11.2))) else (if (M o0 4) = (114 : Int32) then Bd (f_X12_isSuitorItem o0 M) (fun r14 => Gd (zb r14.1) (some (r14.1, r14.2))) else (if (M o0 4) = (99 : Int32) then Bd (f_X12_isCall o0 M) (fun r17 => Gd (zb r17.1) (some (r17.1, r17.2))) else Bd (f_X12_fails o0 (1 : Int32) M) (fun r19 => Gd (zb r19.1) (some (r19.1, r19.2))))))))
set_option maxRecDepth 100000 in
set_option maxHeartbeats 4000000 in
theorem c_X12_isClause {l : Launch} {D : va_G} {an : An} {b : Nat} {o0 : Nat} (hk0 : KDF[o0]? = some (12, 0)) {M : Mm} {r : Int32} {M' : Mm} (h : f_X12_isClause o0 M = some (r, M')) : Ct l D an b 0 yX12_isClause cX12_isClause 1 (some .boolean) 6 [.ref (b + o0)] KDF M (some (.int r)) KDF M' := by
  refine CtX.mk (as := fun b => [.ref (b + o0)]) (rv := fun b => (some (.int r))) (by decide) (fun b => Nat.le_of_ble_eq_true rfl) ⟨Nat.le_refl _, Nat.le_refl _⟩ (fun x X hR Z hN _ _ => ?_)
  have X : Ok x cX12_isClause 1 RX12 (some .boolean) := X
  have G : Gz x 1 0 [(0, .ref (xb x + o0))] [] KDF M (f_X12_isClause o0 M) (PsI2 x KDF) := by
    unfold f_X12_isClause
    refine g1 (pc' := 1) (w_aload_n X dX12_isClause_0 rfl 0 rfl) ?_
    refine g1 (pc' := 4) (gt_12_4 X hk0 mw_933 dX12_isClause_1) ?_
    refine g1 (pc' := 6) (w_bipush X (98) dX12_isClause_4 (by decide)) ?_
    refine g_if (pcT := 9) (pcF := 29) (w_icmp_ne (tgt := 29) X dX12_isClause_6 (by decide)) (fun h1 => ?_) (fun h1 => ?_)
    · refine g1 (pc' := 10) (w_aload_n X dX12_isClause_9 rfl 0 rfl) ?_
      refine g1 (pc' := 13) (gt_12_9 X hk0 mw_938 dX12_isClause_10) ?_
      refine g_if (pcT := 24) (pcF := 16) (w_if_le (tgt := 24) X dX12_isClause_13 (by decide)) (fun h2 => ?_) (fun h2 => ?_)
      · refine g1 (pc' := 25) (w_aload_n X dX12_isClause_24 rfl 0 rfl) ?_
        refine g_bd (pc' := 28) (fun r3 => [(0, .ref (xb x + o0))]) (fun r3 => [.int r3.1]) (fun r3 => r3.2) (fun r3 h => k_X12_isHead X hR hN Z hk0 mw_1080 (by decide) (Nat.le_of_ble_eq_true rfl) dX12_isClause_25 h) (fun r3 => ?_)
        show Gz x 1 28 [(0, .ref (xb x + o0))] [.int r3.1] KDF r3.2 _ _
        refine g_gd (fun h4 => ?_)
        exact g_rZ2 X h4 dX12_isClause_28
      · refine g1 (pc' := 17) (w_aload_n X dX12_isClause_16 rfl 0 rfl) ?_
        refine g1 (pc' := 18) (w_iconst X (3) dX12_isClause_17 (by decide)) ?_
        refine g_bd (pc' := 21) (fun r5 => [(0, .ref (xb x + o0))]) (fun r5 => [.int r5.1]) (fun r5 => r5.2) (fun r5 h => k_X12_fails X hR hN Z hk0 mw_1076 (by decide) (Nat.le_of_ble_eq_true rfl) dX12_isClause_18 h) (fun r5 => ?_)
        show Gz x 1 21 [(0, .ref (xb x + o0))] [.int r5.1] KDF r5.2 _ _
        refine g1 (pc' := 28) (w_goto X dX12_isClause_21 (by decide)) ?_
        refine g_gd (fun h6 => ?_)
        exact g_rZ2 X h6 dX12_isClause_28
    · refine g1 (pc' := 30) (w_aload_n X dX12_isClause_29 rfl 0 rfl) ?_
      refine g1 (pc' := 33) (gt_12_9 X hk0 mw_938 dX12_isClause_30) ?_
      refine g_if (pcT := 36) (pcF := 42) (w_if_ne (tgt := 42) X dX12_isClause_33 (by decide)) (fun h7 => ?_) (fun h7 => ?_)
      · refine g1 (pc' := 37) (w_aload_n X dX12_isClause_36 rfl 0 rfl) ?_
        refine g1 (pc' := 38) (w_iconst X (1) dX12_isClause_37 (by decide)) ?_
        refine g_bd (pc' := 41) (fun r8 => [(0, .ref (xb x + o0))]) (fun r8 => [.int r8.1]) (fun r8 => r8.2) (fun r8 h => k_X12_fails X hR hN Z hk0 mw_1076 (by decide) (Nat.le_of_ble_eq_true rfl) dX12_isClause_38 h) (fun r8 => ?_)
        show Gz x 1 41 [(0, .ref (xb x + o0))] [.int r8.1] KDF r8.2 _ _
        refine g_gd (fun h9 => ?_)
        exact g_rZ2 X h9 dX12_isClause_41
      · refine g1 (pc' := 43) (w_aload_n X dX12_isClause_42 rfl 0 rfl) ?_
        refine g1 (pc' := 46) (gt_12_4 X hk0 mw_933 dX12_isClause_43) ?_
        refine g1 (pc' := 48) (w_bipush X (109) dX12_isClause_46 (by decide)) ?_
        refine g_if (pcT := 51) (pcF := 58) (w_icmp_ne (tgt := 58) X dX12_isClause_48 (by decide)) (fun h10 => ?_) (fun h10 => ?_)
        · refine g1 (pc' := 52) (w_aload_n X dX12_isClause_51 rfl 0 rfl) ?_
          refine g_bd (pc' := 55) (fun r11 => [(0, .ref (xb x + o0))]) (fun r11 => [.int r11.1]) (fun r11 => r11.2) (fun r11 h => k_X12_isMethod X hR hN Z hk0 mw_1088 (by decide) (Nat.le_of_ble_eq_true rfl) dX12_isClause_52 h) (fun r11 => ?_)
          show Gz x 1 55 [(0, .ref (xb x + o0))] [.int r11.1] KDF r11.2 _ _
          refine g1 (pc' := 95) (w_goto X dX12_isClause_55 (by decide)) ?_
          refine g_gd (fun h12 => ?_)
          exact g_rZ2 X h12 dX12_isClause_95
        · refine g1 (pc' := 59) (w_aload_n X dX12_isClause_58 rfl 0 rfl) ?_
          refine g1 (pc' := 62) (gt_12_4 X hk0 mw_933 dX12_isClause_59) ?_
          refine g1 (pc' := 64) (w_bipush X (114) dX12_isClause_62 (by decide)) ?_
          refine g_if (pcT := 67) (pcF := 74) (w_icmp_ne (tgt := 74) X dX12_isClause_64 (by decide)) (fun h13 => ?_) (fun h13 => ?_)
          · refine g1 (pc' := 68) (w_aload_n X dX12_isClause_67 rfl 0 rfl) ?_
            refine g_bd (pc' := 71) (fun r14 => [(0, .ref (xb x + o0))]) (fun r14 => [.int r14.1]) (fun r14 => r14.2) (fun r14 h => k_X12_isSuitorItem X hR hN Z hk0 mw_1102 (by decide) (Nat.le_of_ble_eq_true rfl) dX12_isClause_68 h) (fun r14 => ?_)
            show Gz x 1 71 [(0, .ref (xb x + o0))] [.int r14.1] KDF r14.2 _ _
            refine g1 (pc' := 95) (w_goto X dX12_isClause_71 (by decide)) ?_
            refine g_gd (fun h15 => ?_)
            exact g_rZ2 X h15 dX12_isClause_95
          · refine g1 (pc' := 75) (w_aload_n X dX12_isClause_74 rfl 0 rfl) ?_
            refine g1 (pc' := 78) (gt_12_4 X hk0 mw_933 dX12_isClause_75) ?_
            refine g1 (pc' := 80) (w_bipush X (99) dX12_isClause_78 (by decide)) ?_
            refine g_if (pcT := 83) (pcF := 90) (w_icmp_ne (tgt := 90) X dX12_isClause_80 (by decide)) (fun h16 => ?_) (fun h16 => ?_)
            · refine g1 (pc' := 84) (w_aload_n X dX12_isClause_83 rfl 0 rfl) ?_
              refine g_bd (pc' := 87) (fun r17 => [(0, .ref (xb x + o0))]) (fun r17 => [.int r17.1]) (fun r17 => r17.2) (fun r17 h => k_X12_isCall X hR hN Z hk0 mw_1110 (by decide) (Nat.le_of_ble_eq_true rfl) dX12_isClause_84 h) (fun r17 => ?_)
              show Gz x 1 87 [(0, .ref (xb x + o0))] [.int r17.1] KDF r17.2 _ _
              refine g1 (pc' := 95) (w_goto X dX12_isClause_87 (by decide)) ?_
              refine g_gd (fun h18 => ?_)
              exact g_rZ2 X h18 dX12_isClause_95
            · refine g1 (pc' := 91) (w_aload_n X dX12_isClause_90 rfl 0 rfl) ?_
              refine g1 (pc' := 92) (w_iconst X (1) dX12_isClause_91 (by decide)) ?_
              refine g_bd (pc' := 95) (fun r19 => [(0, .ref (xb x + o0))]) (fun r19 => [.int r19.1]) (fun r19 => r19.2) (fun r19 h => k_X12_fails X hR hN Z hk0 mw_1076 (by decide) (Nat.le_of_ble_eq_true rfl) dX12_isClause_92 h) (fun r19 => ?_)
              show Gz x 1 95 [(0, .ref (xb x + o0))] [.int r19.1] KDF r19.2 _ _
              refine g_gd (fun h20 => ?_)
              exact g_rZ2 X h20 dX12_isClause_95
  exact G _ h _ rfl
theorem k_X12_isClause {x : Cxt} {cc : ByteArray} {nL : Nat} {own : String} {ret : Option FieldType} (X : Ok x cc nL own ret) {d : Nat} (hR : Rm x d KDF) (hN : Nst x) (Z : xz x = 0) {pc : Nat} {lv : List (Nat × Value)} {rest : List Value} {M : Mm} {o0 : Nat} (hk0 : KDF[o0]? = some (12, 0)) {idx : Nat} (hw : Cond.methodLink own idx yX12_isClause ∈ tbG) (hdd : 6 + 1 ≤ d) (hrm : (rest.map fun v => v.category).sum ≤ 8) (hd : decode cc pc = .ok (.invokevirtual idx, 3)) {r : Int32} {M' : Mm} (h : f_X12_isClause o0 M = some (r, M')) : StpZ x nL pc lv (.ref (xb x + o0) :: rest) KDF M (pc + 3) lv (.int r :: rest) KDF M' :=
  w_callV (st := []) (As := []) X hR hN (CtX0 Z (c_X12_isClause hk0 h)) ⟨Nat.le_refl _, Nat.le_refl _⟩ ⟨Nat.le_refl _, Nat.le_refl _⟩ hk0 (ci := 12) (fs := fs_12 o0) (fun _ _ _ => rfl) rfl hw mw_1074 mw_25 mw_72 mw_1075 (n := 0) (by decide +kernel) rfl hdd (by decide) hrm hd
