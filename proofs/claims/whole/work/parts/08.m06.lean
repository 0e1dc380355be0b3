def f_X11_change (o0 : Nat) (x1 : Int32) (x2 : Int32) (M : Mm) : Option (Int32 × Mm) :=
  Gd (KDF[(M o0 0).toNatClampNeg]? = some (9, 0)) (Bd (f_X5_fromFigures x1 (M (M o0 0).toNatClampNeg 0)) (fun r2 => Gd (KDF[(M o0 0).toNatClampNeg]? = some (9, 0)) (Bd (f_X5_fromFigures x2 (M (M o0 0).toNatClampNeg 0)) (fun r4 => (if r2 = (-1 : Int32) then some ((-1000000002 : Int32), M) else (if r4 = (-1 : Int32) then some ((-1000000002 : Int32), M) else Gd (KDF[(M o0 0).toNatClampNeg]? = some (9, 0)) (Bd (f_X5_placesAlike r2 r4 (M (M o0 0).toNatClampNeg 0)) (fun r8 => Gd (KDF[(M o0 0).toNatClampNeg]? = some (9, 0)) (Bd (f_X0_become 116 r8 (M (M o0 0).toNatClampNeg 0) M) (fun r10 => (if r10.1 = 0 then some ((-1 : Int32), r10.2) else (if (f_X0_next 116 r2 r10.2) = r4 then some (r8, r10.2) else some ((-1 : Int32), r10.2)))))))))))))
set_option maxRecDepth 100000 in
set_option maxHeartbeats 4000000 in
theorem c_X11_change {l : Launch} {D : va_G} {an : An} {b : Nat} {o0 : Nat} {x1 : Int32} {x2 : Int32} (hk0 : KDF[o0]? = some (11, 0)) {M : Mm} {r : Int32} {M' : Mm} (h : f_X11_change o0 x1 x2 M = some (r, M')) : Ct l D an b 0 yX11_change cX11_change 6 (some .int) 3 [.ref (b + o0), .int x1, .int x2] KDF M (some (.int r)) KDF M' := by
  refine CtX.mk (as := fun b => [.ref (b + o0), .int x1, .int x2]) (rv := fun b => (some (.int r))) (by decide) (fun b => Nat.le_of_ble_eq_true rfl) ⟨Nat.le_refl _, Nat.le_refl _⟩ (fun x X hR Z hN _ _ => ?_)
  have X : Ok x cX11_change 6 RX11 (some .int) := X
  have G : Gz x 6 0 [(0, .ref (xb x + o0)), (1, .int x1), (2, .int x2)] [] KDF M (f_X11_change o0 x1 x2 M) (PsI2 x KDF) := by
    unfold f_X11_change
    refine g1 (pc' := 1) (w_iload_n X dX11_change_0 rfl 1 rfl) ?_
    refine g1 (pc' := 2) (w_aload_n X dX11_change_1 rfl 0 rfl) ?_
    refine g1 (pc' := 5) (gt_11_0 X hk0 mw_323 dX11_change_2) ?_
    refine g_gd (fun h1 => ?_)
    refine g1 (pc' := 8) (gt_9_0 X h1 mw_114 dX11_change_5) ?_
    refine g_bd (pc' := 11) (fun r2 => [(0, .ref (xb x + o0)), (1, .int x1), (2, .int x2)]) (fun r2 => [.int r2]) (fun r2 => M) (fun r2 h => k_X5_fromFigures X hR hN Z  mw_827 (by decide) (Nat.le_of_ble_eq_true rfl) dX11_change_8 h) (fun r2 => ?_)
    show Gz x 6 11 [(0, .ref (xb x + o0)), (1, .int x1), (2, .int x2)] [.int r2] KDF M _ _
    refine g1 (pc' := 12) (lv' := [(3, .int r2), (0, .ref (xb x + o0)), (1, .int x1), (2, .int x2)]) (w_istore_n X dX11_change_11 rfl (by decide) rfl) ?_
    refine g1 (pc' := 13) (w_iload_n X dX11_change_12 rfl 3 rfl) ?_
    refine g1 (pc' := 14) (w_aload_n X dX11_change_13 rfl 1 rfl) ?_
    refine g1 (pc' := 17) (gt_11_0 X hk0 mw_323 dX11_change_14) ?_
    refine g_gd (fun h3 => ?_)
    refine g1 (pc' := 20) (gt_9_0 X h3 mw_114 dX11_change_17) ?_
    refine g_bd (pc' := 23) (fun r4 => [(3, .int r2), (0, .ref (xb x + o0)), (1, .int x1), (2, .int x2)]) (fun r4 => [.int r4]) (fun r4 => M) (fun r4 h => k_X5_fromFigures X hR hN Z  mw_827 (by decide) (Nat.le_of_ble_eq_true rfl) dX11_change_20 h) (fun r4 => ?_)
    show Gz x 6 23 [(3, .int r2), (0, .ref (xb x + o0)), (1, .int x1), (2, .int x2)] [.int r4] KDF M _ _
    refine g1 (pc' := 25) (lv' := [(4, .int r4), (3, .int r2), (0, .ref (xb x + o0)), (1, .int x1), (2, .int x2)]) (w_istore X dX11_change_23 (by decide) rfl) ?_
    refine g1 (pc' := 26) (w_iload_n X dX11_change_25 rfl 1 rfl) ?_
    refine g1 (pc' := 27) (w_iconst X (-1) dX11_change_26 (by decide)) ?_
    refine g_if (pcT := 36) (pcF := 30) (w_icmp_eq (tgt := 36) X dX11_change_27 (by decide)) (fun h5 => ?_) (fun h5 => ?_)
    · refine g1 (pc' := 38) (w_ldc (v := -1000000002) X dX11_change_36 mw_376) ?_
      exact g_rI2 X dX11_change_38
    · refine g1 (pc' := 32) (w_iload X dX11_change_30 0 rfl) ?_
      refine g1 (pc' := 33) (w_iconst X (-1) dX11_change_32 (by decide)) ?_
      refine g_if (pcT := 36) (pcF := 39) (w_icmp_ne (tgt := 39) X dX11_change_33 (by decide)) (fun h6 => ?_) (fun h6 => ?_)
      · refine g1 (pc' := 38) (w_ldc (v := -1000000002) X dX11_change_36 mw_376) ?_
        exact g_rI2 X dX11_change_38
      · refine g1 (pc' := 40) (w_iload_n X dX11_change_39 rfl 1 rfl) ?_
        refine g1 (pc' := 42) (w_iload X dX11_change_40 0 rfl) ?_
        refine g1 (pc' := 43) (w_aload_n X dX11_change_42 rfl 2 rfl) ?_
        refine g1 (pc' := 46) (gt_11_0 X hk0 mw_323 dX11_change_43) ?_
        refine g_gd (fun h7 => ?_)
        refine g1 (pc' := 49) (gt_9_0 X h7 mw_114 dX11_change_46) ?_
        refine g_bd (pc' := 52) (fun r8 => [(4, .int r4), (3, .int r2), (0, .ref (xb x + o0)), (1, .int x1), (2, .int x2)]) (fun r8 => [.int r8]) (fun r8 => M) (fun r8 h => k_X5_placesAlike X hR hN Z  mw_830 (by decide) (Nat.le_of_ble_eq_true rfl) dX11_change_49 h) (fun r8 => ?_)
        show Gz x 6 52 [(4, .int r4), (3, .int r2), (0, .ref (xb x + o0)), (1, .int x1), (2, .int x2)] [.int r8] KDF M _ _
        refine g1 (pc' := 54) (lv' := [(5, .int r8), (4, .int r4), (3, .int r2), (0, .ref (xb x + o0)), (1, .int x1), (2, .int x2)]) (w_istore X dX11_change_52 (by decide) rfl) ?_
        refine g1 (pc' := 55) (w_aload_n X dX11_change_54 rfl 3 rfl) ?_
        refine g1 (pc' := 58) (gt_11_12 X hk0 mw_335 dX11_change_55) ?_
        refine g1 (pc' := 60) (w_iload X dX11_change_58 0 rfl) ?_
        refine g1 (pc' := 61) (w_aload_n X dX11_change_60 rfl 3 rfl) ?_
        refine g1 (pc' := 64) (gt_11_0 X hk0 mw_323 dX11_change_61) ?_
        refine g_gd (fun h9 => ?_)
        refine g1 (pc' := 67) (gt_9_0 X h9 mw_114 dX11_change_64) ?_
        refine g_bd (pc' := 70) (fun r10 => [(5, .int r8), (4, .int r4), (3, .int r2), (0, .ref (xb x + o0)), (1, .int x1), (2, .int x2)]) (fun r10 => [.int r10.1]) (fun r10 => r10.2) (fun r10 h => k_X0_become X hR hN Z kd_116 mw_833 (by decide) (Nat.le_of_ble_eq_true rfl) dX11_change_67 h) (fun r10 => ?_)
        show Gz x 6 70 [(5, .int r8), (4, .int r4), (3, .int r2), (0, .ref (xb x + o0)), (1, .int x1), (2, .int x2)] [.int r10.1] KDF r10.2 _ _
        refine g_if (pcT := 73) (pcF := 75) (w_if_ne (tgt := 75) X dX11_change_70 (by decide)) (fun h11 => ?_) (fun h11 => ?_)
        · refine g1 (pc' := 74) (w_iconst X (-1) dX11_change_73 (by decide)) ?_
          exact g_rI2 X dX11_change_74
        · refine g1 (pc' := 76) (w_aload_n X dX11_change_75 rfl 3 rfl) ?_
          refine g1 (pc' := 79) (gt_11_12 X hk0 mw_335 dX11_change_76) ?_
          refine g1 (pc' := 80) (w_iload_n X dX11_change_79 rfl 2 rfl) ?_
          refine g1 (pc' := 83) (k_X0_next X hR hN Z kd_116 mw_834 (by decide) (Nat.le_of_ble_eq_true rfl) dX11_change_80) ?_
          refine g1 (pc' := 85) (w_iload X dX11_change_83 1 rfl) ?_
          refine g_if (pcT := 88) (pcF := 93) (w_icmp_ne (tgt := 93) X dX11_change_85 (by decide)) (fun h12 => ?_) (fun h12 => ?_)
          · refine g1 (pc' := 90) (w_iload X dX11_change_88 0 rfl) ?_
            refine g1 (pc' := 94) (w_goto X dX11_change_90 (by decide)) ?_
            exact g_rI2 X dX11_change_94
          · refine g1 (pc' := 94) (w_iconst X (-1) dX11_change_93 (by decide)) ?_
            exact g_rI2 X dX11_change_94
  exact G _ h _ rfl
theorem k_X11_change {x : Cxt} {cc : ByteArray} {nL : Nat} {own : String} {ret : Option FieldType} (X : Ok x cc nL own ret) {d : Nat} (hR : Rm x d KDF) (hN : Nst x) (Z : xz x = 0) {pc : Nat} {lv : List (Nat × Value)} {rest : List Value} {M : Mm} {o0 : Nat} {x1 : Int32} {x2 : Int32} (hk0 : KDF[o0]? = some (11, 0)) {idx : Nat} (hw : Cond.methodLink own idx yX11_change ∈ tbG) (hdd : 3 + 1 ≤ d) (hrm : (rest.map fun v => v.category).sum ≤ 8) (hd : decode cc pc = .ok (.invokevirtual idx, 3)) {r : Int32} {M' : Mm} (h : f_X11_change o0 x1 x2 M = some (r, M')) : StpZ x nL pc lv (.int x2 :: .int x1 :: .ref (xb x + o0) :: rest) KDF M (pc + 3) lv (.int r :: rest) KDF M' :=
  w_callV (st := []) (As := [.int x1, .int x2]) X hR hN (CtX0 Z (c_X11_change hk0 h)) ⟨Nat.le_refl _, Nat.le_refl _⟩ ⟨Nat.le_refl _, Nat.le_refl _⟩ hk0 (ci := 11) (fs := fs_11 o0) (fun _ _ _ => rfl) rfl hw mw_824 mw_825 mw_61 mw_826 (n := 2) (by decide +kernel) rfl hdd (by decide) hrm hd
def b_X11_follow_17 (o0 : Nat) (M : Mm) (s17 : Int32 × Int32) : Option ((Int32 × Int32) ⊕ (Int32)) :=
  Gd (KDF[(M o0 0).toNatClampNeg]? = some (9, 0)) ((if (f_X9_allPlaces (M o0 0).toNatClampNeg M) ≤ s17.2 then some (.inr s17.1) else Gd (KDF[(M o0 0).toNatClampNeg]? = some (9, 0)) (Bd (f_X0_firstsOf s17.2 (M (M o0 0).toNatClampNeg 0)) (fun r6 => Lt (((if r6 = (-1 : Int32) then s17.1 else Lt (s17.1 + (1 : Int32)) (fun v9 => v9))) : Int32) (fun j7 => Lt (s17.2 + (1 : Int32)) (fun v10 => some (.inl (j7, v10))))))))
def f_X11_follow (o0 : Nat) (M : Mm) : Option (Int32) :=
  Gd (KDF[(M o0 0).toNatClampNeg]? = some (9, 0)) ((if (f_X9_stands (M o0 0).toNatClampNeg M) = 0 then some (-1000000003 : Int32) else Bd (Lp (b_X11_follow_17 o0 M) 100000 ((0 : Int32), (0 : Int32))) (fun e11 => some e11)))
set_option maxRecDepth 100000 in
set_option maxHeartbeats 4000000 in
theorem c_X11_follow {l : Launch} {D : va_G} {an : An} {b : Nat} {o0 : Nat} (hk0 : KDF[o0]? = some (11, 0)) {M : Mm} {r : Int32} (h : f_X11_follow o0 M = some r) : Ct l D an b 0 yX11_follow cX11_follow 3 (some .int) 2 [.ref (b + o0)] KDF M (some (.int r)) KDF M := by
  refine CtX.mk (as := fun b => [.ref (b + o0)]) (rv := fun b => (some (.int r))) (by decide) (fun b => Nat.le_of_ble_eq_true rfl) ⟨Nat.le_refl _, Nat.le_refl _⟩ (fun x X hR Z hN _ _ => ?_)
  have X : Ok x cX11_follow 3 RX11 (some .int) := X
  have G : Gz x 3 0 [(0, .ref (xb x + o0))] [] KDF M (f_X11_follow o0 M) (PsI x KDF M) := by
    unfold f_X11_follow
    refine g1 (pc' := 1) (w_aload_n X dX11_follow_0 rfl 0 rfl) ?_
    refine g1 (pc' := 4) (gt_11_0 X hk0 mw_323 dX11_follow_1) ?_
    refine g_gd (fun h1 => ?_)
    refine g1 (pc' := 7) (k_X9_stands X hR hN Z h1 mw_540 (by decide) (Nat.le_of_ble_eq_true rfl) dX11_follow_4) ?_
    refine g_if (pcT := 10) (pcF := 13) (w_if_ne (tgt := 13) X dX11_follow_7 (by decide)) (fun h2 => ?_) (fun h2 => ?_)
    · refine g1 (pc' := 12) (w_ldc (v := -1000000003) X dX11_follow_10 mw_541) ?_
      exact g_rI X dX11_follow_12
    · refine g1 (pc' := 14) (w_iconst X (0) dX11_follow_13 (by decide)) ?_
      refine g1 (pc' := 15) (lv' := [(1, .int (0 : Int32)), (0, .ref (xb x + o0))]) (w_istore_n X dX11_follow_14 rfl (by decide) rfl) ?_
      refine g1 (pc' := 16) (w_iconst X (0) dX11_follow_15 (by decide)) ?_
      refine g1 (pc' := 17) (lv' := [(2, .int (0 : Int32)), (1, .int (0 : Int32)), (0, .ref (xb x + o0))]) (w_istore_n X dX11_follow_16 rfl (by decide) rfl) ?_
      refine g_pick (lv' := [(0, .ref (xb x + o0)), (1, .int (0 : Int32)), (2, .int (0 : Int32))]) [2, 1, 0] rfl ?_
      refine g_bdJ (J := 52) (fun e11 => [(1, .int e11)]) (fun e11 => []) (fun e11 => M) (g_lp (fun s17 => [(0, .ref (xb x + o0)), (1, .int s17.1), (2, .int s17.2)]) (fun s17 => M) (fun s17 => ?_) 100000 ((0 : Int32), (0 : Int32))) (fun e11 => ?_)
      · show Gz x 3 17 [(0, .ref (xb x + o0)), (1, .int s17.1), (2, .int s17.2)] [] KDF M (b_X11_follow_17 o0 M s17) _
        unfold b_X11_follow_17
        refine g1 (pc' := 18) (w_iload_n X dX11_follow_17 rfl 2 rfl) ?_
        refine g1 (pc' := 19) (w_aload_n X dX11_follow_18 rfl 0 rfl) ?_
        refine g1 (pc' := 22) (gt_11_0 X hk0 mw_323 dX11_follow_19) ?_
        refine g_gd (fun h3 => ?_)
        refine g1 (pc' := 25) (k_X9_allPlaces X hR hN Z h3 mw_839 (by decide) (Nat.le_of_ble_eq_true rfl) dX11_follow_22) ?_
        refine g_if (pcT := 52) (pcF := 28) (w_icmp_ge (tgt := 52) X dX11_follow_25 (by decide)) (fun h4 => ?_) (fun h4 => ?_)
        · refine g_inr ?_
          exact g_end [1] rfl rfl rfl
        · refine g1 (pc' := 29) (w_iload_n X dX11_follow_28 rfl 2 rfl) ?_
          refine g1 (pc' := 30) (w_aload_n X dX11_follow_29 rfl 0 rfl) ?_
          refine g1 (pc' := 33) (gt_11_0 X hk0 mw_323 dX11_follow_30) ?_
          refine g_gd (fun h5 => ?_)
          refine g1 (pc' := 36) (gt_9_0 X h5 mw_114 dX11_follow_33) ?_
          refine g_bd (pc' := 39) (fun r6 => [(0, .ref (xb x + o0)), (1, .int s17.1), (2, .int s17.2)]) (fun r6 => [.int r6]) (fun r6 => M) (fun r6 h => k_X0_firstsOf X hR hN Z  mw_840 (by decide) (Nat.le_of_ble_eq_true rfl) dX11_follow_36 h) (fun r6 => ?_)
          show Gz x 3 39 [(0, .ref (xb x + o0)), (1, .int s17.1), (2, .int s17.2)] [.int r6] KDF M _ _
          refine g1 (pc' := 40) (w_iconst X (-1) dX11_follow_39 (by decide)) ?_
          refine g_ltJ (J := 46) (fun j7 => [(0, .ref (xb x + o0)), (1, .int j7), (2, .int s17.2)]) (fun j7 => []) (fun j7 => M) ?_ (fun j7 => ?_)
          · refine g_ifS (pcT := 46) (pcF := 43) (w_icmp_eq (tgt := 46) X dX11_follow_40 (by decide)) (fun h8 => ?_) (fun h8 => ?_)
            · exact g_end [0, 1, 2] rfl rfl rfl
            · refine g_ltT (pc' := 46) (fun v9 => [(1, .int v9), (0, .ref (xb x + o0)), (2, .int s17.2)]) (fun v9 => []) (fun v9 => M) (w_iinc X dX11_follow_43 1 rfl rfl (by decide) rfl) (fun v9 => ?_)
              show Gz x 3 46 [(1, .int v9), (0, .ref (xb x + o0)), (2, .int s17.2)] [] KDF M _ _
              exact g_end [1, 0, 2] rfl rfl rfl
          · show Gz x 3 46 [(0, .ref (xb x + o0)), (1, .int j7), (2, .int s17.2)] [] KDF M _ _
            refine g_lt (pc' := 49) (fun v10 => [(2, .int v10), (0, .ref (xb x + o0)), (1, .int j7)]) (fun v10 => []) (fun v10 => M) (w_iinc X dX11_follow_46 2 rfl rfl (by decide) rfl) (fun v10 => ?_)
            show Gz x 3 49 [(2, .int v10), (0, .ref (xb x + o0)), (1, .int j7)] [] KDF M _ _
            refine g1 (pc' := 17) (w_goto X dX11_follow_49 (by decide)) ?_
            refine g_inl ?_
            exact g_end [1, 2, 0] rfl rfl rfl
      · show Gz x 3 52 [(1, .int e11)] [] KDF M _ _
        refine g1 (pc' := 53) (w_iload_n X dX11_follow_52 rfl 0 rfl) ?_
        exact g_rI X dX11_follow_53
  exact G _ h _ rfl
theorem k_X11_follow {x : Cxt} {cc : ByteArray} {nL : Nat} {own : String} {ret : Option FieldType} (X : Ok x cc nL own ret) {d : Nat} (hR : Rm x d KDF) (hN : Nst x) (Z : xz x = 0) {pc : Nat} {lv : List (Nat × Value)} {rest : List Value} {M : Mm} {o0 : Nat} (hk0 : KDF[o0]? = some (11, 0)) {idx : Nat} (hw : Cond.methodLink own idx yX11_follow ∈ tbG) (hdd : 2 + 1 ≤ d) (hrm : (rest.map fun v => v.category).sum ≤ 8) (hd : decode cc pc = .ok (.invokevirtual idx, 3)) {r : Int32} (h : f_X11_follow o0 M = some r) : StpZ x nL pc lv (.ref (xb x + o0) :: rest) KDF M (pc + 3) lv (.int r :: rest) KDF M :=
  w_callV (st := []) (As := []) X hR hN (CtX0 Z (c_X11_follow hk0 h)) ⟨Nat.le_refl _, Nat.le_refl _⟩ ⟨Nat.le_refl _, Nat.le_refl _⟩ hk0 (ci := 11) (fs := fs_11 o0) (fun _ _ _ => rfl) rfl hw mw_836 mw_837 mw_61 mw_838 (n := 0) (by decide +kernel) rfl hdd (by decide) hrm hd
def b_X11_gap_81 (o0 : Nat) (x1 : Int32) (x2 : Int32) (s81 : Int32 × Int32 × Mm) : Option ((Int32 × Int32 × Mm) ⊕ (Int32 × Mm)) :=
  (if x2 ≤ s81.2.1 then some (.inr (s81.1, s81.2.2)) else Gd (KDF[(s81.2.2 o0 0).toNatClampNeg]? = some (9, 0)) (Bd (f_X10_step 115 (s81.2.2 o0 0).toNatClampNeg s81.2.2) (fun r12 => Gd (KDF[(r12 o0 0).toNatClampNeg]? = some (9, 0)) (Bd (f_X5_without (r12 115 0) x1 (r12 (r12 o0 0).toNatClampNeg 0)) (fun r14 => Bd (f_X6_add 109 r14 r12) (fun r15 => Lt (((if r15.1 = 0 then s81.1 else Lt (s81.1 + (1 : Int32)) (fun v18 => v18))) : Int32) (fun j16 => Lt (s81.2.1 + (1 : Int32)) (fun v19 => some (.inl (j16, v19, r15.2))))))))))
def f_X11_gap (o0 : Nat) (x1 : Int32) (x2 : Int32) (M : Mm) : Option (Int32 × Mm) :=
  Gd (KDF[(M o0 0).toNatClampNeg]? = some (9, 0)) ((if (f_X9_hasBell (M o0 0).toNatClampNeg x1 M) = 0 then some ((-1000000001 : Int32), M) else (if x2 < (1 : Int32) then some ((-1000000002 : Int32), M) else (if x2 ≤ (500 : Int32) then Bd (f_X10_copyFrom 115 (37 + 1) M) (fun r5 => Bd (f_X6_clear 109 r5) (fun r6 => Gd (KDF[(r6 o0 0).toNatClampNeg]? = some (9, 0)) (Bd (f_X5_without (r6 115 0) x1 (r6 (r6 o0 0).toNatClampNeg 0)) (fun r8 => Bd (f_X6_add 109 r8 r6) (fun r9 => Bd (Lp (b_X11_gap_81 o0 x1 x2) 100000 ((1 : Int32), (0 : Int32), r9.2)) (fun e20 => some (e20.1, e20.2))))))) else some ((-1000000002 : Int32), M)))))
set_option maxRecDepth 100000 in
set_option maxHeartbeats 4000000 in
theorem c_X11_gap {l : Launch} {D : va_G} {an : An} {b : Nat} {o0 : Nat} {x1 : Int32} {x2 : Int32} (hk0 : KDF[o0]? = some (11, 0)) {M : Mm} {r : Int32} {M' : Mm} (h : f_X11_gap o0 x1 x2 M = some (r, M')) : Ct l D an b 0 yX11_gap cX11_gap 5 (some .int) 4 [.ref (b + o0), .int x1, .int x2] KDF M (some (.int r)) KDF M' := by
  refine CtX.mk (as := fun b => [.ref (b + o0), .int x1, .int x2]) (rv := fun b => (some (.int r))) (by decide) (fun b => Nat.le_of_ble_eq_true rfl) ⟨Nat.le_refl _, Nat.le_refl _⟩ (fun x X hR Z hN _ _ => ?_)
  have X : Ok x cX11_gap 5 RX11 (some .int) := X
  have G : Gz x 5 0 [(0, .ref (xb x + o0)), (1, .int x1), (2, .int x2)] [] KDF M (f_X11_gap o0 x1 x2 M) (PsI2 x KDF) := by
    unfold f_X11_gap
    refine g1 (pc' := 1) (w_aload_n X dX11_gap_0 rfl 0 rfl) ?_
    refine g1 (pc' := 4) (gt_11_0 X hk0 mw_323 dX11_gap_1) ?_
    refine g_gd (fun h1 => ?_)
    refine g1 (pc' := 5) (w_iload_n X dX11_gap_4 rfl 1 rfl) ?_
    refine g1 (pc' := 8) (k_X9_hasBell X hR hN Z h1 mw_550 (by decide) (Nat.le_of_ble_eq_true rfl) dX11_gap_5) ?_
    refine g_if (pcT := 11) (pcF := 14) (w_if_ne (tgt := 14) X dX11_gap_8 (by decide)) (fun h2 => ?_) (fun h2 => ?_)
    · refine g1 (pc' := 13) (w_ldc (v := -1000000001) X dX11_gap_11 mw_554) ?_
      exact g_rI2 X dX11_gap_13
    · refine g1 (pc' := 15) (w_iload_n X dX11_gap_14 rfl 2 rfl) ?_
      refine g1 (pc' := 16) (w_iconst X (1) dX11_gap_15 (by decide)) ?_
      refine g_if (pcT := 26) (pcF := 19) (w_icmp_lt (tgt := 26) X dX11_gap_16 (by decide)) (fun h3 => ?_) (fun h3 => ?_)
      · refine g1 (pc' := 28) (w_ldc (v := -1000000002) X dX11_gap_26 mw_376) ?_
        exact g_rI2 X dX11_gap_28
      · refine g1 (pc' := 20) (w_iload_n X dX11_gap_19 rfl 2 rfl) ?_
        refine g1 (pc' := 23) (w_sipush X (500) dX11_gap_20 (by decide)) ?_
        refine g_if (pcT := 29) (pcF := 26) (w_icmp_le (tgt := 29) X dX11_gap_23 (by decide)) (fun h4 => ?_) (fun h4 => ?_)
        · refine g1 (pc' := 30) (w_iconst X (1) dX11_gap_29 (by decide)) ?_
          refine g1 (pc' := 31) (lv' := [(3, .int (1 : Int32)), (0, .ref (xb x + o0)), (1, .int x1), (2, .int x2)]) (w_istore_n X dX11_gap_30 rfl (by decide) rfl) ?_
          refine g1 (pc' := 32) (w_aload_n X dX11_gap_31 rfl 1 rfl) ?_
          refine g1 (pc' := 35) (gt_11_11 X hk0 mw_334 dX11_gap_32) ?_
          refine g1 (pc' := 36) (w_aload_n X dX11_gap_35 rfl 1 rfl) ?_
          refine g1 (pc' := 39) (gt_11_3 X hk0 mw_326 dX11_gap_36) ?_
          refine g1 (pc' := 42) (gt_1_0 X kd_37 mw_208 dX11_gap_39) ?_
          refine g_bd (pc' := 45) (fun r5 => [(3, .int (1 : Int32)), (0, .ref (xb x + o0)), (1, .int x1), (2, .int x2)]) (fun r5 => []) (fun r5 => r5) (fun r5 h => k_X10_copyFrom X hR hN Z kd_115 (kd_Ev1 kd_37) mw_721 (by decide) (Nat.le_of_ble_eq_true rfl) dX11_gap_42 h) (fun r5 => ?_)
          show Gz x 5 45 [(3, .int (1 : Int32)), (0, .ref (xb x + o0)), (1, .int x1), (2, .int x2)] [] KDF r5 _ _
          refine g1 (pc' := 46) (w_aload_n X dX11_gap_45 rfl 1 rfl) ?_
          refine g1 (pc' := 49) (gt_11_8 X hk0 mw_331 dX11_gap_46) ?_
          refine g_bd (pc' := 52) (fun r6 => [(3, .int (1 : Int32)), (0, .ref (xb x + o0)), (1, .int x1), (2, .int x2)]) (fun r6 => []) (fun r6 => r6) (fun r6 h => k_X6_clear X hR hN Z kd_109 mw_740 (by decide) (Nat.le_of_ble_eq_true rfl) dX11_gap_49 h) (fun r6 => ?_)
          show Gz x 5 52 [(3, .int (1 : Int32)), (0, .ref (xb x + o0)), (1, .int x1), (2, .int x2)] [] KDF r6 _ _
          refine g1 (pc' := 53) (w_aload_n X dX11_gap_52 rfl 1 rfl) ?_
          refine g1 (pc' := 56) (gt_11_8 X hk0 mw_331 dX11_gap_53) ?_
          refine g1 (pc' := 57) (w_aload_n X dX11_gap_56 rfl 1 rfl) ?_
          refine g1 (pc' := 60) (gt_11_11 X hk0 mw_334 dX11_gap_57) ?_
          refine g1 (pc' := 63) (gt_10_0 X kd_115 mw_194 dX11_gap_60) ?_
          refine g1 (pc' := 64) (w_iload_n X dX11_gap_63 rfl 2 rfl) ?_
          refine g1 (pc' := 65) (w_aload_n X dX11_gap_64 rfl 1 rfl) ?_
          refine g1 (pc' := 68) (gt_11_0 X hk0 mw_323 dX11_gap_65) ?_
          refine g_gd (fun h7 => ?_)
          refine g1 (pc' := 71) (gt_9_0 X h7 mw_114 dX11_gap_68) ?_
          refine g_bd (pc' := 74) (fun r8 => [(3, .int (1 : Int32)), (0, .ref (xb x + o0)), (1, .int x1), (2, .int x2)]) (fun r8 => [.int r8, .ref (xb x + 109)]) (fun r8 => r6) (fun r8 h => k_X5_without X hR hN Z  mw_845 (by decide) (Nat.le_of_ble_eq_true rfl) dX11_gap_71 h) (fun r8 => ?_)
          show Gz x 5 74 [(3, .int (1 : Int32)), (0, .ref (xb x + o0)), (1, .int x1), (2, .int x2)] [.int r8, .ref (xb x + 109)] KDF r6 _ _
          refine g_bd (pc' := 77) (fun r9 => [(3, .int (1 : Int32)), (0, .ref (xb x + o0)), (1, .int x1), (2, .int x2)]) (fun r9 => [.int r9.1]) (fun r9 => r9.2) (fun r9 h => k_X6_add X hR hN Z kd_109 mw_745 (by decide) (Nat.le_of_ble_eq_true rfl) dX11_gap_74 h) (fun r9 => ?_)
          show Gz x 5 77 [(3, .int (1 : Int32)), (0, .ref (xb x + o0)), (1, .int x1), (2, .int x2)] [.int r9.1] KDF r9.2 _ _
          refine g1 (pc' := 78) (w_pop X dX11_gap_77 rfl) ?_
          refine g1 (pc' := 79) (w_iconst X (0) dX11_gap_78 (by decide)) ?_
          refine g1 (pc' := 81) (lv' := [(4, .int (0 : Int32)), (3, .int (1 : Int32)), (0, .ref (xb x + o0)), (1, .int x1), (2, .int x2)]) (w_istore X dX11_gap_79 (by decide) rfl) ?_
          refine g_pick (lv' := [(0, .ref (xb x + o0)), (1, .int x1), (2, .int x2), (3, .int (1 : Int32)), (4, .int (0 : Int32))]) [2, 3, 4, 1, 0] rfl ?_
          refine g_bdJ (J := 135) (fun e20 => [(3, .int e20.1)]) (fun e20 => []) (fun e20 => e20.2) (g_lp (fun s81 => [(0, .ref (xb x + o0)), (1, .int x1), (2, .int x2), (3, .int s81.1), (4, .int s81.2.1)]) (fun s81 => s81.2.2) (fun s81 => ?_) 100000 ((1 : Int32), (0 : Int32), r9.2)) (fun e20 => ?_)
          · show Gz x 5 81 [(0, .ref (xb x + o0)), (1, .int x1), (2, .int x2), (3, .int s81.1), (4, .int s81.2.1)] [] KDF s81.2.2 (b_X11_gap_81 o0 x1 x2 s81) _
            unfold b_X11_gap_81
            refine g1 (pc' := 83) (w_iload X dX11_gap_81 4 rfl) ?_
            refine g1 (pc' := 84) (w_iload_n X dX11_gap_83 rfl 2 rfl) ?_
            refine g_if (pcT := 135) (pcF := 87) (w_icmp_ge (tgt := 135) X dX11_gap_84 (by decide)) (fun h10 => ?_) (fun h10 => ?_)
            · refine g_inr ?_
              exact g_end [3] rfl rfl rfl
            · refine g1 (pc' := 88) (w_aload_n X dX11_gap_87 rfl 0 rfl) ?_
              refine g1 (pc' := 91) (gt_11_11 X hk0 mw_334 dX11_gap_88) ?_
              refine g1 (pc' := 92) (w_aload_n X dX11_gap_91 rfl 0 rfl) ?_
              refine g1 (pc' := 95) (gt_11_0 X hk0 mw_323 dX11_gap_92) ?_
              refine g_gd (fun h11 => ?_)
              refine g_bd (pc' := 98) (fun r12 => [(0, .ref (xb x + o0)), (1, .int x1), (2, .int x2), (3, .int s81.1), (4, .int s81.2.1)]) (fun r12 => []) (fun r12 => r12) (fun r12 h => k_X10_step X hR hN Z kd_115 h11 mw_726 (by decide) (Nat.le_of_ble_eq_true rfl) dX11_gap_95 h) (fun r12 => ?_)
              show Gz x 5 98 [(0, .ref (xb x + o0)), (1, .int x1), (2, .int x2), (3, .int s81.1), (4, .int s81.2.1)] [] KDF r12 _ _
              refine g1 (pc' := 99) (w_aload_n X dX11_gap_98 rfl 0 rfl) ?_
              refine g1 (pc' := 102) (gt_11_8 X hk0 mw_331 dX11_gap_99) ?_
              refine g1 (pc' := 103) (w_aload_n X dX11_gap_102 rfl 0 rfl) ?_
              refine g1 (pc' := 106) (gt_11_11 X hk0 mw_334 dX11_gap_103) ?_
              refine g1 (pc' := 109) (gt_10_0 X kd_115 mw_194 dX11_gap_106) ?_
              refine g1 (pc' := 110) (w_iload_n X dX11_gap_109 rfl 1 rfl) ?_
              refine g1 (pc' := 111) (w_aload_n X dX11_gap_110 rfl 0 rfl) ?_
              refine g1 (pc' := 114) (gt_11_0 X hk0 mw_323 dX11_gap_111) ?_
              refine g_gd (fun h13 => ?_)
              refine g1 (pc' := 117) (gt_9_0 X h13 mw_114 dX11_gap_114) ?_
              refine g_bd (pc' := 120) (fun r14 => [(0, .ref (xb x + o0)), (1, .int x1), (2, .int x2), (3, .int s81.1), (4, .int s81.2.1)]) (fun r14 => [.int r14, .ref (xb x + 109)]) (fun r14 => r12) (fun r14 h => k_X5_without X hR hN Z  mw_845 (by decide) (Nat.le_of_ble_eq_true rfl) dX11_gap_117 h) (fun r14 => ?_)
              show Gz x 5 120 [(0, .ref (xb x + o0)), (1, .int x1), (2, .int x2), (3, .int s81.1), (4, .int s81.2.1)] [.int r14, .ref (xb x + 109)] KDF r12 _ _
              refine g_bd (pc' := 123) (fun r15 => [(0, .ref (xb x + o0)), (1, .int x1), (2, .int x2), (3, .int s81.1), (4, .int s81.2.1)]) (fun r15 => [.int r15.1]) (fun r15 => r15.2) (fun r15 h => k_X6_add X hR hN Z kd_109 mw_745 (by decide) (Nat.le_of_ble_eq_true rfl) dX11_gap_120 h) (fun r15 => ?_)
              show Gz x 5 123 [(0, .ref (xb x + o0)), (1, .int x1), (2, .int x2), (3, .int s81.1), (4, .int s81.2.1)] [.int r15.1] KDF r15.2 _ _
              refine g_ltJ (J := 129) (fun j16 => [(0, .ref (xb x + o0)), (1, .int x1), (2, .int x2), (3, .int j16), (4, .int s81.2.1)]) (fun j16 => []) (fun j16 => r15.2) ?_ (fun j16 => ?_)
              · refine g_ifS (pcT := 129) (pcF := 126) (w_if_eq (tgt := 129) X dX11_gap_123 (by decide)) (fun h17 => ?_) (fun h17 => ?_)
                · exact g_end [0, 1, 2, 3, 4] rfl rfl rfl
                · refine g_ltT (pc' := 129) (fun v18 => [(3, .int v18), (0, .ref (xb x + o0)), (1, .int x1), (2, .int x2), (4, .int s81.2.1)]) (fun v18 => []) (fun v18 => r15.2) (w_iinc X dX11_gap_126 3 rfl rfl (by decide) rfl) (fun v18 => ?_)
                  show Gz x 5 129 [(3, .int v18), (0, .ref (xb x + o0)), (1, .int x1), (2, .int x2), (4, .int s81.2.1)] [] KDF r15.2 _ _
                  exact g_end [1, 2, 3, 0, 4] rfl rfl rfl
              · show Gz x 5 129 [(0, .ref (xb x + o0)), (1, .int x1), (2, .int x2), (3, .int j16), (4, .int s81.2.1)] [] KDF r15.2 _ _
                refine g_lt (pc' := 132) (fun v19 => [(4, .int v19), (0, .ref (xb x + o0)), (1, .int x1), (2, .int x2), (3, .int j16)]) (fun v19 => []) (fun v19 => r15.2) (w_iinc X dX11_gap_129 4 rfl rfl (by decide) rfl) (fun v19 => ?_)
                show Gz x 5 132 [(4, .int v19), (0, .ref (xb x + o0)), (1, .int x1), (2, .int x2), (3, .int j16)] [] KDF r15.2 _ _
                refine g1 (pc' := 81) (w_goto X dX11_gap_132 (by decide)) ?_
                refine g_inl ?_
                exact g_end [1, 2, 3, 4, 0] rfl rfl rfl
          · show Gz x 5 135 [(3, .int e20.1)] [] KDF e20.2 _ _
            refine g1 (pc' := 136) (w_iload_n X dX11_gap_135 rfl 0 rfl) ?_
            exact g_rI2 X dX11_gap_136
        · refine g1 (pc' := 28) (w_ldc (v := -1000000002) X dX11_gap_26 mw_376) ?_
          exact g_rI2 X dX11_gap_28
  exact G _ h _ rfl
theorem k_X11_gap {x : Cxt} {cc : ByteArray} {nL : Nat} {own : String} {ret : Option FieldType} (X : Ok x cc nL own ret) {d : Nat} (hR : Rm x d KDF) (hN : Nst x) (Z : xz x = 0) {pc : Nat} {lv : List (Nat × Value)} {rest : List Value} {M : Mm} {o0 : Nat} {x1 : Int32} {x2 : Int32} (hk0 : KDF[o0]? = some (11, 0)) {idx : Nat} (hw : Cond.methodLink own idx yX11_gap ∈ tbG) (hdd : 4 + 1 ≤ d) (hrm : (rest.map fun v => v.category).sum ≤ 8) (hd : decode cc pc = .ok (.invokevirtual idx, 3)) {r : Int32} {M' : Mm} (h : f_X11_gap o0 x1 x2 M = some (r, M')) : StpZ x nL pc lv (.int x2 :: .int x1 :: .ref (xb x + o0) :: rest) KDF M (pc + 3) lv (.int r :: rest) KDF M' :=
  w_callV (st := []) (As := [.int x1, .int x2]) X hR hN (CtX0 Z (c_X11_gap hk0 h)) ⟨Nat.le_refl _, Nat.le_refl _⟩ ⟨Nat.le_refl _, Nat.le_refl _⟩ hk0 (ci := 11) (fs := fs_11 o0) (fun _ _ _ => rfl) rfl hw mw_842 mw_843 mw_61 mw_844 (n := 2) (by decide +kernel) rfl hdd (by decide) hrm hd
def b_X11_dry_30 (x1 : Int32) (x2 : Int32) (s30 : Int64 × Int32) : Option ((Int64 × Int32) ⊕ (Int64)) :=
  (if x1 ≤ s30.2 then some (.inr s30.1) else Lt ((s30.1 * (Int32.toInt64 x2)) / (100 : Int64)) (fun v6 => Lt (s30.2 + (1 : Int32)) (fun v7 => some (.inl (v6, v7)))))
def f_X11_dry (o0 : Nat) (x1 : Int32) (x2 : Int32) : Option (Int32) :=
  (if x1 < 0 then some (-1000000002 : Int32) else (if (60 : Int32) < x1 then some (-1000000002 : Int32) else (if x2 < 0 then some (-1000000002 : Int32) else (if x2 ≤ (100 : Int32) then Bd (Lp (b_X11_dry_30 x1 x2) 100000 ((1000000000 : Int64), (0 : Int32))) (fun e8 => some (Int64.toInt32 e8)) else some (-1000000002 : Int32)))))
set_option maxRecDepth 100000 in
set_option maxHeartbeats 4000000 in
theorem c_X11_dry {l : Launch} {D : va_G} {an : An} {b : Nat} {o0 : Nat} {x1 : Int32} {x2 : Int32} (hk0 : KDF[o0]? = some (11, 0)) {M : Mm} {r : Int32} (h : f_X11_dry o0 x1 x2 = some r) : Ct l D an b 0 yX11_dry cX11_dry 6 (some .int) 1 [.ref (b + o0), .int x1, .int x2] KDF M (some (.int r)) KDF M := by
  refine CtX.mk (as := fun b => [.ref (b + o0), .int x1, .int x2]) (rv := fun b => (some (.int r))) (by decide) (fun b => Nat.le_of_ble_eq_true rfl) ⟨Nat.le_refl _, Nat.le_refl _⟩ (fun x X hR Z hN _ _ => ?_)
  have X : Ok x cX11_dry 6 RX11 (some .int) := X
  have G : Gz x 6 0 [(0, .ref (xb x + o0)), (1, .int x1), (2, .int x2)] [] KDF M (f_X11_dry o0 x1 x2) (PsI x KDF M) := by
    unfold f_X11_dry
    refine g1 (pc' := 1) (w_iload_n X dX11_dry_0 rfl 1 rfl) ?_
    refine g_if (pcT := 20) (pcF := 4) (w_if_lt (tgt := 20) X dX11_dry_1 (by decide)) (fun h1 => ?_) (fun h1 => ?_)
    · refine g1 (pc' := 22) (w_ldc (v := -1000000002) X dX11_dry_20 mw_376) ?_
      exact g_rI X dX11_dry_22
    · refine g1 (pc' := 5) (w_iload_n X dX11_dry_4 rfl 1 rfl) ?_
      refine g1 (pc' := 7) (w_bipush X (60) dX11_dry_5 (by decide)) ?_
      refine g_if (pcT := 20) (pcF := 10) (w_icmp_gt (tgt := 20) X dX11_dry_7 (by decide)) (fun h2 => ?_) (fun h2 => ?_)
      · refine g1 (pc' := 22) (w_ldc (v := -1000000002) X dX11_dry_20 mw_376) ?_
        exact g_rI X dX11_dry_22
      · refine g1 (pc' := 11) (w_iload_n X dX11_dry_10 rfl 2 rfl) ?_
        refine g_if (pcT := 20) (pcF := 14) (w_if_lt (tgt := 20) X dX11_dry_11 (by decide)) (fun h3 => ?_) (fun h3 => ?_)
        · refine g1 (pc' := 22) (w_ldc (v := -1000000002) X dX11_dry_20 mw_376) ?_
          exact g_rI X dX11_dry_22
        · refine g1 (pc' := 15) (w_iload_n X dX11_dry_14 rfl 2 rfl) ?_
          refine g1 (pc' := 17) (w_bipush X (100) dX11_dry_15 (by decide)) ?_
          refine g_if (pcT := 23) (pcF := 20) (w_icmp_le (tgt := 23) X dX11_dry_17 (by decide)) (fun h4 => ?_) (fun h4 => ?_)
          · refine g1 (pc' := 26) (w_ldc2 (v := 1000000000) X dX11_dry_23 mw_853) ?_
            refine g1 (pc' := 27) (lv' := [(3, .long (1000000000 : Int64)), (0, .ref (xb x + o0)), (1, .int x1), (2, .int x2)]) (w_lstore_n X dX11_dry_26 rfl (by decide) rfl) ?_
            refine g1 (pc' := 28) (w_iconst X (0) dX11_dry_27 (by decide)) ?_
            refine g1 (pc' := 30) (lv' := [(5, .int (0 : Int32)), (3, .long (1000000000 : Int64)), (0, .ref (xb x + o0)), (1, .int x1), (2, .int x2)]) (w_istore X dX11_dry_28 (by decide) rfl) ?_
            refine g_pick (lv' := [(1, .int x1), (2, .int x2), (3, .long (1000000000 : Int64)), (5, .int (0 : Int32))]) [3, 4, 1, 0] rfl ?_
            refine g_bdJ (J := 51) (fun e8 => [(3, .long e8)]) (fun e8 => []) (fun e8 => M) (g_lp (fun s30 => [(1, .int x1), (2, .int x2), (3, .long s30.1), (5, .int s30.2)]) (fun s30 => M) (fun s30 => ?_) 100000 ((1000000000 : Int64), (0 : Int32))) (fun e8 => ?_)
            · show Gz x 6 30 [(1, .int x1), (2, .int x2), (3, .long s30.1), (5, .int s30.2)] [] KDF M (b_X11_dry_30 x1 x2 s30) _
              unfold b_X11_dry_30
              refine g1 (pc' := 32) (w_iload X dX11_dry_30 3 rfl) ?_
              refine g1 (pc' := 33) (w_iload_n X dX11_dry_32 rfl 0 rfl) ?_
              refine g_if (pcT := 51) (pcF := 36) (w_icmp_ge (tgt := 51) X dX11_dry_33 (by decide)) (fun h5 => ?_) (fun h5 => ?_)
              · refine g_inr ?_
                exact g_end [2] rfl rfl rfl
              · refine g1 (pc' := 37) (w_lload_n X dX11_dry_36 rfl 2 rfl) ?_
                refine g1 (pc' := 38) (w_iload_n X dX11_dry_37 rfl 1 rfl) ?_
                refine g1 (pc' := 39) (w_i2l X dX11_dry_38) ?_
                refine g1 (pc' := 40) (w_lmul X dX11_dry_39) ?_
                refine g1 (pc' := 43) (w_ldc2 (v := 100) X dX11_dry_40 mw_854) ?_
                refine g1 (pc' := 44) (w_ldiv X dX11_dry_43 (by decide)) ?_
                refine g_lt (pc' := 45) (fun v6 => [(3, .long v6), (1, .int x1), (2, .int x2), (5, .int s30.2)]) (fun v6 => []) (fun v6 => M) (w_lstore_n X dX11_dry_44 rfl (by decide) rfl) (fun v6 => ?_)
                show Gz x 6 45 [(3, .long v6), (1, .int x1), (2, .int x2), (5, .int s30.2)] [] KDF M _ _
                refine g_lt (pc' := 48) (fun v7 => [(5, .int v7), (3, .long v6), (1, .int x1), (2, .int x2)]) (fun v7 => []) (fun v7 => M) (w_iinc X dX11_dry_45 3 rfl rfl (by decide) rfl) (fun v7 => ?_)
                show Gz x 6 48 [(5, .int v7), (3, .long v6), (1, .int x1), (2, .int x2)] [] KDF M _ _
                refine g1 (pc' := 30) (w_goto X dX11_dry_48 (by decide)) ?_
                refine g_inl ?_
                exact g_end [2, 3, 1, 0] rfl rfl rfl
            · show Gz x 6 51 [(3, .long e8)] [] KDF M _ _
              refine g1 (pc' := 52) (w_lload_n X dX11_dry_51 rfl 0 rfl) ?_
              refine g1 (pc' := 53) (w_l2i X dX11_dry_52) ?_
              exact g_rI X dX11_dry_53
          · refine g1 (pc' := 22) (w_ldc (v := -1000000002) X dX11_dry_20 mw_376) ?_
            exact g_rI X dX11_dry_22
  exact G _ h _ rfl
theorem k_X11_dry {x : Cxt} {cc : ByteArray} {nL : Nat} {own : String} {ret : Option FieldType} (X : Ok x cc nL own ret) {d : Nat} (hR : Rm x d KDF) (hN : Nst x) (Z : xz x = 0) {pc : Nat} {lv : List (Nat × Value)} {rest : List Value} {M : Mm} {o0 : Nat} {x1 : Int32} {x2 : Int32} (hk0 : KDF[o0]? = some (11, 0)) {idx : Nat} (hw : Cond.methodLink own idx yX11_dry ∈ tbG) (hdd : 1 + 1 ≤ d) (hrm : (rest.map fun v => v.category).sum ≤ 8) (hd : decode cc pc = .ok (.invokevirtual idx, 3)) {r : Int32} (h : f_X11_dry o0 x1 x2 = some r) : StpZ x nL pc lv (.int x2 :: .int x1 :: .ref (xb x + o0) :: rest) KDF M (pc + 3) lv (.int r :: rest) KDF M :=
  w_callV (st := []) (As := [.int x1, .int x2]) X hR hN (CtX0 Z (c_X11_dry hk0 h)) ⟨Nat.le_refl _, Nat.le_refl _⟩ ⟨Nat.le_refl _, Nat.le_refl _⟩ hk0 (ci := 11) (fs := fs_11 o0) (fun _ _ _ => rfl) rfl hw mw_850 mw_851 mw_61 mw_852 (n := 2) (by decide +kernel) rfl hdd (by decide) hrm hd
def f_X11_plainRowBehind (o0 : Nat) (x1 : Int32) (M : Mm) : Option (Int32 × Mm) :=
  Gd (KDF[(M o0 0).toNatClampNeg]? = some (9, 0)) (Bd (f_X10_begin 115 (M o0 0).toNatClampNeg M) (fun r2 => Bd (f_X11_stepTrial o0 x1 r2) (fun r3 => some (r3.1, r3.2))))
set_option maxRecDepth 100000 in
set_option maxHeartbeats 4000000 in
theorem c_X11_plainRowBehind {l : Launch} {D : va_G} {an : An} {b : Nat} {o0 : Nat} {x1 : Int32} (hk0 : KDF[o0]? = some (11, 0)) {M : Mm} {r : Int32} {M' : Mm} (h : f_X11_plainRowBehind o0 x1 M = some (r, M')) : Ct l D an b 0 yX11_plainRowBehind cX11_plainRowBehind 2 (some .int) 4 [.ref (b + o0), .int x1] KDF M (some (.int r)) KDF M' := by
  refine CtX.mk (as := fun b => [.ref (b + o0), .int x1]) (rv := fun b => (some (.int r))) (by decide) (fun b => Nat.le_of_ble_eq_true rfl) ⟨Nat.le_refl _, Nat.le_refl _⟩ (fun x X hR Z hN _ _ => ?_)
  have X : Ok x cX11_plainRowBehind 2 RX11 (some .int) := X
  have G : Gz x 2 0 [(0, .ref (xb x + o0)), (1, .int x1)] [] KDF M (f_X11_plainRowBehind o0 x1 M) (PsI2 x KDF) := by
    unfold f_X11_plainRowBehind
    refine g1 (pc' := 1) (w_aload_n X dX11_plainRowBehind_0 rfl 0 rfl) ?_
    refine g1 (pc' := 4) (gt_11_11 X hk0 mw_334 dX11_plainRowBehind_1) ?_
    refine g1 (pc' := 5) (w_aload_n X dX11_plainRowBehind_4 rfl 0 rfl) ?_
    refine g1 (pc' := 8) (gt_11_0 X hk0 mw_323 dX11_plainRowBehind_5) ?_
    refine g_gd (fun h1 => ?_)
    refine g_bd (pc' := 11) (fun r2 => [(0, .ref (xb x + o0)), (1, .int x1)]) (fun r2 => []) (fun r2 => r2) (fun r2 h => k_X10_begin X hR hN Z kd_115 h1 mw_863 (by decide) (Nat.le_of_ble_eq_true rfl) dX11_plainRowBehind_8 h) (fun r2 => ?_)
    show Gz x 2 11 [(0, .ref (xb x + o0)), (1, .int x1)] [] KDF r2 _ _
    refine g1 (pc' := 12) (w_aload_n X dX11_plainRowBehind_11 rfl 0 rfl) ?_
    refine g1 (pc' := 13) (w_iload_n X dX11_plainRowBehind_12 rfl 1 rfl) ?_
    refine g_bd (pc' := 16) (fun r3 => [(0, .ref (xb x + o0)), (1, .int x1)]) (fun r3 => [.int r3.1]) (fun r3 => r3.2) (fun r3 h => k_X11_stepTrial X hR hN Z hk0 mw_722 (by decide) (Nat.le_of_ble_eq_true rfl) dX11_plainRowBehind_13 h) (fun r3 => ?_)
    show Gz x 2 16 [(0, .ref (xb x + o0)), (1, .int x1)] [.int r3.1] KDF r3.2 _ _
    exact g_rI2 X dX11_plainRowBehind_16
  exact G _ h _ rfl
theorem k_X11_plainRowBehind {x : Cxt} {cc : ByteArray} {nL : Nat} {own : String} {ret : Option FieldType} (X : Ok x cc nL own ret) {d : Nat} (hR : Rm x d KDF) (hN : Nst x) (Z : xz x = 0) {pc : Nat} {lv : List (Nat × Value)} {rest : List Value} {M : Mm} {o0 : Nat} {x1 : Int32} (hk0 : KDF[o0]? = some (11, 0)) {idx : Nat} (hw : Cond.methodLink own idx yX11_plainRowBehind ∈ tbG) (hdd : 4 + 1 ≤ d) (hrm : (rest.map fun v => v.category).sum ≤ 8) (hd : decode cc pc = .ok (.invokevirtual idx, 3)) {r : Int32} {M' : Mm} (h : f_X11_plainRowBehind o0 x1 M = some (r, M')) : StpZ x nL pc lv (.int x1 :: .ref (xb x + o0) :: rest) KDF M (pc + 3) lv (.int r :: rest) KDF M' :=
  w_callV (st := []) (As := [.int x1]) X hR hN (CtX0 Z (c_X11_plainRowBehind hk0 h)) ⟨Nat.le_refl _, Nat.le_refl _⟩ ⟨Nat.le_refl _, Nat.le_refl _⟩ hk0 (ci := 11) (fs := fs_11 o0) (fun _ _ _ => rfl) rfl hw mw_861 mw_20 mw_61 mw_862 (n := 1) (by decide +kernel) rfl hdd (by decide) hrm hd
def f_X11_hear (o0 : Nat) (x1 : Int32) (x2 : Int32) (M : Mm) : Option (Int32 × Mm) :=
  Gd (KDF[(M o0 0).toNatClampNeg]? = some (9, 0)) (Bd (f_X5_fromFigures x2 (M (M o0 0).toNatClampNeg 0)) (fun r2 => (if x1 < 0 then some ((-1000000002 : Int32), M) else (if (500 : Int32) < x1 then some ((-1000000002 : Int32), M) else (if r2 = (-1 : Int32) then some ((-1000000002 : Int32), M) else (if (M 117 0) < (6 : Int32) then Bd (f_X11_plainRowBehind o0 x1 M) (fun r7 => Gd (KDF[(r7.2 o0 0).toNatClampNeg]? = some (9, 0)) (Bd (f_X2_hearAs 117 r7.1 r2 (r7.2 o0 0).toNatClampNeg r7.2) (fun r9 => some ((r9 117 0), r9)))) else some ((-1000000004 : Int32), M)))))))
set_option maxRecDepth 100000 in
set_option maxHeartbeats 4000000 in
theorem c_X11_hear {l : Launch} {D : va_G} {an : An} {b : Nat} {o0 : Nat} {x1 : Int32} {x2 : Int32} (hk0 : KDF[o0]? = some (11, 0)) {M : Mm} {r : Int32} {M' : Mm} (h : f_X11_hear o0 x1 x2 M = some (r, M')) : Ct l D an b 0 yX11_hear cX11_hear 4 (some .int) 5 [.ref (b + o0), .int x1, .int x2] KDF M (some (.int r)) KDF M' := by
  refine CtX.mk (as := fun b => [.ref (b + o0), .int x1, .int x2]) (rv := fun b => (some (.int r))) (by decide) (fun b => Nat.le_of_ble_eq_true rfl) ⟨Nat.le_refl _, Nat.le_refl _⟩ (fun x X hR Z hN _ _ => ?_)
  have X : Ok x cX11_hear 4 RX11 (some .int) := X
  have G : Gz x 4 0 [(0, .ref (xb x + o0)), (1, .int x1), (2, .int x2)] [] KDF M (f_X11_hear o0 x1 x2 M) (PsI2 x KDF) := by
    unfold f_X11_hear
    refine g1 (pc' := 1) (w_iload_n X dX11_hear_0 rfl 2 rfl) ?_
    refine g1 (pc' := 2) (w_aload_n X dX11_hear_1 rfl 0 rfl) ?_
    refine g1 (pc' := 5) (gt_11_0 X hk0 mw_323 dX11_hear_2) ?_
    refine g_gd (fun h1 => ?_)
    refine g1 (pc' := 8) (gt_9_0 X h1 mw_114 dX11_hear_5) ?_
    refine g_bd (pc' := 11) (fun r2 => [(0, .ref (xb x + o0)), (1, .int x1), (2, .int x2)]) (fun r2 => [.int r2]) (fun r2 => M) (fun r2 h => k_X5_fromFigures X hR hN Z  mw_827 (by decide) (Nat.le_of_ble_eq_true rfl) dX11_hear_8 h) (fun r2 => ?_)
    show Gz x 4 11 [(0, .ref (xb x + o0)), (1, .int x1), (2, .int x2)] [.int r2] KDF M _ _
    refine g1 (pc' := 12) (lv' := [(3, .int r2), (0, .ref (xb x + o0)), (1, .int x1), (2, .int x2)]) (w_istore_n X dX11_hear_11 rfl (by decide) rfl) ?_
    refine g1 (pc' := 13) (w_iload_n X dX11_hear_12 rfl 2 rfl) ?_
    refine g_if (pcT := 28) (pcF := 16) (w_if_lt (tgt := 28) X dX11_hear_13 (by decide)) (fun h3 => ?_) (fun h3 => ?_)
    · refine g1 (pc' := 30) (w_ldc (v := -1000000002) X dX11_hear_28 mw_376) ?_
      exact g_rI2 X dX11_hear_30
    · refine g1 (pc' := 17) (w_iload_n X dX11_hear_16 rfl 2 rfl) ?_
      refine g1 (pc' := 20) (w_sipush X (500) dX11_hear_17 (by decide)) ?_
      refine g_if (pcT := 28) (pcF := 23) (w_icmp_gt (tgt := 28) X dX11_hear_20 (by decide)) (fun h4 => ?_) (fun h4 => ?_)
      · refine g1 (pc' := 30) (w_ldc (v := -1000000002) X dX11_hear_28 mw_376) ?_
        exact g_rI2 X dX11_hear_30
      · refine g1 (pc' := 24) (w_iload_n X dX11_hear_23 rfl 0 rfl) ?_
        refine g1 (pc' := 25) (w_iconst X (-1) dX11_hear_24 (by decide)) ?_
        refine g_if (pcT := 28) (pcF := 31) (w_icmp_ne (tgt := 31) X dX11_hear_25 (by decide)) (fun h5 => ?_) (fun h5 => ?_)
        · refine g1 (pc' := 30) (w_ldc (v := -1000000002) X dX11_hear_28 mw_376) ?_
          exact g_rI2 X dX11_hear_30
        · refine g1 (pc' := 32) (w_aload_n X dX11_hear_31 rfl 1 rfl) ?_
          refine g1 (pc' := 35) (gt_11_13 X hk0 mw_336 dX11_hear_32) ?_
          refine g1 (pc' := 38) (gt_2_0 X kd_117 mw_305 dX11_hear_35) ?_
          refine g1 (pc' := 40) (w_bipush X (6) dX11_hear_38 (by decide)) ?_
          refine g_if (pcT := 46) (pcF := 43) (w_icmp_lt (tgt := 46) X dX11_hear_40 (by decide)) (fun h6 => ?_) (fun h6 => ?_)
          · refine g1 (pc' := 47) (w_aload_n X dX11_hear_46 rfl 1 rfl) ?_
            refine g1 (pc' := 50) (gt_11_13 X hk0 mw_336 dX11_hear_47) ?_
            refine g1 (pc' := 51) (w_aload_n X dX11_hear_50 rfl 1 rfl) ?_
            refine g1 (pc' := 52) (w_iload_n X dX11_hear_51 rfl 2 rfl) ?_
            refine g_bd (pc' := 55) (fun r7 => [(3, .int r2), (0, .ref (xb x + o0)), (1, .int x1), (2, .int x2)]) (fun r7 => [.int r7.1, .ref (xb x + 117)]) (fun r7 => r7.2) (fun r7 h => k_X11_plainRowBehind X hR hN Z hk0 mw_859 (by decide) (Nat.le_of_ble_eq_true rfl) dX11_hear_52 h) (fun r7 => ?_)
            show Gz x 4 55 [(3, .int r2), (0, .ref (xb x + o0)), (1, .int x1), (2, .int x2)] [.int r7.1, .ref (xb x + 117)] KDF r7.2 _ _
            refine g1 (pc' := 56) (w_iload_n X dX11_hear_55 rfl 0 rfl) ?_
            refine g1 (pc' := 57) (w_aload_n X dX11_hear_56 rfl 1 rfl) ?_
            refine g1 (pc' := 60) (gt_11_0 X hk0 mw_323 dX11_hear_57) ?_
            refine g_gd (fun h8 => ?_)
            refine g_bd (pc' := 63) (fun r9 => [(3, .int r2), (0, .ref (xb x + o0)), (1, .int x1), (2, .int x2)]) (fun r9 => []) (fun r9 => r9) (fun r9 h => k_X2_hearAs X hR hN Z kd_117 h8 mw_864 (by decide) (Nat.le_of_ble_eq_true rfl) dX11_hear_60 h) (fun r9 => ?_)
            show Gz x 4 63 [(3, .int r2), (0, .ref (xb x + o0)), (1, .int x1), (2, .int x2)] [] KDF r9 _ _
            refine g1 (pc' := 64) (w_aload_n X dX11_hear_63 rfl 1 rfl) ?_
            refine g1 (pc' := 67) (gt_11_13 X hk0 mw_336 dX11_hear_64) ?_
            refine g1 (pc' := 70) (gt_2_0 X kd_117 mw_305 dX11_hear_67) ?_
            exact g_rI2 X dX11_hear_70
          · refine g1 (pc' := 45) (w_ldc (v := -1000000004) X dX11_hear_43 mw_381) ?_
            exact g_rI2 X dX11_hear_45
  exact G _ h _ rfl
theorem k_X11_hear {x : Cxt} {cc : ByteArray} {nL : Nat} {own : String} {ret : Option FieldType} (X : Ok x cc nL own ret) {d : Nat} (hR : Rm x d KDF) (hN : Nst x) (Z : xz x = 0) {pc : Nat} {lv : List (Nat × Value)} {rest : List Value} {M : Mm} {o0 : Nat} {x1 : Int32} {x2 : Int32} (hk0 : KDF[o0]? = some (11, 0)) {idx : Nat} (hw : Cond.methodLink own idx yX11_hear ∈ tbG) (hdd : 5 + 1 ≤ d) (hrm : (rest.map fun v => v.category).sum ≤ 8) (hd : decode cc pc = .ok (.invokevirtual idx, 3)) {r : Int32} {M' : Mm} (h : f_X11_hear o0 x1 x2 M = some (r, M')) : StpZ x nL pc lv (.int x2 :: .int x1 :: .ref (xb x + o0) :: rest) KDF M (pc + 3) lv (.int r :: rest) KDF M' :=
  w_callV (st := []) (As := [.int x1, .int x2]) X hR hN (CtX0 Z (c_X11_hear hk0 h)) ⟨Nat.le_refl _, Nat.le_refl _⟩ ⟨Nat.le_refl _, Nat.le_refl _⟩ hk0 (ci := 11) (fs := fs_11 o0) (fun _ _ _ => rfl) rfl hw mw_856 mw_857 mw_61 mw_858 (n := 2) (by decide +kernel) rfl hdd (by decide) hrm hd
def b_X11_listen_39 (o0 : Nat) (s39 : Int32 × Int32 × Int32 × Mm) : Option ((Int32 × Int32 × Int32 × Mm) ⊕ (Int32 × Mm)) :=
  (if (100 : Int32) ≤ s39.2.2.1 then some (.inr (s39.1, s39.2.2.2)) else (if s39.2.1 ≤ (1 : Int32) then some (.inr (s39.1, s39.2.2.2)) else Gd (KDF[(s39.2.2.2 o0 0).toNatClampNeg]? = some (9, 0)) (Bd (f_X2_greatestPartAlike 117 (s39.2.2.2 115 0) (s39.2.2.2 o0 0).toNatClampNeg s39.2.2.2) (fun r9 => Lt (((if s39.2.1 ≤ r9 then (s39.1, s39.2.1) else (s39.2.2.1, r9))) : Int32 × Int32) (fun j10 => Gd (KDF[(s39.2.2.2 o0 0).toNatClampNeg]? = some (9, 0)) (Bd (f_X10_step 115 (s39.2.2.2 o0 0).toNatClampNeg s39.2.2.2) (fun r13 => Lt (s39.2.2.1 + (1 : Int32)) (fun v14 => some (.inl (j10.1, j10.2, v14, r13))))))))))
def f_X11_listen (o0 : Nat) (M : Mm) : Option (Int32 × Mm) :=
  Gd (KDF[(M o0 0).toNatClampNeg]? = some (9, 0)) ((if (f_X9_stands (M o0 0).toNatClampNeg M) = 0 then some ((-1000000003 : Int32), M) else Lt (f_J6_bitCount_0f7a4 (M 117 1)) (fun v3 => Gd (KDF[(M o0 0).toNatClampNeg]? = some (9, 0)) (Bd (f_X10_begin 115 (M o0 0).toNatClampNeg M) (fun r5 => Bd (Lp (b_X11_listen_39 o0) 100000 ((-1 : Int32), v3, (0 : Int32), r5)) (fun e15 => some (e15.1, e15.2)))))))
set_option maxRecDepth 100000 in
set_option maxHeartbeats 4000000 in
theorem c_X11_listen {l : Launch} {D : va_G} {an : An} {b : Nat} {o0 : Nat} (hk0 : KDF[o0]? = some (11, 0)) {M : Mm} {r : Int32} {M' : Mm} (h : f_X11_listen o0 M = some (r, M')) : Ct l D an b 0 yX11_listen cX11_listen 5 (some .int) 6 [.ref (b + o0)] KDF M (some (.int r)) KDF M' := by
  refine CtX.mk (as := fun b => [.ref (b + o0)]) (rv := fun b => (some (.int r))) (by decide) (fun b => Nat.le_of_ble_eq_true rfl) ⟨Nat.le_refl _, Nat.le_refl _⟩ (fun x X hR Z hN _ _ => ?_)
  have X : Ok x cX11_listen 5 RX11 (some .int) := X
  have G : Gz x 5 0 [(0, .ref (xb x + o0))] [] KDF M (f_X11_listen o0 M) (PsI2 x KDF) := by
    unfold f_X11_listen
    refine g1 (pc' := 1) (w_aload_n X dX11_listen_0 rfl 0 rfl) ?_
    refine g1 (pc' := 4) (gt_11_0 X hk0 mw_323 dX11_listen_1) ?_
    refine g_gd (fun h1 => ?_)
    refine g1 (pc' := 7) (k_X9_stands X hR hN Z h1 mw_540 (by decide) (Nat.le_of_ble_eq_true rfl) dX11_listen_4) ?_
    refine g_if (pcT := 10) (pcF := 13) (w_if_ne (tgt := 13) X dX11_listen_7 (by decide)) (fun h2 => ?_) (fun h2 => ?_)
    · refine g1 (pc' := 12) (w_ldc (v := -1000000003) X dX11_listen_10 mw_541) ?_
      exact g_rI2 X dX11_listen_12
    · refine g1 (pc' := 14) (w_iconst X (-1) dX11_listen_13 (by decide)) ?_
      refine g1 (pc' := 15) (lv' := [(1, .int (-1 : Int32)), (0, .ref (xb x + o0))]) (w_istore_n X dX11_listen_14 rfl (by decide) rfl) ?_
      refine g1 (pc' := 16) (w_aload_n X dX11_listen_15 rfl 1 rfl) ?_
      refine g1 (pc' := 19) (gt_11_13 X hk0 mw_336 dX11_listen_16) ?_
      refine g1 (pc' := 22) (gt_2_1 X kd_117 mw_307 dX11_listen_19) ?_
      refine g1 (pc' := 25) (k_J6_bitCount_0f7a4 X hR hN Z  mw_875 (by decide) (Nat.le_of_ble_eq_true rfl) dX11_listen_22) ?_
      refine g_lt (pc' := 26) (fun v3 => [(2, .int v3), (1, .int (-1 : Int32)), (0, .ref (xb x + o0))]) (fun v3 => []) (fun v3 => M) (w_istore_n X dX11_listen_25 rfl (by decide) rfl) (fun v3 => ?_)
      show Gz x 5 26 [(2, .int v3), (1, .int (-1 : Int32)), (0, .ref (xb x + o0))] [] KDF M _ _
      refine g1 (pc' := 27) (w_aload_n X dX11_listen_26 rfl 2 rfl) ?_
      refine g1 (pc' := 30) (gt_11_11 X hk0 mw_334 dX11_listen_27) ?_
      refine g1 (pc' := 31) (w_aload_n X dX11_listen_30 rfl 2 rfl) ?_
      refine g1 (pc' := 34) (gt_11_0 X hk0 mw_323 dX11_listen_31) ?_
      refine g_gd (fun h4 => ?_)
      refine g_bd (pc' := 37) (fun r5 => [(2, .int v3), (1, .int (-1 : Int32)), (0, .ref (xb x + o0))]) (fun r5 => []) (fun r5 => r5) (fun r5 h => k_X10_begin X hR hN Z kd_115 h4 mw_863 (by decide) (Nat.le_of_ble_eq_true rfl) dX11_listen_34 h) (fun r5 => ?_)
      show Gz x 5 37 [(2, .int v3), (1, .int (-1 : Int32)), (0, .ref (xb x + o0))] [] KDF r5 _ _
      refine g1 (pc' := 38) (w_iconst X (0) dX11_listen_37 (by decide)) ?_
      refine g1 (pc' := 39) (lv' := [(3, .int (0 : Int32)), (2, .int v3), (1, .int (-1 : Int32)), (0, .ref (xb x + o0))]) (w_istore_n X dX11_listen_38 rfl (by decide) rfl) ?_
      refine g_pick (lv' := [(0, .ref (xb x + o0)), (1, .int (-1 : Int32)), (2, .int v3), (3, .int (0 : Int32))]) [3, 2, 1, 0] rfl ?_
      refine g_bdJ (J := 98) (fun e15 => [(1, .int e15.1)]) (fun e15 => []) (fun e15 => e15.2) (g_lp (fun s39 => [(0, .ref (xb x + o0)), (1, .int s39.1), (2, .int s39.2.1), (3, .int s39.2.2.1)]) (fun s39 => s39.2.2.2) (fun s39 => ?_) 100000 ((-1 : Int32), v3, (0 : Int32), r5)) (fun e15 => ?_)
      · show Gz x 5 39 [(0, .ref (xb x + o0)), (1, .int s39.1), (2, .int s39.2.1), (3, .int s39.2.2.1)] [] KDF s39.2.2.2 (b_X11_listen_39 o0 s39) _
        unfold b_X11_listen_39
        refine g1 (pc' := 40) (w_iload_n X dX11_listen_39 rfl 3 rfl) ?_
        refine g1 (pc' := 42) (w_bipush X (100) dX11_listen_40 (by decide)) ?_
        refine g_if (pcT := 98) (pcF := 45) (w_icmp_ge (tgt := 98) X dX11_listen_42 (by decide)) (fun h6 => ?_) (fun h6 => ?_)
        · refine g_inr ?_
          exact g_end [1] rfl rfl rfl
        · refine g1 (pc' := 46) (w_iload_n X dX11_listen_45 rfl 2 rfl) ?_
          refine g1 (pc' := 47) (w_iconst X (1) dX11_listen_46 (by decide)) ?_
          refine g_if (pcT := 98) (pcF := 50) (w_icmp_le (tgt := 98) X dX11_listen_47 (by decide)) (fun h7 => ?_) (fun h7 => ?_)
          · refine g_inr ?_
            exact g_end [1] rfl rfl rfl
          · refine g1 (pc' := 51) (w_aload_n X dX11_listen_50 rfl 0 rfl) ?_
            refine g1 (pc' := 54) (gt_11_13 X hk0 mw_336 dX11_listen_51) ?_
            refine g1 (pc' := 55) (w_aload_n X dX11_listen_54 rfl 0 rfl) ?_
            refine g1 (pc' := 58) (gt_11_11 X hk0 mw_334 dX11_listen_55) ?_
            refine g1 (pc' := 61) (gt_10_0 X kd_115 mw_194 dX11_listen_58) ?_
            refine g1 (pc' := 62) (w_aload_n X dX11_listen_61 rfl 0 rfl) ?_
            refine g1 (pc' := 65) (gt_11_0 X hk0 mw_323 dX11_listen_62) ?_
            refine g_gd (fun h8 => ?_)
            refine g_bd (pc' := 68) (fun r9 => [(0, .ref (xb x + o0)), (1, .int s39.1), (2, .int s39.2.1), (3, .int s39.2.2.1)]) (fun r9 => [.int r9]) (fun r9 => s39.2.2.2) (fun r9 h => k_X2_greatestPartAlike X hR hN Z kd_117 h8 mw_876 (by decide) (Nat.le_of_ble_eq_true rfl) dX11_listen_65 h) (fun r9 => ?_)
            show Gz x 5 68 [(0, .ref (xb x + o0)), (1, .int s39.1), (2, .int s39.2.1), (3, .int s39.2.2.1)] [.int r9] KDF s39.2.2.2 _ _
            refine g1 (pc' := 70) (lv' := [(4, .int r9), (0, .ref (xb x + o0)), (1, .int s39.1), (2, .int s39.2.1), (3, .int s39.2.2.1)]) (w_istore X dX11_listen_68 (by decide) rfl) ?_
            refine g1 (pc' := 72) (w_iload X dX11_listen_70 0 rfl) ?_
            refine g1 (pc' := 73) (w_iload_n X dX11_listen_72 rfl 3 rfl) ?_
            refine g_ltJ (J := 81) (fun j10 => [(0, .ref (xb x + o0)), (1, .int j10.1), (2, .int j10.2), (3, .int s39.2.2.1)]) (fun j10 => []) (fun j10 => s39.2.2.2) ?_ (fun j10 => ?_)
            · refine g_ifS (pcT := 81) (pcF := 76) (w_icmp_ge (tgt := 81) X dX11_listen_73 (by decide)) (fun h11 => ?_) (fun h11 => ?_)
              · exact g_end [1, 2, 3, 4] rfl rfl rfl
              · refine g1 (pc' := 78) (w_iload X dX11_listen_76 0 rfl) ?_
                refine g1 (pc' := 79) (lv' := [(2, .int r9), (4, .int r9), (0, .ref (xb x + o0)), (1, .int s39.1), (3, .int s39.2.2.1)]) (w_istore_n X dX11_listen_78 rfl (by decide) rfl) ?_
                refine g1 (pc' := 80) (w_iload_n X dX11_listen_79 rfl 4 rfl) ?_
                refine g1 (pc' := 81) (lv' := [(1, .int s39.2.2.1), (2, .int r9), (4, .int r9), (0, .ref (xb x + o0)), (3, .int s39.2.2.1)]) (w_istore_n X dX11_listen_80 rfl (by decide) rfl) ?_
                exact g_end [3, 0, 1, 4] rfl rfl rfl
            · show Gz x 5 81 [(0, .ref (xb x + o0)), (1, .int j10.1), (2, .int j10.2), (3, .int s39.2.2.1)] [] KDF s39.2.2.2 _ _
              refine g1 (pc' := 82) (w_aload_n X dX11_listen_81 rfl 0 rfl) ?_
              refine g1 (pc' := 85) (gt_11_11 X hk0 mw_334 dX11_listen_82) ?_
              refine g1 (pc' := 86) (w_aload_n X dX11_listen_85 rfl 0 rfl) ?_
              refine g1 (pc' := 89) (gt_11_0 X hk0 mw_323 dX11_listen_86) ?_
              refine g_gd (fun h12 => ?_)
              refine g_bd (pc' := 92) (fun r13 => [(0, .ref (xb x + o0)), (1, .int j10.1), (2, .int j10.2), (3, .int s39.2.2.1)]) (fun r13 => []) (fun r13 => r13) (fun r13 h => k_X10_step X hR hN Z kd_115 h12 mw_726 (by decide) (Nat.le_of_ble_eq_true rfl) dX11_listen_89 h) (fun r13 => ?_)
              show Gz x 5 92 [(0, .ref (xb x + o0)), (1, .int j10.1), (2, .int j10.2), (3, .int s39.2.2.1)] [] KDF r13 _ _
              refine g_lt (pc' := 95) (fun v14 => [(3, .int v14), (0, .ref (xb x + o0)), (1, .int j10.1), (2, .int j10.2)]) (fun v14 => []) (fun v14 => r13) (w_iinc X dX11_listen_92 3 rfl rfl (by decide) rfl) (fun v14 => ?_)
              show Gz x 5 95 [(3, .int v14), (0, .ref (xb x + o0)), (1, .int j10.1), (2, .int j10.2)] [] KDF r13 _ _
              refine g1 (pc' := 39) (w_goto X dX11_listen_95 (by decide)) ?_
              refine g_inl ?_
              exact g_end [1, 2, 3, 0] rfl rfl rfl
      · show Gz x 5 98 [(1, .int e15.1)] [] KDF e15.2 _ _
        refine g1 (pc' := 99) (w_iload_n X dX11_listen_98 rfl 0 rfl) ?_
        exact g_rI2 X dX11_listen_99
  exact G _ h _ rfl
theorem k_X11_listen {x : Cxt} {cc : ByteArray} {nL : Nat} {own : String} {ret : Option FieldType} (X : Ok x cc nL own ret) {d : Nat} (hR : Rm x d KDF) (hN : Nst x) (Z : xz x = 0) {pc : Nat} {lv : List (Nat × Value)} {rest : List Value} {M : Mm} {o0 : Nat} (hk0 : KDF[o0]? = some (11, 0)) {idx : Nat} (hw : Cond.methodLink own idx yX11_listen ∈ tbG) (hdd : 6 + 1 ≤ d) (hrm : (rest.map fun v => v.category).sum ≤ 8) (hd : decode cc pc = .ok (.invokevirtual idx, 3)) {r : Int32} {M' : Mm} (h : f_X11_listen o0 M = some (r, M')) : StpZ x nL pc lv (.ref (xb x + o0) :: rest) KDF M (pc + 3) lv (.int r :: rest) KDF M' :=
  w_callV (st := []) (As := []) X hR hN (CtX0 Z (c_X11_listen hk0 h)) ⟨Nat.le_refl _, Nat.le_refl _⟩ ⟨Nat.le_refl _, Nat.le_refl _⟩ hk0 (ci := 11) (fs := fs_11 o0) (fun _ _ _ => rfl) rfl hw mw_872 mw_873 mw_61 mw_874 (n := 0) (by decide +kernel) rfl hdd (by decide) hrm hd
def f_X11_write (o0 : Nat) (x1 : Int32) (x2 : Int32) (M : Mm) : Option (Int32 × Mm) :=
  Gd (KDF[(M o0 0).toNatClampNeg]? = some (9, 0)) ((if (f_X9_hasBell (M o0 0).toNatClampNeg x1 M) = 0 then some ((-1000000001 : Int32), M) else Gd (KDF[(M o0 0).toNatClampNeg]? = some (9, 0)) ((if (f_X9_hasBell (M o0 0).toNatClampNeg x2 M) = 0 then some ((-1000000001 : Int32), M) else Bd (f_X2_enter 117 x1 x2 M) (fun r5 => (if r5.1 = 0 then some ((-1000000004 : Int32), r5.2) else some ((r5.2 117 2), r5.2)))))))
set_option maxRecDepth 100000 in
set_option maxHeartbeats 4000000 in
theorem c_X11_write {l : Launch} {D : va_G} {an : An} {b : Nat} {o0 : Nat} {x1 : Int32} {x2 : Int32} (hk0 : KDF[o0]? = some (11, 0)) {M : Mm} {r : Int32} {M' : Mm} (h : f_X11_write o0 x1 x2 M = some (r, M')) : Ct l D an b 0 yX11_write cX11_write 3 (some .int) 2 [.ref (b + o0), .int x1, .int x2] KDF M (some (.int r)) KDF M' := by
  refine CtX.mk (as := fun b => [.ref (b + o0), .int x1, .int x2]) (rv := fun b => (some (.int r))) (by decide) (fun b => Nat.le_of_ble_eq_true rfl) ⟨Nat.le_refl _, Nat.le_refl _⟩ (fun x X hR Z hN _ _ => ?_)
  have X : Ok x cX11_write 3 RX11 (some .int) := X
  have G : Gz x 3 0 [(0, .ref (xb x + o0)), (1, .int x1), (2, .int x2)] [] KDF M (f_X11_write o0 x1 x2 M) (PsI2 x KDF) := by
    unfold f_X11_write
    refine g1 (pc' := 1) (w_aload_n X dX11_write_0 rfl 0 rfl) ?_
    refine g1 (pc' := 4) (gt_11_0 X hk0 mw_323 dX11_write_1) ?_
    refine g_gd (fun h1 => ?_)
    refine g1 (pc' := 5) (w_iload_n X dX11_write_4 rfl 1 rfl) ?_
    refine g1 (pc' := 8) (k_X9_hasBell X hR hN Z h1 mw_550 (by decide) (Nat.le_of_ble_eq_true rfl) dX11_write_5) ?_
    refine g_if (pcT := 22) (pcF := 11) (w_if_eq (tgt := 22) X dX11_write_8 (by decide)) (fun h2 => ?_) (fun h2 => ?_)
    · refine g1 (pc' := 24) (w_ldc (v := -1000000001) X dX11_write_22 mw_554) ?_
      exact g_rI2 X dX11_write_24
    · refine g1 (pc' := 12) (w_aload_n X dX11_write_11 rfl 0 rfl) ?_
      refine g1 (pc' := 15) (gt_11_0 X hk0 mw_323 dX11_write_12) ?_
      refine g_gd (fun h3 => ?_)
      refine g1 (pc' := 16) (w_iload_n X dX11_write_15 rfl 2 rfl) ?_
      refine g1 (pc' := 19) (k_X9_hasBell X hR hN Z h3 mw_550 (by decide) (Nat.le_of_ble_eq_true rfl) dX11_write_16) ?_
      refine g_if (pcT := 22) (pcF := 25) (w_if_ne (tgt := 25) X dX11_write_19 (by decide)) (fun h4 => ?_) (fun h4 => ?_)
      · refine g1 (pc' := 24) (w_ldc (v := -1000000001) X dX11_write_22 mw_554) ?_
        exact g_rI2 X dX11_write_24
      · refine g1 (pc' := 26) (w_aload_n X dX11_write_25 rfl 0 rfl) ?_
        refine g1 (pc' := 29) (gt_11_13 X hk0 mw_336 dX11_write_26) ?_
        refine g1 (pc' := 30) (w_iload_n X dX11_write_29 rfl 1 rfl) ?_
        refine g1 (pc' := 31) (w_iload_n X dX11_write_30 rfl 2 rfl) ?_
        refine g_bd (pc' := 34) (fun r5 => [(0, .ref (xb x + o0)), (1, .int x1), (2, .int x2)]) (fun r5 => [.int r5.1]) (fun r5 => r5.2) (fun r5 h => k_X2_enter X hR hN Z kd_117 mw_893 (by decide) (Nat.le_of_ble_eq_true rfl) dX11_write_31 h) (fun r5 => ?_)
        show Gz x 3 34 [(0, .ref (xb x + o0)), (1, .int x1), (2, .int x2)] [.int r5.1] KDF r5.2 _ _
        refine g_if (pcT := 47) (pcF := 37) (w_if_eq (tgt := 47) X dX11_write_34 (by decide)) (fun h6 => ?_) (fun h6 => ?_)
        · refine g1 (pc' := 49) (w_ldc (v := -1000000004) X dX11_write_47 mw_381) ?_
          exact g_rI2 X dX11_write_49
        · refine g1 (pc' := 38) (w_aload_n X dX11_write_37 rfl 0 rfl) ?_
          refine g1 (pc' := 41) (gt_11_13 X hk0 mw_336 dX11_write_38) ?_
          refine g1 (pc' := 44) (gt_2_2 X kd_117 mw_309 dX11_write_41) ?_
          refine g1 (pc' := 49) (w_goto X dX11_write_44 (by decide)) ?_
          exact g_rI2 X dX11_write_49
  exact G _ h _ rfl
theorem k_X11_write {x : Cxt} {cc : ByteArray} {nL : Nat} {own : String} {ret : Option FieldType} (X : Ok x cc nL own ret) {d : Nat} (hR : Rm x d KDF) (hN : Nst x) (Z : xz x = 0) {pc : Nat} {lv : List (Nat × Value)} {rest : List Value} {M : Mm} {o0 : Nat} {x1 : Int32} {x2 : Int32} (hk0 : KDF[o0]? = some (11, 0)) {idx : Nat} (hw : Cond.methodLink own idx yX11_write ∈ tbG) (hdd : 2 + 1 ≤ d) (hrm : (rest.map fun v => v.category).sum ≤ 8) (hd : decode cc pc = .ok (.invokevirtual idx, 3)) {r : Int32} {M' : Mm} (h : f_X11_write o0 x1 x2 M = some (r, M')) : StpZ x nL pc lv (.int x2 :: .int x1 :: .ref (xb x + o0) :: rest) KDF M (pc + 3) lv (.int r :: rest) KDF M' :=
  w_callV (st := []) (As := [.int x1, .int x2]) X hR hN (CtX0 Z (c_X11_write hk0 h)) ⟨Nat.le_refl _, Nat.le_refl _⟩ ⟨Nat.le_refl _, Nat.le_refl _⟩ hk0 (ci := 11) (fs := fs_11 o0) (fun _ _ _ => rfl) rfl hw mw_890 mw_891 mw_61 mw_892 (n := 2) (by decide +kernel) rfl hdd (by decide) hrm hd
def f_X11_tear (o0 : Nat) (M : Mm) : Option (Int32 × Mm) :=
  Lt ((M 117 0) + (M 117 2)) (fun v1 => Gd (KDF[(M o0 0).toNatClampNeg]? = some (9, 0)) (Bd (f_X2_empty 117 (M o0 0).toNatClampNeg M) (fun r3 => some (v1, r3))))
set_option maxRecDepth 100000 in
set_option maxHeartbeats 4000000 in
theorem c_X11_tear {l : Launch} {D : va_G} {an : An} {b : Nat} {o0 : Nat} (hk0 : KDF[o0]? = some (11, 0)) {M : Mm} {r : Int32} {M' : Mm} (h : f_X11_tear o0 M = some (r, M')) : Ct l D an b 0 yX11_tear cX11_tear 2 (some .int) 3 [.ref (b + o0)] KDF M (some (.int r)) KDF M' := by
  refine CtX.mk (as := fun b => [.ref (b + o0)]) (rv := fun b => (some (.int r))) (by decide) (fun b => Nat.le_of_ble_eq_true rfl) ⟨Nat.le_refl _, Nat.le_refl _⟩ (fun x X hR Z hN _ _ => ?_)
  have X : Ok x cX11_tear 2 RX11 (some .int) := X
  have G : Gz x 2 0 [(0, .ref (xb x + o0))] [] KDF M (f_X11_tear o0 M) (PsI2 x KDF) := by
    unfold f_X11_tear
    refine g1 (pc' := 1) (w_aload_n X dX11_tear_0 rfl 0 rfl) ?_
    refine g1 (pc' := 4) (gt_11_13 X hk0 mw_336 dX11_tear_1) ?_
    refine g1 (pc' := 7) (gt_2_0 X kd_117 mw_305 dX11_tear_4) ?_
    refine g1 (pc' := 8) (w_aload_n X dX11_tear_7 rfl 0 rfl) ?_
    refine g1 (pc' := 11) (gt_11_13 X hk0 mw_336 dX11_tear_8) ?_
    refine g1 (pc' := 14) (gt_2_2 X kd_117 mw_309 dX11_tear_11) ?_
    refine g1 (pc' := 15) (w_iadd X dX11_tear_14) ?_
    refine g_lt (pc' := 16) (fun v1 => [(1, .int v1), (0, .ref (xb x + o0))]) (fun v1 => []) (fun v1 => M) (w_istore_n X dX11_tear_15 rfl (by decide) rfl) (fun v1 => ?_)
    show Gz x 2 16 [(1, .int v1), (0, .ref (xb x + o0))] [] KDF M _ _
    refine g1 (pc' := 17) (w_aload_n X dX11_tear_16 rfl 1 rfl) ?_
    refine g1 (pc' := 20) (gt_11_13 X hk0 mw_336 dX11_tear_17) ?_
    refine g1 (pc' := 21) (w_aload_n X dX11_tear_20 rfl 1 rfl) ?_
    refine g1 (pc' := 24) (gt_11_0 X hk0 mw_323 dX11_tear_21) ?_
    refine g_gd (fun h2 => ?_)
    refine g_bd (pc' := 27) (fun r3 => [(1, .int v1), (0, .ref (xb x + o0))]) (fun r3 => []) (fun r3 => r3) (fun r3 h => k_X2_empty X hR hN Z kd_117 h2 mw_490 (by decide) (Nat.le_of_ble_eq_true rfl) dX11_tear_24 h) (fun r3 => ?_)
    show Gz x 2 27 [(1, .int v1), (0, .ref (xb x + o0))] [] KDF r3 _ _
    refine g1 (pc' := 28) (w_iload_n X dX11_tear_27 rfl 0 rfl) ?_
    exact g_rI2 X dX11_tear_28
  exact G _ h _ rfl
theorem k_X11_tear {x : Cxt} {cc : ByteArray} {nL : Nat} {own : String} {ret : Option FieldType} (X : Ok x cc nL own ret) {d : Nat} (hR : Rm x d KDF) (hN : Nst x) (Z : xz x = 0) {pc : Nat} {lv : List (Nat × Value)} {rest : List Value} {M : Mm} {o0 : Nat} (hk0 : KDF[o0]? = some (11, 0)) {idx : Nat} (hw : Cond.methodLink own idx yX11_tear ∈ tbG) (hdd : 3 + 1 ≤ d) (hrm : (rest.map fun v => v.category).sum ≤ 8) (hd : decode cc pc = .ok (.invokevirtual idx, 3)) {r : Int32} {M' : Mm} (h : f_X11_tear o0 M = some (r, M')) : StpZ x nL pc lv (.ref (xb x + o0) :: rest) KDF M (pc + 3) lv (.int r :: rest) KDF M' :=
  w_callV (st := []) (As := []) X hR hN (CtX0 Z (c_X11_tear hk0 h)) ⟨Nat.le_refl _, Nat.le_refl _⟩ ⟨Nat.le_refl _, Nat.le_refl _⟩ hk0 (ci := 11) (fs := fs_11 o0) (fun _ _ _ => rfl) rfl hw mw_898 mw_899 mw_61 mw_900 (n := 0) (by decide +kernel) rfl hdd (by decide) hrm hd
def f_X11_judge (o0 : Nat) (M : Mm) : Option (Int32) :=
  Gd (KDF[(M o0 0).toNatClampNeg]? = some (9, 0)) (Bd (f_X2_firstWrong 117 (M (37 + 1) 0) (M o0 0).toNatClampNeg M) (fun r2 => some r2))
set_option maxRecDepth 100000 in
set_option maxHeartbeats 4000000 in
theorem c_X11_judge {l : Launch} {D : va_G} {an : An} {b : Nat} {o0 : Nat} (hk0 : KDF[o0]? = some (11, 0)) {M : Mm} {r : Int32} (h : f_X11_judge o0 M = some r) : Ct l D an b 0 yX11_judge cX11_judge 1 (some .int) 4 [.ref (b + o0)] KDF M (some (.int r)) KDF M := by
  refine CtX.mk (as := fun b => [.ref (b + o0)]) (rv := fun b => (some (.int r))) (by decide) (fun b => Nat.le_of_ble_eq_true rfl) ⟨Nat.le_refl _, Nat.le_refl _⟩ (fun x X hR Z hN _ _ => ?_)
  have X : Ok x cX11_judge 1 RX11 (some .int) := X
  have G : Gz x 1 0 [(0, .ref (xb x + o0))] [] KDF M (f_X11_judge o0 M) (PsI x KDF M) := by
    unfold f_X11_judge
    refine g1 (pc' := 1) (w_aload_n X dX11_judge_0 rfl 0 rfl) ?_
    refine g1 (pc' := 4) (gt_11_13 X hk0 mw_336 dX11_judge_1) ?_
    refine g1 (pc' := 5) (w_aload_n X dX11_judge_4 rfl 0 rfl) ?_
    refine g1 (pc' := 8) (gt_11_3 X hk0 mw_326 dX11_judge_5) ?_
    refine g1 (pc' := 11) (gt_1_0 X kd_37 mw_208 dX11_judge_8) ?_
    refine g1 (pc' := 14) (gt_10_0 X (kd_Ev1 kd_37) mw_194 dX11_judge_11) ?_
    refine g1 (pc' := 15) (w_aload_n X dX11_judge_14 rfl 0 rfl) ?_
    refine g1 (pc' := 18) (gt_11_0 X hk0 mw_323 dX11_judge_15) ?_
    refine g_gd (fun h1 => ?_)
    refine g_bd (pc' := 21) (fun r2 => [(0, .ref (xb x + o0))]) (fun r2 => [.int r2]) (fun r2 => M) (fun r2 h => k_X2_firstWrong X hR hN Z kd_117 h1 mw_905 (by decide) (Nat.le_of_ble_eq_true rfl) dX11_judge_18 h) (fun r2 => ?_)
    show Gz x 1 21 [(0, .ref (xb x + o0))] [.int r2] KDF M _ _
    exact g_rI X dX11_judge_21
  exact G _ h _ rfl
theorem k_X11_judge {x : Cxt} {cc : ByteArray} {nL : Nat} {own : String} {ret : Option FieldType} (X : Ok x cc nL own ret) {d : Nat} (hR : Rm x d KDF) (hN : Nst x) (Z : xz x = 0) {pc : Nat} {lv : List (Nat × Value)} {rest : List Value} {M : Mm} {o0 : Nat} (hk0 : KDF[o0]? = some (11, 0)) {idx : Nat} (hw : Cond.methodLink own idx yX11_judge ∈ tbG) (hdd : 4 + 1 ≤ d) (hrm : (rest.map fun v => v.category).sum ≤ 8) (hd : decode cc pc = .ok (.invokevirtual idx, 3)) {r : Int32} (h : f_X11_judge o0 M = some r) : StpZ x nL pc lv (.ref (xb x + o0) :: rest) KDF M (pc + 3) lv (.int r :: rest) KDF M :=
  w_callV (st := []) (As := []) X hR hN (CtX0 Z (c_X11_judge hk0 h)) ⟨Nat.le_refl _, Nat.le_refl _⟩ ⟨Nat.le_refl _, Nat.le_refl _⟩ hk0 (ci := 11) (fs := fs_11 o0) (fun _ _ _ => rfl) rfl hw mw_902 mw_903 mw_61 mw_904 (n := 0) (by decide +kernel) rfl hdd (by decide) hrm hd
def f_X11_seed (o0 : Nat) (x1 : Int32) (M : Mm) : Option (Int32 × Mm) :=
  (if 0 ≤ x1 then Lt (M o0 15) (fun v2 => Lt (st2 M o0 15 x1) (fun M3 => some (v2, M3))) else some ((-1000000002 : Int32), M))
set_option maxRecDepth 100000 in
set_option maxHeartbeats 4000000 in
theorem c_X11_seed {l : Launch} {D : va_G} {an : An} {b : Nat} {o0 : Nat} {x1 : Int32} (hk0 : KDF[o0]? = some (11, 0)) {M : Mm} {r : Int32} {M' : Mm} (h : f_X11_seed o0 x1 M = some (r, M')) : Ct l D an b 0 yX11_seed cX11_seed 3 (some .int) 1 [.ref (b + o0), .int x1] KDF M (some (.int r)) KDF M' := by
  refine CtX.mk (as := fun b => [.ref (b + o0), .int x1]) (rv := fun b => (some (.int r))) (by decide) (fun b => Nat.le_of_ble_eq_true rfl) ⟨Nat.le_refl _, Nat.le_refl _⟩ (fun x X hR Z hN _ _ => ?_)
  have X : Ok x cX11_seed 3 RX11 (some .int) := X
  have G : Gz x 3 0 [(0, .ref (xb x + o0)), (1, .int x1)] [] KDF M (f_X11_seed o0 x1 M) (PsI2 x KDF) := by
    unfold f_X11_seed
    refine g1 (pc' := 1) (w_iload_n X dX11_seed_0 rfl 1 rfl) ?_
    refine g_if (pcT := 7) (pcF := 4) (w_if_ge (tgt := 7) X dX11_seed_1 (by decide)) (fun h1 => ?_) (fun h1 => ?_)
    · refine g1 (pc' := 8) (w_aload_n X dX11_seed_7 rfl 0 rfl) ?_
      refine g1 (pc' := 11) (gt_11_15 X hk0 mw_338 dX11_seed_8) ?_
      refine g_lt (pc' := 12) (fun v2 => [(2, .int v2), (0, .ref (xb x + o0)), (1, .int x1)]) (fun v2 => []) (fun v2 => M) (w_istore_n X dX11_seed_11 rfl (by decide) rfl) (fun v2 => ?_)
      show Gz x 3 12 [(2, .int v2), (0, .ref (xb x + o0)), (1, .int x1)] [] KDF M _ _
      refine g1 (pc' := 13) (w_aload_n X dX11_seed_12 rfl 1 rfl) ?_
      refine g1 (pc' := 14) (w_iload_n X dX11_seed_13 rfl 2 rfl) ?_
      refine g_lt (pc' := 17) (fun M3 => [(2, .int v2), (0, .ref (xb x + o0)), (1, .int x1)]) (fun M3 => []) (fun M3 => M3) (pt_11_15 X Z hk0 mw_338 dX11_seed_14) (fun M3 => ?_)
      show Gz x 3 17 [(2, .int v2), (0, .ref (xb x + o0)), (1, .int x1)] [] KDF M3 _ _
      refine g1 (pc' := 18) (w_iload_n X dX11_seed_17 rfl 0 rfl) ?_
      exact g_rI2 X dX11_seed_18
    · refine g1 (pc' := 6) (w_ldc (v := -1000000002) X dX11_seed_4 mw_376) ?_
      exact g_rI2 X dX11_seed_6
  exact G _ h _ rfl
theorem k_X11_seed {x : Cxt} {cc : ByteArray} {nL : Nat} {own : String} {ret : Option FieldType} (X : Ok x cc nL own ret) {d : Nat} (hR : Rm x d KDF) (hN : Nst x) (Z : xz x = 0) {pc : Nat} {lv : List (Nat × Value)} {rest : List Value} {M : Mm} {o0 : Nat} {x1 : Int32} (hk0 : KDF[o0]? = some (11, 0)) {idx : Nat} (hw : Cond.methodLink own idx yX11_seed ∈ tbG) (hdd : 1 + 1 ≤ d) (hrm : (rest.map fun v => v.category).sum ≤ 8) (hd : decode cc pc = .ok (.invokevirtual idx, 3)) {r : Int32} {M' : Mm} (h : f_X11_seed o0 x1 M = some (r, M')) : StpZ x nL pc lv (.int x1 :: .ref (xb x + o0) :: rest) KDF M (pc + 3) lv (.int r :: rest) KDF M' :=
  w_callV (st := []) (As := [.int x1]) X hR hN (CtX0 Z (c_X11_seed hk0 h)) ⟨Nat.le_refl _, Nat.le_refl _⟩ ⟨Nat.le_refl _, Nat.le_refl _⟩ hk0 (ci := 11) (fs := fs_11 o0) (fun _ _ _ => rfl) rfl hw mw_911 mw_912 mw_61 mw_913 (n := 1) (by decide +kernel) rfl hdd (by decide) hrm hd
def f_X11_keep (o0 : Nat) (x1 : Int32) (M : Mm) : Option (Int32 × Mm) :=
  (if x1 < 0 then some ((-1000000001 : Int32), M) else (if x1 < (2 : Int32) then Gd (ib x1 2) (Gd (KDF[(120 + 4 * ix x1)]? = some (1, 0)) (Bd (f_X1_copyFrom (120 + 4 * ix x1) 37 M) (fun r5 => Gd (ib x1 2) (Lt (st2 r5 108 (ix x1) (r5 o0 15)) (fun M7 => Lt (st2 M7 o0 7 ((M7 o0 7) ||| (sl (1 : Int32) x1))) (fun M8 => Bd (f_X3_forget 41 M8) (fun r9 => some ((1 : Int32), r9)))))))) else some ((-1000000001 : Int32), M)))
set_option maxRecDepth 100000 in
set_option maxHeartbeats 4000000 in
theorem c_X11_keep {l : Launch} {D : va_G} {an : An} {b : Nat} {o0 : Nat} {x1 : Int32} (hk0 : KDF[o0]? = some (11, 0)) {M : Mm} {r : Int32} {M' : Mm} (h : f_X11_keep o0 x1 M = some (r, M')) : Ct l D an b 0 yX11_keep cX11_keep 2 (some .int) 3 [.ref (b + o0), .int x1] KDF M (some (.int r)) KDF M' := by
  refine CtX.mk (as := fun b => [.ref (b + o0), .int x1]) (rv := fun b => (some (.int r))) (by decide) (fun b => Nat.le_of_ble_eq_true rfl) ⟨Nat.le_refl _, Nat.le_refl _⟩ (fun x X hR Z hN _ _ => ?_)
  have X : Ok x cX11_keep 2 RX11 (some .int) := X
  have G : Gz x 2 0 [(0, .ref (xb x + o0)), (1, .int x1)] [] KDF M (f_X11_keep o0 x1 M) (PsI2 x KDF) := by
    unfold f_X11_keep
    refine g1 (pc' := 1) (w_iload_n X dX11_keep_0 rfl 1 rfl) ?_
    refine g_if (pcT := 9) (pcF := 4) (w_if_lt (tgt := 9) X dX11_keep_1 (by decide)) (fun h1 => ?_) (fun h1 => ?_)
    · refine g1 (pc' := 11) (w_ldc (v := -1000000001) X dX11_keep_9 mw_554) ?_
      exact g_rI2 X dX11_keep_11
    · refine g1 (pc' := 5) (w_iload_n X dX11_keep_4 rfl 1 rfl) ?_
      refine g1 (pc' := 6) (w_iconst X (2) dX11_keep_5 (by decide)) ?_
      refine g_if (pcT := 12) (pcF := 9) (w_icmp_lt (tgt := 12) X dX11_keep_6 (by decide)) (fun h2 => ?_) (fun h2 => ?_)
      · refine g1 (pc' := 13) (w_aload_n X dX11_keep_12 rfl 0 rfl) ?_
        refine g1 (pc' := 16) (gt_11_5 X hk0 mw_328 dX11_keep_13) ?_
        refine g1 (pc' := 17) (w_iload_n X dX11_keep_16 rfl 1 rfl) ?_
        refine g_gd (fun h3 => ?_)
        refine g1 (pc' := 18) (w_aald17 X kd_107 h3 dX11_keep_17) ?_
        refine g_gd (fun h4 => ?_)
        refine g1 (pc' := 19) (w_aload_n X dX11_keep_18 rfl 0 rfl) ?_
        refine g1 (pc' := 22) (gt_11_3 X hk0 mw_326 dX11_keep_19) ?_
        refine g_bd (pc' := 25) (fun r5 => [(0, .ref (xb x + o0)), (1, .int x1)]) (fun r5 => []) (fun r5 => r5) (fun r5 h => k_X1_copyFrom X hR hN Z h4 kd_37 mw_918 (by decide) (Nat.le_of_ble_eq_true rfl) dX11_keep_22 h) (fun r5 => ?_)
        show Gz x 2 25 [(0, .ref (xb x + o0)), (1, .int x1)] [] KDF r5 _ _
        refine g1 (pc' := 26) (w_aload_n X dX11_keep_25 rfl 0 rfl) ?_
        refine g1 (pc' := 29) (gt_11_6 X hk0 mw_329 dX11_keep_26) ?_
        refine g1 (pc' := 30) (w_iload_n X dX11_keep_29 rfl 1 rfl) ?_
        refine g1 (pc' := 31) (w_aload_n X dX11_keep_30 rfl 0 rfl) ?_
        refine g1 (pc' := 34) (gt_11_15 X hk0 mw_338 dX11_keep_31) ?_
        refine g_gd (fun h6 => ?_)
        refine g_lt (pc' := 35) (fun M7 => [(0, .ref (xb x + o0)), (1, .int x1)]) (fun M7 => []) (fun M7 => M7) (w_iast X Z kd_108 h6 dX11_keep_34) (fun M7 => ?_)
        show Gz x 2 35 [(0, .ref (xb x + o0)), (1, .int x1)] [] KDF M7 _ _
        refine g1 (pc' := 36) (w_aload_n X dX11_keep_35 rfl 0 rfl) ?_
        refine g1 (pc' := 37) (w_dup X dX11_keep_36 rfl) ?_
        refine g1 (pc' := 40) (gt_11_7 X hk0 mw_330 dX11_keep_37) ?_
        refine g1 (pc' := 41) (w_iconst X (1) dX11_keep_40 (by decide)) ?_
        refine g1 (pc' := 42) (w_iload_n X dX11_keep_41 rfl 1 rfl) ?_
        refine g1 (pc' := 43) (w_ishl X dX11_keep_42) ?_
        refine g1 (pc' := 44) (w_ior X dX11_keep_43) ?_
        refine g_lt (pc' := 47) (fun M8 => [(0, .ref (xb x + o0)), (1, .int x1)]) (fun M8 => []) (fun M8 => M8) (pt_11_7 X Z hk0 mw_330 dX11_keep_44) (fun M8 => ?_)
        show Gz x 2 47 [(0, .ref (xb x + o0)), (1, .int x1)] [] KDF M8 _ _
        refine g1 (pc' := 48) (w_aload_n X dX11_keep_47 rfl 0 rfl) ?_
        refine g1 (pc' := 51) (gt_11_4 X hk0 mw_327 dX11_keep_48) ?_
        refine g_bd (pc' := 54) (fun r9 => [(0, .ref (xb x + o0)), (1, .int x1)]) (fun r9 => []) (fun r9 => r9) (fun r9 h => k_X3_forget X hR hN Z kd_41 mw_496 (by decide) (Nat.le_of_ble_eq_true rfl) dX11_keep_51 h) (fun r9 => ?_)
        show Gz x 2 54 [(0, .ref (xb x + o0)), (1, .int x1)] [] KDF r9 _ _
        refine g1 (pc' := 55) (w_iconst X (1) dX11_keep_54 (by decide)) ?_
        exact g_rI2 X dX11_keep_55
      · refine g1 (pc' := 11) (w_ldc (v := -1000000001) X dX11_keep_9 mw_554) ?_
        exact g_rI2 X dX11_keep_11
  exact G _ h _ rfl
theorem k_X11_keep {x : Cxt} {cc : ByteArray} {nL : Nat} {own : String} {ret : Option FieldType} (X : Ok x cc nL own ret) {d : Nat} (hR : Rm x d KDF) (hN : Nst x) (Z : xz x = 0) {pc : Nat} {lv : List (Nat × Value)} {rest : List Value} {M : Mm} {o0 : Nat} {x1 : Int32} (hk0 : KDF[o0]? = some (11, 0)) {idx : Nat} (hw : Cond.methodLink own idx yX11_keep ∈ tbG) (hdd : 3 + 1 ≤ d) (hrm : (rest.map fun v => v.category).sum ≤ 8) (hd : decode cc pc = .ok (.invokevirtual idx, 3)) {r : Int32} {M' : Mm} (h : f_X11_keep o0 x1 M = some (r, M')) : StpZ x nL pc lv (.int x1 :: .ref (xb x + o0) :: rest) KDF M (pc + 3) lv (.int r :: rest) KDF M' :=
  w_callV (st := []) (As := [.int x1]) X hR hN (CtX0 Z (c_X11_keep hk0 h)) ⟨Nat.le_refl _, Nat.le_refl _⟩ ⟨Nat.le_refl _, Nat.le_refl _⟩ hk0 (ci := 11) (fs := fs_11 o0) (fun _ _ _ => rfl) rfl hw mw_915 mw_916 mw_61 mw_917 (n := 1) (by decide +kernel) rfl hdd (by decide) hrm hd
def f_X11_goBack (o0 : Nat) (x1 : Int32) (M : Mm) : Option (Int32 × Mm) :=
  (if x1 < 0 then some ((-1000000001 : Int32), M) else (if x1 < (2 : Int32) then (if ((sr (M o0 7) x1) &&& (1 : Int32)) = 0 then some ((-1000000003 : Int32), M) else Gd (ib x1 2) (Gd (KDF[(120 + 4 * ix x1)]? = some (1, 0)) (Bd (f_X1_copyFrom 37 (120 + 4 * ix x1) M) (fun r6 => Gd (ib x1 2) (Lt (st2 r6 o0 15 (r6 108 (ix x1))) (fun M8 => Bd (f_X3_forget 41 M8) (fun r9 => some ((1 : Int32), r9)))))))) else some ((-1000000001 : Int32), M)))
set_option maxRecDepth 100000 in
set_option maxHeartbeats 4000000 in
theorem c_X11_goBack {l : Launch} {D : va_G} {an : An} {b : Nat} {o0 : Nat} {x1 : Int32} (hk0 : KDF[o0]? = some (11, 0)) {M : Mm} {r : Int32} {M' : Mm} (h : f_X11_goBack o0 x1 M = some (r, M')) : Ct l D an b 0 yX11_goBack cX11_goBack 2 (some .int) 3 [.ref (b + o0), .int x1] KDF M (some (.int r)) KDF M' := by
  refine CtX.mk (as := fun b => [.ref (b + o0), .int x1]) (rv := fun b => (some (.int r))) (by decide) (fun b => Nat.le_of_ble_eq_true rfl) ⟨Nat.le_refl _, Nat.le_refl _⟩ (fun x X hR Z hN _ _ => ?_)
  have X : Ok x cX11_goBack 2 RX11 (some .int) := X
  have G : Gz x 2 0 [(0, .ref (xb x + o0)), (1, .int x1)] [] KDF M (f_X11_goBack o0 x1 M) (PsI2 x KDF) := by
    unfold f_X11_goBack
    refine g1 (pc' := 1) (w_iload_n X dX11_goBack_0 rfl 1 rfl) ?_
    refine g_if (pcT := 9) (pcF := 4) (w_if_lt (tgt := 9) X dX11_goBack_1 (by decide)) (fun h1 => ?_) (fun h1 => ?_)
    · refine g1 (pc' := 11) (w_ldc (v := -1000000001) X dX11_goBack_9 mw_554) ?_
      exact g_rI2 X dX11_goBack_11
    · refine g1 (pc' := 5) (w_iload_n X dX11_goBack_4 rfl 1 rfl) ?_
      refine g1 (pc' := 6) (w_iconst X (2) dX11_goBack_5 (by decide)) ?_
      refine g_if (pcT := 12) (pcF := 9) (w_icmp_lt (tgt := 12) X dX11_goBack_6 (by decide)) (fun h2 => ?_) (fun h2 => ?_)
      · refine g1 (pc' := 13) (w_aload_n X dX11_goBack_12 rfl 0 rfl) ?_
        refine g1 (pc' := 16) (gt_11_7 X hk0 mw_330 dX11_goBack_13) ?_
        refine g1 (pc' := 17) (w_iload_n X dX11_goBack_16 rfl 1 rfl) ?_
        refine g1 (pc' := 18) (w_ishr X dX11_goBack_17) ?_
        refine g1 (pc' := 19) (w_iconst X (1) dX11_goBack_18 (by decide)) ?_
        refine g1 (pc' := 20) (w_iand X dX11_goBack_19) ?_
        refine g_if (pcT := 23) (pcF := 26) (w_if_ne (tgt := 26) X dX11_goBack_20 (by decide)) (fun h3 => ?_) (fun h3 => ?_)
        · refine g1 (pc' := 25) (w_ldc (v := -1000000003) X dX11_goBack_23 mw_541) ?_
          exact g_rI2 X dX11_goBack_25
        · refine g1 (pc' := 27) (w_aload_n X dX11_goBack_26 rfl 0 rfl) ?_
          refine g1 (pc' := 30) (gt_11_3 X hk0 mw_326 dX11_goBack_27) ?_
          refine g1 (pc' := 31) (w_aload_n X dX11_goBack_30 rfl 0 rfl) ?_
          refine g1 (pc' := 34) (gt_11_5 X hk0 mw_328 dX11_goBack_31) ?_
          refine g1 (pc' := 35) (w_iload_n X dX11_goBack_34 rfl 1 rfl) ?_
          refine g_gd (fun h4 => ?_)
          refine g1 (pc' := 36) (w_aald17 X kd_107 h4 dX11_goBack_35) ?_
          refine g_gd (fun h5 => ?_)
          refine g_bd (pc' := 39) (fun r6 => [(0, .ref (xb x + o0)), (1, .int x1)]) (fun r6 => []) (fun r6 => r6) (fun r6 h => k_X1_copyFrom X hR hN Z kd_37 h5 mw_918 (by decide) (Nat.le_of_ble_eq_true rfl) dX11_goBack_36 h) (fun r6 => ?_)
          show Gz x 2 39 [(0, .ref (xb x + o0)), (1, .int x1)] [] KDF r6 _ _
          refine g1 (pc' := 40) (w_aload_n X dX11_goBack_39 rfl 0 rfl) ?_
          refine g1 (pc' := 41) (w_aload_n X dX11_goBack_40 rfl 0 rfl) ?_
          refine g1 (pc' := 44) (gt_11_6 X hk0 mw_329 dX11_goBack_41) ?_
          refine g1 (pc' := 45) (w_iload_n X dX11_goBack_44 rfl 1 rfl) ?_
          refine g_gd (fun h7 => ?_)
          refine g1 (pc' := 46) (w_iald X kd_108 h7 dX11_goBack_45) ?_
          refine g_lt (pc' := 49) (fun M8 => [(0, .ref (xb x + o0)), (1, .int x1)]) (fun M8 => []) (fun M8 => M8) (pt_11_15 X Z hk0 mw_338 dX11_goBack_46) (fun M8 => ?_)
          show Gz x 2 49 [(0, .ref (xb x + o0)), (1, .int x1)] [] KDF M8 _ _
          refine g1 (pc' := 50) (w_aload_n X dX11_goBack_49 rfl 0 rfl) ?_
          refine g1 (pc' := 53) (gt_11_4 X hk0 mw_327 dX11_goBack_50) ?_
          refine g_bd (pc' := 56) (fun r9 => [(0, .ref (xb x + o0)), (1, .int x1)]) (fun r9 => []) (fun r9 => r9) (fun r9 h => k_X3_forget X hR hN Z kd_41 mw_496 (by decide) (Nat.le_of_ble_eq_true rfl) dX11_goBack_53 h) (fun r9 => ?_)
          show Gz x 2 56 [(0, .ref (xb x + o0)), (1, .int x1)] [] KDF r9 _ _
          refine g1 (pc' := 57) (w_iconst X (1) dX11_goBack_56 (by decide)) ?_
          exact g_rI2 X dX11_goBack_57
      · refine g1 (pc' := 11) (w_ldc (v := -1000000001) X dX11_goBack_9 mw_554) ?_
        exact g_rI2 X dX11_goBack_11
  exact G _ h _ rfl
theorem k_X11_goBack {x : Cxt} {cc : ByteArray} {nL : Nat} {own : String} {ret : Option FieldType} (X : Ok x cc nL own ret) {d : Nat} (hR : Rm x d KDF) (hN : Nst x) (Z : xz x = 0) {pc : Nat} {lv : List (Nat × Value)} {rest : List Value} {M : Mm} {o0 : Nat} {x1 : Int32} (hk0 : KDF[o0]? = some (11, 0)) {idx : Nat} (hw : Cond.methodLink own idx yX11_goBack ∈ tbG) (hdd : 3 + 1 ≤ d) (hrm : (rest.map fun v => v.category).sum ≤ 8) (hd : decode cc pc = .ok (.invokevirtual idx, 3)) {r : Int32} {M' : Mm} (h : f_X11_goBack o0 x1 M = some (r, M')) : StpZ x nL pc lv (.int x1 :: .ref (xb x + o0) :: rest) KDF M (pc + 3) lv (.int r :: rest) KDF M' :=
  w_callV (st := []) (As := [.int x1]) X hR hN (CtX0 Z (c_X11_goBack hk0 h)) ⟨Nat.le_refl _, Nat.le_refl _⟩ ⟨Nat.le_refl _, Nat.le_refl _⟩ hk0 (ci := 11) (fs := fs_11 o0) (fun _ _ _ => rfl) rfl hw mw_920 mw_921 mw_61 mw_922 (n := 1) (by decide +kernel) rfl hdd (by decide) hrm hd
def f_X12_in (x0 : Int32) (x1 : Int32) (x2 : Int32) : Int32 :=
  (if x0 < x1 then (0 : Int32) else (if x2 < x0 then (0 : Int32) else (1 : Int32)))
theorem z_X12_in {x0 : Int32} {x1 : Int32} {x2 : Int32} : zb (f_X12_in x0 x1 x2) := by
  unfold f_X12_in
  repeat' (first | exact zb0 | exact zb1 | apply zbi)
set_option maxRecDepth 100000 in
set_option maxHeartbeats 4000000 in
theorem c_X12_in {l : Launch} {D : va_G} {an : An} {b : Nat} {x0 : Int32} {x1 : Int32} {x2 : Int32}  {M : Mm}  : Ct l D an b 0 yX12_in cX12_in 3 (some .boolean) 1 [.int x0, .int x1, .int x2] KDF M (some (.int (f_X12_in x0 x1 x2))) KDF M := by
  refine CtX.mk (as := fun b => [.int x0, .int x1, .int x2]) (rv := fun b => (some (.int (f_X12_in x0 x1 x2)))) (by decide) (fun b => Nat.le_of_ble_eq_true rfl) ⟨Nat.le_refl _, Nat.le_refl _⟩ (fun x X hR Z hN _ _ => ?_)
  have X : Ok x cX12_in 3 RX12 (some .boolean) := X
  have G : Gz x 3 0 [(0, .int x0), (1, .int x1), (2, .int x2)] [] KDF M (some (f_X12_in x0 x1 x2)) (PsI x KDF M) := by
    unfold f_X12_in
    refine g1 (pc' := 1) (w_iload_n X dX12_in_0 rfl 0 rfl) ?_
    refine g1 (pc' := 2) (w_iload_n X dX12_in_1 rfl 1 rfl) ?_
    refine g_ifS (pcT := 14) (pcF := 5) (w_icmp_lt (tgt := 14) X dX12_in_2 (by decide)) (fun h1 => ?_) (fun h1 => ?_)
    · refine g1 (pc' := 15) (w_iconst X (0) dX12_in_14 (by decide)) ?_
      exact g_rZ X zb0 dX12_in_15
    · refine g1 (pc' := 6) (w_iload_n X dX12_in_5 rfl 0 rfl) ?_
      refine g1 (pc' := 7) (w_iload_n X dX12_in_6 rfl 2 rfl) ?_
      refine g_ifS (pcT := 14) (pcF := 10) (w_icmp_gt (tgt := 14) X dX12_in_7 (by decide)) (fun h2 => ?_) (fun h2 => ?_)
      · refine g1 (pc' := 15) (w_iconst X (0) dX12_in_14 (by decide)) ?_
        exact g_rZ X zb0 dX12_in_15
      · refine g1 (pc' := 11) (w_iconst X (1) dX12_in_10 (by decide)) ?_
        refine g1 (pc' := 15) (w_goto X dX12_in_11 (by decide)) ?_
        exact g_rZ X zb1 dX12_in_15
  exact G _ rfl _ rfl
theorem k_X12_in {x : Cxt} {cc : ByteArray} {nL : Nat} {own : String} {ret : Option FieldType} (X : Ok x cc nL own ret) {d : Nat} (hR : Rm x d KDF) (hN : Nst x) (Z : xz x = 0) {pc : Nat} {lv : List (Nat × Value)} {rest : List Value} {M : Mm} {x0 : Int32} {x1 : Int32} {x2 : Int32}  {idx : Nat} (hw : Cond.methodLink own idx yX12_in ∈ tbG) (hdd : 1 + 1 ≤ d) (hrm : (rest.map fun v => v.category).sum ≤ 8) (hd : decode cc pc = .ok (.invokestatic idx, 3))  : StpZ x nL pc lv (.int x2 :: .int x1 :: .int x0 :: rest) KDF M (pc + 3) lv (.int (f_X12_in x0 x1 x2) :: rest) KDF M :=
  w_callS (st := []) (As := [.int x0, .int x1, .int x2]) X hR hN (CtX0 Z (c_X12_in  )) ⟨Nat.le_refl _, Nat.le_refl _⟩ ⟨Nat.le_refl _, Nat.le_refl _⟩ hw mw_1056 mw_72 mw_1057 (n := 3) (by decide +kernel) rfl hdd (by decide) hrm hd
def f_X12_has (x0 : Int32) (x1 : Int32) : Int32 :=
  (if ((sr x0 x1) &&& (1 : Int32)) = (1 : Int32) then (1 : Int32) else (0 : Int32))
theorem z_X12_has {x0 : Int32} {x1 : Int32} : zb (f_X12_has x0 x1) := by
  unfold f_X12_has
  repeat' (first | exact zb0 | exact zb1 | apply zbi)
set_option maxRecDepth 100000 in
set_option maxHeartbeats 4000000 in
theorem c_X12_has {l : Launch} {D : va_G} {an : An} {b : Nat} {x0 : Int32} {x1 : Int32}  {M : Mm}  : Ct l D an b 0 yX12_has cX12_has 2 (some .boolean) 1 [.int x0, .int x1] KDF M (some (.int (f_X12_has x0 x1))) KDF M := by
  refine CtX.mk (as := fun b => [.int x0, .int x1]) (rv := fun b => (some (.int (f_X12_has x0 x1)))) (by decide) (fun b => Nat.le_of_ble_eq_true rfl) ⟨Nat.le_refl _, Nat.le_refl _⟩ (fun x X hR Z hN _ _ => ?_)
  have X : Ok x cX12_has 2 RX12 (some .boolean) := X
  have G : Gz x 2 0 [(0, .int x0), (1, .int x1)] [] KDF M (some (f_X12_has x0 x1)) (PsI x KDF M) := by
    unfold f_X12_has
    refine g1 (pc' := 1) (w_iload_n X dX12_has_0 rfl 0 rfl) ?_
    refine g1 (pc' := 2) (w_iload_n X dX12_has_1 rfl 1 rfl) ?_
    refine g1 (pc' := 3) (w_ishr X dX12_has_2) ?_
    refine g1 (pc' := 4) (w_iconst X (1) dX12_has_3 (by decide)) ?_
    refine g1 (pc' := 5) (w_iand X dX12_has_4) ?_
    refine g1 (pc' := 6) (w_iconst X (1) dX12_has_5 (by decide)) ?_
    refine g_ifS (pcT := 9) (pcF := 13) (w_icmp_ne (tgt := 13) X dX12_has_6 (by decide)) (fun h1 => ?_) (fun h1 => ?_)
    · refine g1 (pc' := 10) (w_iconst X (1) dX12_has_9 (by decide)) ?_
      refine g1 (pc' := 14) (w_goto X dX12_has_10 (by decide)) ?_
      exact g_rZ X zb1 dX12_has_14
    · refine g1 (pc' := 14) (w_iconst X (0) dX12_has_13 (by decide)) ?_
      exact g_rZ X zb0 dX12_has_14
  exact G _ rfl _ rfl
theorem k_X12_has {x : Cxt} {cc : ByteArray} {nL : Nat} {own : String} {ret : Option FieldType} (X : Ok x cc nL own ret) {d : Nat} (hR : Rm x d KDF) (hN : Nst x) (Z : xz x = 0) {pc : Nat} {lv : List (Nat × Value)} {rest : List Value} {M : Mm} {x0 : Int32} {x1 : Int32}  {idx : Nat} (hw : Cond.methodLink own idx yX12_has ∈ tbG) (hdd : 1 + 1 ≤ d) (hrm : (rest.map fun v => v.category).sum ≤ 8) (hd : decode cc pc = .ok (.invokestatic idx, 3))  : StpZ x nL pc lv (.int x1 :: .int x0 :: rest) KDF M (pc + 3) lv (.int (f_X12_has x0 x1) :: rest) KDF M :=
  w_callS (st := []) (As := [.int x0, .int x1]) X hR hN (CtX0 Z (c_X12_has  )) ⟨Nat.le_refl _, Nat.le_refl _⟩ ⟨Nat.le_refl _, Nat.le_refl _⟩ hw mw_1100 mw_72 mw_1101 (n := 2) (by decide +kernel) rfl hdd (by decide) hrm hd
def b_X12_bits_4 (x0 : Int32) (s4 : Int32 × Int32) : Option ((Int32 × Int32) ⊕ (Int32)) :=
  (if (12 : Int32) ≤ s4.2 then some (.inr s4.1) else Lt (s4.1 + ((sr x0 s4.2) &&& (1 : Int32))) (fun v2 => Lt (s4.2 + (1 : Int32)) (fun v3 => some (.inl (v2, v3)))))
def f_X12_bits (x0 : Int32) : Option (Int32) :=
  Bd (Lp (b_X12_bits_4 x0) 100000 ((0 : Int32), (0 : Int32))) (fun e4 => some e4)
set_option maxRecDepth 100000 in
set_option maxHeartbeats 4000000 in
theorem c_X12_bits {l : Launch} {D : va_G} {an : An} {b : Nat} {x0 : Int32}  {M : Mm} {r : Int32} (h : f_X12_bits x0 = some r) : Ct l D an b 0 yX12_bits cX12_bits 3 (some .int) 1 [.int x0] KDF M (some (.int r)) KDF M := by
  refine CtX.mk (as := fun b => [.int x0]) (rv := fun b => (some (.int r))) (by decide) (fun b => Nat.le_of_ble_eq_true rfl) ⟨Nat.le_refl _, Nat.le_refl _⟩ (fun x X hR Z hN _ _ => ?_)
  have X : Ok x cX12_bits 3 RX12 (some .int) := X
  have G : Gz x 3 0 [(0, .int x0)] [] KDF M (f_X12_bits x0) (PsI x KDF M) := by
    unfold f_X12_bits
    refine g1 (pc' := 1) (w_iconst X (0) dX12_bits_0 (by decide)) ?_
    refine g1 (pc' := 2) (lv' := [(1, .int (0 : Int32)), (0, .int x0)]) (w_istore_n X dX12_bits_1 rfl (by decide) rfl) ?_
    refine g1 (pc' := 3) (w_iconst X (0) dX12_bits_2 (by decide)) ?_
    refine g1 (pc' := 4) (lv' := [(2, .int (0 : Int32)), (1, .int (0 : Int32)), (0, .int x0)]) (w_istore_n X dX12_bits_3 rfl (by decide) rfl) ?_
    refine g_pick (lv' := [(0, .int x0), (1, .int (0 : Int32)), (2, .int (0 : Int32))]) [2, 1, 0] rfl ?_
    refine g_bdJ (J := 24) (fun e4 => [(1, .int e4)]) (fun e4 => []) (fun e4 => M) (g_lp (fun s4 => [(0, .int x0), (1, .int s4.1), (2, .int s4.2)]) (fun s4 => M) (fun s4 => ?_) 100000 ((0 : Int32), (0 : Int32))) (fun e4 => ?_)
    · show Gz x 3 4 [(0, .int x0), (1, .int s4.1), (2, .int s4.2)] [] KDF M (b_X12_bits_4 x0 s4) _
      unfold b_X12_bits_4
      refine g1 (pc' := 5) (w_iload_n X dX12_bits_4 rfl 2 rfl) ?_
      refine g1 (pc' := 7) (w_bipush X (12) dX12_bits_5 (by decide)) ?_
      refine g_if (pcT := 24) (pcF := 10) (w_icmp_ge (tgt := 24) X dX12_bits_7 (by decide)) (fun h1 => ?_) (fun h1 => ?_)
      · refine g_inr ?_
        exact g_end [1] rfl rfl rfl
      · refine g1 (pc' := 11) (w_iload_n X dX12_bits_10 rfl 1 rfl) ?_
        refine g1 (pc' := 12) (w_iload_n X dX12_bits_11 rfl 0 rfl) ?_
        refine g1 (pc' := 13) (w_iload_n X dX12_bits_12 rfl 2 rfl) ?_
        refine g1 (pc' := 14) (w_ishr X dX12_bits_13) ?_
        refine g1 (pc' := 15) (w_iconst X (1) dX12_bits_14 (by decide)) ?_
        refine g1 (pc' := 16) (w_iand X dX12_bits_15) ?_
        refine g1 (pc' := 17) (w_iadd X dX12_bits_16) ?_
        refine g_lt (pc' := 18) (fun v2 => [(1, .int v2), (0, .int x0), (2, .int s4.2)]) (fun v2 => []) (fun v2 => M) (w_istore_n X dX12_bits_17 rfl (by decide) rfl) (fun v2 => ?_)
        show Gz x 3 18 [(1, .int v2), (0, .int x0), (2, .int s4.2)] [] KDF M _ _
        refine g_lt (pc' := 21) (fun v3 => [(2, .int v3), (1, .int v2), (0, .int x0)]) (fun v3 => []) (fun v3 => M) (w_iinc X dX12_bits_18 2 rfl rfl (by decide) rfl) (fun v3 => ?_)
        show Gz x 3 21 [(2, .int v3), (1, .int v2), (0, .int x0)] [] KDF M _ _
        refine g1 (pc' := 4) (w_goto X dX12_bits_21 (by decide)) ?_
        refine g_inl ?_
        exact g_end [2, 1, 0] rfl rfl rfl
    · show Gz x 3 24 [(1, .int e4)] [] KDF M _ _
      refine g1 (pc' := 25) (w_iload_n X dX12_bits_24 rfl 0 rfl) ?_
      exact g_rI X dX12_bits_25
  exact G _ h _ rfl
theorem k_X12_bits {x : Cxt} {cc : ByteArray} {nL : Nat} {own : String} {ret : Option FieldType} (X : Ok x cc nL own ret) {d : Nat} (hR : Rm x d KDF) (hN : Nst x) (Z : xz x = 0) {pc : Nat} {lv : List (Nat × Value)} {rest : List Value} {M : Mm} {x0 : Int32}  {idx : Nat} (hw : Cond.methodLink own idx yX12_bits ∈ tbG) (hdd : 1 + 1 ≤ d) (hrm : (rest.map fun v => v.category).sum ≤ 8) (hd : decode cc pc = .ok (.invokestatic idx, 3)) {r : Int32} (h : f_X12_bits x0 = some r) : StpZ x nL pc lv (.int x0 :: rest) KDF M (pc + 3) lv (.int r :: rest) KDF M :=
  w_callS (st := []) (As := [.int x0]) X hR hN (CtX0 Z (c_X12_bits  h)) ⟨Nat.le_refl _, Nat.le_refl _⟩ ⟨Nat.le_refl _, Nat.le_refl _⟩ hw mw_1344 mw_72 mw_1345 (n := 1) (by decide +kernel) rfl hdd (by decide) hrm hd
def f_X12_isTower (o0 : Nat) (M : Mm) : Int32 :=
  (if (M o0 16) ≤ 0 then (0 : Int32) else (1 : Int32))
theorem z_X12_isTower {o0 : Nat} {M : Mm} : zb (f_X12_isTower o0 M) := by
  unfold f_X12_isTower
  repeat' (first | exact zb0 | exact zb1 | apply zbi)
set_option maxRecDepth 100000 in
set_option maxHeartbeats 4000000 in
theorem c_X12_isTower {l : Launch} {D : va_G} {an : An} {b : Nat} {o0 : Nat} (hk0 : KDF[o0]? = some (12, 0)) {M : Mm}  : Ct l D an b 0 yX12_isTower cX12_isTower 1 (some .boolean) 1 [.ref (b + o0)] KDF M (some (.int (f_X12_isTower o0 M))) KDF M := by
  refine CtX.mk (as := fun b => [.ref (b + o0)]) (rv := fun b => (some (.int (f_X12_isTower o0 M)))) (by decide) (fun b => Nat.le_of_ble_eq_true rfl) ⟨Nat.le_refl _, Nat.le_refl _⟩ (fun x X hR Z hN _ _ => ?_)
  have X : Ok x cX12_isTower 1 RX12 (some .boolean) := X
  have G : Gz x 1 0 [(0, .ref (xb x + o0))] [] KDF M (some (f_X12_isTower o0 M)) (PsI x KDF M) := by
    unfold f_X12_isTower
    refine g1 (pc' := 1) (w_aload_n X dX12_isTower_0 rfl 0 rfl) ?_
    refine g1 (pc' := 4) (gt_12_16 X hk0 mw_945 dX12_isTower_1) ?_
    refine g_ifS (pcT := 11) (pcF := 7) (w_if_le (tgt := 11) X dX12_isTower_4 (by decide)) (fun h1 => ?_) (fun h1 => ?_)
    · refine g1 (pc' := 12) (w_iconst X (0) dX12_isTower_11 (by decide)) ?_
      exact g_rZ X zb0 dX12_isTower_12
    · refine g1 (pc' := 8) (w_iconst X (1) dX12_isTower_7 (by decide)) ?_
      refine g1 (pc' := 12) (w_goto X dX12_isTower_8 (by decide)) ?_
      exact g_rZ X zb1 dX12_isTower_12
  exact G _ rfl _ rfl
theorem k_X12_isTower {x : Cxt} {cc : ByteArray} {nL : Nat} {own : String} {ret : Option FieldType} (X : Ok x cc nL own ret) {d : Nat} (hR : Rm x d KDF) (hN : Nst x) (Z : xz x = 0) {pc : Nat} {lv : List (Nat × Value)} {rest : List Value} {M : Mm} {o0 : Nat} (hk0 : KDF[o0]? = some (12, 0)) {idx : Nat} (hw : Cond.methodLink own idx yX12_isTower ∈ tbG) (hdd : 1 + 1 ≤ d) (hrm : (rest.map fun v => v.category).sum ≤ 8) (hd : decode cc pc = .ok (.invokevirtual idx, 3))  : StpZ x nL pc lv (.ref (xb x + o0) :: rest) KDF M (pc + 3) lv (.int (f_X12_isTower o0 M) :: rest) KDF M :=
  w_callV (st := []) (As := []) X hR hN (CtX0 Z (c_X12_isTower hk0 )) ⟨Nat.le_refl _, Nat.le_refl _⟩ ⟨Nat.le_refl _, Nat.le_refl _⟩ hk0 (ci := 12) (fs := fs_12 o0) (fun _ _ _ => rfl) rfl hw mw_1162 mw_41 mw_72 mw_1163 (n := 0) (by decide +kernel) rfl hdd (by decide) hrm hd
