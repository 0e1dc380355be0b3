def f_X11_wet (o0 : Nat) (x1 : Int32) (M : Mm) : Option (Int32 × Mm) :=
  Gd (KDF[(M o0 0).toNatClampNeg]? = some (9, 0)) ((if (f_X9_stands (M o0 0).toNatClampNeg M) = 0 then some ((-1000000003 : Int32), M) else Lt (((if (M 37 3) = 0 then (0 : Int32) else (1 : Int32))) : Int32) (fun j3 => Bd (f_X3_remember 41 37 M) (fun r5 => Gd (zb x1) (Lt (st2 r5 37 3 x1) (fun M6 => some (j3, M6)))))))
set_option maxRecDepth 100000 in
set_option maxHeartbeats 4000000 in
theorem c_X11_wet {l : Launch} {D : va_G} {an : An} {b : Nat} {o0 : Nat} {x1 : Int32} (hk0 : KDF[o0]? = some (11, 0)) {M : Mm} {r : Int32} {M' : Mm} (h : f_X11_wet o0 x1 M = some (r, M')) : Ct l D an b 0 yX11_wet cX11_wet 3 (some .int) 4 [.ref (b + o0), .int x1] KDF M (some (.int r)) KDF M' := by
  refine CtX.mk (as := fun b => [.ref (b + o0), .int x1]) (rv := fun b => (some (.int r))) (by decide) (fun b => Nat.le_of_ble_eq_true rfl) ⟨Nat.le_refl _, Nat.le_refl _⟩ (fun x X hR Z hN _ _ => ?_)
  have X : Ok x cX11_wet 3 RX11 (some .int) := X
  have G : Gz x 3 0 [(0, .ref (xb x + o0)), (1, .int x1)] [] KDF M (f_X11_wet o0 x1 M) (PsI2 x KDF) := by
    unfold f_X11_wet
    refine g1 (pc' := 1) (w_aload_n X dX11_wet_0 rfl 0 rfl) ?_
    refine g1 (pc' := 4) (gt_11_0 X hk0 mw_323 dX11_wet_1) ?_
    refine g_gd (fun h1 => ?_)
    refine g1 (pc' := 7) (k_X9_stands X hR hN Z h1 mw_540 (by decide) (Nat.le_of_ble_eq_true rfl) dX11_wet_4) ?_
    refine g_if (pcT := 10) (pcF := 13) (w_if_ne (tgt := 13) X dX11_wet_7 (by decide)) (fun h2 => ?_) (fun h2 => ?_)
    · refine g1 (pc' := 12) (w_ldc (v := -1000000003) X dX11_wet_10 mw_541) ?_
      exact g_rI2 X dX11_wet_12
    · refine g1 (pc' := 14) (w_aload_n X dX11_wet_13 rfl 0 rfl) ?_
      refine g1 (pc' := 17) (gt_11_3 X hk0 mw_326 dX11_wet_14) ?_
      refine g1 (pc' := 20) (gt_1_3 X kd_37 mw_214 dX11_wet_17) ?_
      refine g_ltJ (J := 28) (fun j3 => [(0, .ref (xb x + o0)), (1, .int x1)]) (fun j3 => [.int j3]) (fun j3 => M) ?_ (fun j3 => ?_)
      · refine g_ifS (pcT := 27) (pcF := 23) (w_if_eq (tgt := 27) X dX11_wet_20 (by decide)) (fun h4 => ?_) (fun h4 => ?_)
        · refine g1 (pc' := 28) (w_iconst X (0) dX11_wet_27 (by decide)) ?_
          exact g_end [0, 1] rfl rfl rfl
        · refine g1 (pc' := 24) (w_iconst X (1) dX11_wet_23 (by decide)) ?_
          refine g1 (pc' := 28) (w_goto X dX11_wet_24 (by decide)) ?_
          exact g_end [0, 1] rfl rfl rfl
      · show Gz x 3 28 [(0, .ref (xb x + o0)), (1, .int x1)] [.int j3] KDF M _ _
        refine g1 (pc' := 29) (lv' := [(2, .int j3), (0, .ref (xb x + o0)), (1, .int x1)]) (w_istore_n X dX11_wet_28 rfl (by decide) rfl) ?_
        refine g1 (pc' := 30) (w_aload_n X dX11_wet_29 rfl 1 rfl) ?_
        refine g1 (pc' := 33) (gt_11_4 X hk0 mw_327 dX11_wet_30) ?_
        refine g1 (pc' := 34) (w_aload_n X dX11_wet_33 rfl 1 rfl) ?_
        refine g1 (pc' := 37) (gt_11_3 X hk0 mw_326 dX11_wet_34) ?_
        refine g_bd (pc' := 40) (fun r5 => [(2, .int j3), (0, .ref (xb x + o0)), (1, .int x1)]) (fun r5 => []) (fun r5 => r5) (fun r5 h => k_X3_remember X hR hN Z kd_41 kd_37 mw_598 (by decide) (Nat.le_of_ble_eq_true rfl) dX11_wet_37 h) (fun r5 => ?_)
        show Gz x 3 40 [(2, .int j3), (0, .ref (xb x + o0)), (1, .int x1)] [] KDF r5 _ _
        refine g1 (pc' := 41) (w_aload_n X dX11_wet_40 rfl 1 rfl) ?_
        refine g1 (pc' := 44) (gt_11_3 X hk0 mw_326 dX11_wet_41) ?_
        refine g1 (pc' := 45) (w_iload_n X dX11_wet_44 rfl 2 rfl) ?_
        refine g_gd (fun h7 => ?_)
        refine g_lt (pc' := 48) (fun M6 => [(2, .int j3), (0, .ref (xb x + o0)), (1, .int x1)]) (fun M6 => []) (fun M6 => M6) (pt_1_3 X Z kd_37 h7 mw_214 dX11_wet_45) (fun M6 => ?_)
        show Gz x 3 48 [(2, .int j3), (0, .ref (xb x + o0)), (1, .int x1)] [] KDF M6 _ _
        refine g1 (pc' := 49) (w_iload_n X dX11_wet_48 rfl 0 rfl) ?_
        exact g_rI2 X dX11_wet_49
  exact G _ h _ rfl
theorem k_X11_wet {x : Cxt} {cc : ByteArray} {nL : Nat} {own : String} {ret : Option FieldType} (X : Ok x cc nL own ret) {d : Nat} (hR : Rm x d KDF) (hN : Nst x) (Z : xz x = 0) {pc : Nat} {lv : List (Nat × Value)} {rest : List Value} {M : Mm} {o0 : Nat} {x1 : Int32} (hk0 : KDF[o0]? = some (11, 0)) {idx : Nat} (hw : Cond.methodLink own idx yX11_wet ∈ tbG) (hdd : 4 + 1 ≤ d) (hrm : (rest.map fun v => v.category).sum ≤ 8) (hd : decode cc pc = .ok (.invokevirtual idx, 3)) {r : Int32} {M' : Mm} (h : f_X11_wet o0 x1 M = some (r, M')) : StpZ x nL pc lv (.int x1 :: .ref (xb x + o0) :: rest) KDF M (pc + 3) lv (.int r :: rest) KDF M' :=
  w_callV (st := []) (As := [.int x1]) X hR hN (CtX0 Z (c_X11_wet hk0 h)) ⟨Nat.le_refl _, Nat.le_refl _⟩ ⟨Nat.le_refl _, Nat.le_refl _⟩ hk0 (ci := 11) (fs := fs_11 o0) (fun _ _ _ => rfl) rfl hw mw_678 mw_679 mw_61 mw_680 (n := 1) (by decide +kernel) rfl hdd (by decide) hrm hd
def f_X11_forgive (o0 : Nat) (x1 : Int32) (M : Mm) : Option (Int32 × Mm) :=
  Gd (KDF[(M o0 0).toNatClampNeg]? = some (9, 0)) ((if (f_X9_hasSuitor (M o0 0).toNatClampNeg x1 M) = 0 then some ((-1000000001 : Int32), M) else (if (f_X1_isOut 37 x1 M) = 0 then some ((-1000000003 : Int32), M) else Bd (f_X3_remember 41 37 M) (fun r4 => Lt (st2 r4 37 2 ((r4 37 2) &&& ((sl (1 : Int32) x1) ^^^ (-1 : Int32)))) (fun M5 => some ((M5 37 2), M5))))))
set_option maxRecDepth 100000 in
set_option maxHeartbeats 4000000 in
theorem c_X11_forgive {l : Launch} {D : va_G} {an : An} {b : Nat} {o0 : Nat} {x1 : Int32} (hk0 : KDF[o0]? = some (11, 0)) {M : Mm} {r : Int32} {M' : Mm} (h : f_X11_forgive o0 x1 M = some (r, M')) : Ct l D an b 0 yX11_forgive cX11_forgive 2 (some .int) 4 [.ref (b + o0), .int x1] KDF M (some (.int r)) KDF M' := by
  refine CtX.mk (as := fun b => [.ref (b + o0), .int x1]) (rv := fun b => (some (.int r))) (by decide) (fun b => Nat.le_of_ble_eq_true rfl) ⟨Nat.le_refl _, Nat.le_refl _⟩ (fun x X hR Z hN _ _ => ?_)
  have X : Ok x cX11_forgive 2 RX11 (some .int) := X
  have G : Gz x 2 0 [(0, .ref (xb x + o0)), (1, .int x1)] [] KDF M (f_X11_forgive o0 x1 M) (PsI2 x KDF) := by
    unfold f_X11_forgive
    refine g1 (pc' := 1) (w_aload_n X dX11_forgive_0 rfl 0 rfl) ?_
    refine g1 (pc' := 4) (gt_11_0 X hk0 mw_323 dX11_forgive_1) ?_
    refine g_gd (fun h1 => ?_)
    refine g1 (pc' := 5) (w_iload_n X dX11_forgive_4 rfl 1 rfl) ?_
    refine g1 (pc' := 8) (k_X9_hasSuitor X hR hN Z h1 mw_575 (by decide) (Nat.le_of_ble_eq_true rfl) dX11_forgive_5) ?_
    refine g_if (pcT := 11) (pcF := 14) (w_if_ne (tgt := 14) X dX11_forgive_8 (by decide)) (fun h2 => ?_) (fun h2 => ?_)
    · refine g1 (pc' := 13) (w_ldc (v := -1000000001) X dX11_forgive_11 mw_554) ?_
      exact g_rI2 X dX11_forgive_13
    · refine g1 (pc' := 15) (w_aload_n X dX11_forgive_14 rfl 0 rfl) ?_
      refine g1 (pc' := 18) (gt_11_3 X hk0 mw_326 dX11_forgive_15) ?_
      refine g1 (pc' := 19) (w_iload_n X dX11_forgive_18 rfl 1 rfl) ?_
      refine g1 (pc' := 22) (k_X1_isOut X hR hN Z kd_37 mw_589 (by decide) (Nat.le_of_ble_eq_true rfl) dX11_forgive_19) ?_
      refine g_if (pcT := 25) (pcF := 28) (w_if_ne (tgt := 28) X dX11_forgive_22 (by decide)) (fun h3 => ?_) (fun h3 => ?_)
      · refine g1 (pc' := 27) (w_ldc (v := -1000000003) X dX11_forgive_25 mw_541) ?_
        exact g_rI2 X dX11_forgive_27
      · refine g1 (pc' := 29) (w_aload_n X dX11_forgive_28 rfl 0 rfl) ?_
        refine g1 (pc' := 32) (gt_11_4 X hk0 mw_327 dX11_forgive_29) ?_
        refine g1 (pc' := 33) (w_aload_n X dX11_forgive_32 rfl 0 rfl) ?_
        refine g1 (pc' := 36) (gt_11_3 X hk0 mw_326 dX11_forgive_33) ?_
        refine g_bd (pc' := 39) (fun r4 => [(0, .ref (xb x + o0)), (1, .int x1)]) (fun r4 => []) (fun r4 => r4) (fun r4 h => k_X3_remember X hR hN Z kd_41 kd_37 mw_598 (by decide) (Nat.le_of_ble_eq_true rfl) dX11_forgive_36 h) (fun r4 => ?_)
        show Gz x 2 39 [(0, .ref (xb x + o0)), (1, .int x1)] [] KDF r4 _ _
        refine g1 (pc' := 40) (w_aload_n X dX11_forgive_39 rfl 0 rfl) ?_
        refine g1 (pc' := 43) (gt_11_3 X hk0 mw_326 dX11_forgive_40) ?_
        refine g1 (pc' := 44) (w_dup X dX11_forgive_43 rfl) ?_
        refine g1 (pc' := 47) (gt_1_2 X kd_37 mw_212 dX11_forgive_44) ?_
        refine g1 (pc' := 48) (w_iconst X (1) dX11_forgive_47 (by decide)) ?_
        refine g1 (pc' := 49) (w_iload_n X dX11_forgive_48 rfl 1 rfl) ?_
        refine g1 (pc' := 50) (w_ishl X dX11_forgive_49) ?_
        refine g1 (pc' := 51) (w_iconst X (-1) dX11_forgive_50 (by decide)) ?_
        refine g1 (pc' := 52) (w_ixor X dX11_forgive_51) ?_
        refine g1 (pc' := 53) (w_iand X dX11_forgive_52) ?_
        refine g_lt (pc' := 56) (fun M5 => [(0, .ref (xb x + o0)), (1, .int x1)]) (fun M5 => []) (fun M5 => M5) (pt_1_2 X Z kd_37 mw_212 dX11_forgive_53) (fun M5 => ?_)
        show Gz x 2 56 [(0, .ref (xb x + o0)), (1, .int x1)] [] KDF M5 _ _
        refine g1 (pc' := 57) (w_aload_n X dX11_forgive_56 rfl 0 rfl) ?_
        refine g1 (pc' := 60) (gt_11_3 X hk0 mw_326 dX11_forgive_57) ?_
        refine g1 (pc' := 63) (gt_1_2 X kd_37 mw_212 dX11_forgive_60) ?_
        exact g_rI2 X dX11_forgive_63
  exact G _ h _ rfl
theorem k_X11_forgive {x : Cxt} {cc : ByteArray} {nL : Nat} {own : String} {ret : Option FieldType} (X : Ok x cc nL own ret) {d : Nat} (hR : Rm x d KDF) (hN : Nst x) (Z : xz x = 0) {pc : Nat} {lv : List (Nat × Value)} {rest : List Value} {M : Mm} {o0 : Nat} {x1 : Int32} (hk0 : KDF[o0]? = some (11, 0)) {idx : Nat} (hw : Cond.methodLink own idx yX11_forgive ∈ tbG) (hdd : 4 + 1 ≤ d) (hrm : (rest.map fun v => v.category).sum ≤ 8) (hd : decode cc pc = .ok (.invokevirtual idx, 3)) {r : Int32} {M' : Mm} (h : f_X11_forgive o0 x1 M = some (r, M')) : StpZ x nL pc lv (.int x1 :: .ref (xb x + o0) :: rest) KDF M (pc + 3) lv (.int r :: rest) KDF M' :=
  w_callV (st := []) (As := [.int x1]) X hR hN (CtX0 Z (c_X11_forgive hk0 h)) ⟨Nat.le_refl _, Nat.le_refl _⟩ ⟨Nat.le_refl _, Nat.le_refl _⟩ hk0 (ci := 11) (fs := fs_11 o0) (fun _ _ _ => rfl) rfl hw mw_682 mw_683 mw_61 mw_684 (n := 1) (by decide +kernel) rfl hdd (by decide) hrm hd
def f_X11_draw (o0 : Nat) (x1 : Int32) (M : Mm) : Option (Int32 × Mm) :=
  Lt (st2 M o0 15 (Int64.toInt32 ((((Int32.toInt64 (M o0 15)) * (1103515245 : Int64)) + (12345 : Int64)) &&& (2147483647 : Int64)))) (fun M1 => (if x1 ≤ 0 then some ((0 : Int32), M1) else Gd (¬ x1 = 0) (some ((rm ((M1 o0 15) / (65536 : Int32)) x1), M1))))
set_option maxRecDepth 100000 in
set_option maxHeartbeats 4000000 in
theorem c_X11_draw {l : Launch} {D : va_G} {an : An} {b : Nat} {o0 : Nat} {x1 : Int32} (hk0 : KDF[o0]? = some (11, 0)) {M : Mm} {r : Int32} {M' : Mm} (h : f_X11_draw o0 x1 M = some (r, M')) : Ct l D an b 0 yX11_draw cX11_draw 2 (some .int) 1 [.ref (b + o0), .int x1] KDF M (some (.int r)) KDF M' := by
  refine CtX.mk (as := fun b => [.ref (b + o0), .int x1]) (rv := fun b => (some (.int r))) (by decide) (fun b => Nat.le_of_ble_eq_true rfl) ⟨Nat.le_refl _, Nat.le_refl _⟩ (fun x X hR Z hN _ _ => ?_)
  have X : Ok x cX11_draw 2 RX11 (some .int) := X
  have G : Gz x 2 0 [(0, .ref (xb x + o0)), (1, .int x1)] [] KDF M (f_X11_draw o0 x1 M) (PsI2 x KDF) := by
    unfold f_X11_draw
    refine g1 (pc' := 1) (w_aload_n X dX11_draw_0 rfl 0 rfl) ?_
    refine g1 (pc' := 2) (w_aload_n X dX11_draw_1 rfl 0 rfl) ?_
    refine g1 (pc' := 5) (gt_11_15 X hk0 mw_338 dX11_draw_2) ?_
    refine g1 (pc' := 6) (w_i2l X dX11_draw_5) ?_
    refine g1 (pc' := 9) (w_ldc2 (v := 1103515245) X dX11_draw_6 mw_697) ?_
    refine g1 (pc' := 10) (w_lmul X dX11_draw_9) ?_
    refine g1 (pc' := 13) (w_ldc2 (v := 12345) X dX11_draw_10 mw_698) ?_
    refine g1 (pc' := 14) (w_ladd X dX11_draw_13) ?_
    refine g1 (pc' := 17) (w_ldc2 (v := 2147483647) X dX11_draw_14 mw_699) ?_
    refine g1 (pc' := 18) (w_land X dX11_draw_17) ?_
    refine g1 (pc' := 19) (w_l2i X dX11_draw_18) ?_
    refine g_lt (pc' := 22) (fun M1 => [(0, .ref (xb x + o0)), (1, .int x1)]) (fun M1 => []) (fun M1 => M1) (pt_11_15 X Z hk0 mw_338 dX11_draw_19) (fun M1 => ?_)
    show Gz x 2 22 [(0, .ref (xb x + o0)), (1, .int x1)] [] KDF M1 _ _
    refine g1 (pc' := 23) (w_iload_n X dX11_draw_22 rfl 1 rfl) ?_
    refine g_if (pcT := 39) (pcF := 26) (w_if_le (tgt := 39) X dX11_draw_23 (by decide)) (fun h2 => ?_) (fun h2 => ?_)
    · refine g1 (pc' := 40) (w_iconst X (0) dX11_draw_39 (by decide)) ?_
      exact g_rI2 X dX11_draw_40
    · refine g1 (pc' := 27) (w_aload_n X dX11_draw_26 rfl 0 rfl) ?_
      refine g1 (pc' := 30) (gt_11_15 X hk0 mw_338 dX11_draw_27) ?_
      refine g1 (pc' := 33) (w_ldcw (v := 65536) X dX11_draw_30 mw_700) ?_
      refine g1 (pc' := 34) (w_idiv X dX11_draw_33 (by decide)) ?_
      refine g1 (pc' := 35) (w_iload_n X dX11_draw_34 rfl 1 rfl) ?_
      refine g_gd (fun h3 => ?_)
      refine g1 (pc' := 36) (w_irem X dX11_draw_35 h3) ?_
      refine g1 (pc' := 40) (w_goto X dX11_draw_36 (by decide)) ?_
      exact g_rI2 X dX11_draw_40
  exact G _ h _ rfl
theorem k_X11_draw {x : Cxt} {cc : ByteArray} {nL : Nat} {own : String} {ret : Option FieldType} (X : Ok x cc nL own ret) {d : Nat} (hR : Rm x d KDF) (hN : Nst x) (Z : xz x = 0) {pc : Nat} {lv : List (Nat × Value)} {rest : List Value} {M : Mm} {o0 : Nat} {x1 : Int32} (hk0 : KDF[o0]? = some (11, 0)) {idx : Nat} (hw : Cond.methodLink own idx yX11_draw ∈ tbG) (hdd : 1 + 1 ≤ d) (hrm : (rest.map fun v => v.category).sum ≤ 8) (hd : decode cc pc = .ok (.invokevirtual idx, 3)) {r : Int32} {M' : Mm} (h : f_X11_draw o0 x1 M = some (r, M')) : StpZ x nL pc lv (.int x1 :: .ref (xb x + o0) :: rest) KDF M (pc + 3) lv (.int r :: rest) KDF M' :=
  w_callV (st := []) (As := [.int x1]) X hR hN (CtX0 Z (c_X11_draw hk0 h)) ⟨Nat.le_refl _, Nat.le_refl _⟩ ⟨Nat.le_refl _, Nat.le_refl _⟩ hk0 (ci := 11) (fs := fs_11 o0) (fun _ _ _ => rfl) rfl hw mw_695 mw_12 mw_61 mw_696 (n := 1) (by decide +kernel) rfl hdd (by decide) hrm hd
def f_X11_changeRopesByDraws (o0 : Nat) (M : Mm) : Option (Mm) :=
  Gd (KDF[(M o0 0).toNatClampNeg]? = some (9, 0)) ((if (M (M o0 0).toNatClampNeg 2) ≤ 0 then some M else Gd (KDF[(M o0 0).toNatClampNeg]? = some (9, 0)) (Bd (f_X11_draw o0 (M (M o0 0).toNatClampNeg 2) M) (fun r4 => Gd (KDF[(r4.2 o0 0).toNatClampNeg]? = some (9, 0)) (Bd (f_X11_draw o0 (r4.2 (r4.2 o0 0).toNatClampNeg 2) r4.2) (fun r6 => Bd (f_X1_changeRopes 37 r4.1 r6.1 r6.2) (fun r7 => some r7)))))))
set_option maxRecDepth 100000 in
set_option maxHeartbeats 4000000 in
theorem c_X11_changeRopesByDraws {l : Launch} {D : va_G} {an : An} {b : Nat} {o0 : Nat} (hk0 : KDF[o0]? = some (11, 0)) {M : Mm} {M' : Mm} (h : f_X11_changeRopesByDraws o0 M = some M') : Ct l D an b 0 yX11_changeRopesByDraws cX11_changeRopesByDraws 3 none 2 [.ref (b + o0)] KDF M none KDF M' := by
  refine CtX.mk (as := fun b => [.ref (b + o0)]) (rv := fun b => none) (by decide) (fun b => Nat.le_of_ble_eq_true rfl) ⟨Nat.le_refl _, Nat.le_refl _⟩ (fun x X hR Z hN _ _ => ?_)
  have X : Ok x cX11_changeRopesByDraws 3 RX11 none := X
  have G : Gz x 3 0 [(0, .ref (xb x + o0))] [] KDF M (f_X11_changeRopesByDraws o0 M) (PsM x KDF) := by
    unfold f_X11_changeRopesByDraws
    refine g1 (pc' := 1) (w_aload_n X dX11_changeRopesByDraws_0 rfl 0 rfl) ?_
    refine g1 (pc' := 4) (gt_11_0 X hk0 mw_323 dX11_changeRopesByDraws_1) ?_
    refine g_gd (fun h1 => ?_)
    refine g1 (pc' := 7) (gt_9_2 X h1 mw_124 dX11_changeRopesByDraws_4) ?_
    refine g_if (pcT := 43) (pcF := 10) (w_if_le (tgt := 43) X dX11_changeRopesByDraws_7 (by decide)) (fun h2 => ?_) (fun h2 => ?_)
    · exact g_rM X dX11_changeRopesByDraws_43
    · refine g1 (pc' := 11) (w_aload_n X dX11_changeRopesByDraws_10 rfl 0 rfl) ?_
      refine g1 (pc' := 12) (w_aload_n X dX11_changeRopesByDraws_11 rfl 0 rfl) ?_
      refine g1 (pc' := 15) (gt_11_0 X hk0 mw_323 dX11_changeRopesByDraws_12) ?_
      refine g_gd (fun h3 => ?_)
      refine g1 (pc' := 18) (gt_9_2 X h3 mw_124 dX11_changeRopesByDraws_15) ?_
      refine g_bd (pc' := 21) (fun r4 => [(0, .ref (xb x + o0))]) (fun r4 => [.int r4.1]) (fun r4 => r4.2) (fun r4 h => k_X11_draw X hR hN Z hk0 mw_693 (by decide) (Nat.le_of_ble_eq_true rfl) dX11_changeRopesByDraws_18 h) (fun r4 => ?_)
      show Gz x 3 21 [(0, .ref (xb x + o0))] [.int r4.1] KDF r4.2 _ _
      refine g1 (pc' := 22) (lv' := [(1, .int r4.1), (0, .ref (xb x + o0))]) (w_istore_n X dX11_changeRopesByDraws_21 rfl (by decide) rfl) ?_
      refine g1 (pc' := 23) (w_aload_n X dX11_changeRopesByDraws_22 rfl 1 rfl) ?_
      refine g1 (pc' := 24) (w_aload_n X dX11_changeRopesByDraws_23 rfl 1 rfl) ?_
      refine g1 (pc' := 27) (gt_11_0 X hk0 mw_323 dX11_changeRopesByDraws_24) ?_
      refine g_gd (fun h5 => ?_)
      refine g1 (pc' := 30) (gt_9_2 X h5 mw_124 dX11_changeRopesByDraws_27) ?_
      refine g_bd (pc' := 33) (fun r6 => [(1, .int r4.1), (0, .ref (xb x + o0))]) (fun r6 => [.int r6.1]) (fun r6 => r6.2) (fun r6 h => k_X11_draw X hR hN Z hk0 mw_693 (by decide) (Nat.le_of_ble_eq_true rfl) dX11_changeRopesByDraws_30 h) (fun r6 => ?_)
      show Gz x 3 33 [(1, .int r4.1), (0, .ref (xb x + o0))] [.int r6.1] KDF r6.2 _ _
      refine g1 (pc' := 34) (lv' := [(2, .int r6.1), (1, .int r4.1), (0, .ref (xb x + o0))]) (w_istore_n X dX11_changeRopesByDraws_33 rfl (by decide) rfl) ?_
      refine g1 (pc' := 35) (w_aload_n X dX11_changeRopesByDraws_34 rfl 2 rfl) ?_
      refine g1 (pc' := 38) (gt_11_3 X hk0 mw_326 dX11_changeRopesByDraws_35) ?_
      refine g1 (pc' := 39) (w_iload_n X dX11_changeRopesByDraws_38 rfl 1 rfl) ?_
      refine g1 (pc' := 40) (w_iload_n X dX11_changeRopesByDraws_39 rfl 0 rfl) ?_
      refine g_bd (pc' := 43) (fun r7 => [(2, .int r6.1), (1, .int r4.1), (0, .ref (xb x + o0))]) (fun r7 => []) (fun r7 => r7) (fun r7 h => k_X1_changeRopes X hR hN Z kd_37 mw_668 (by decide) (Nat.le_of_ble_eq_true rfl) dX11_changeRopesByDraws_40 h) (fun r7 => ?_)
      show Gz x 3 43 [(2, .int r6.1), (1, .int r4.1), (0, .ref (xb x + o0))] [] KDF r7 _ _
      exact g_rM X dX11_changeRopesByDraws_43
  exact G _ h _ rfl
theorem k_X11_changeRopesByDraws {x : Cxt} {cc : ByteArray} {nL : Nat} {own : String} {ret : Option FieldType} (X : Ok x cc nL own ret) {d : Nat} (hR : Rm x d KDF) (hN : Nst x) (Z : xz x = 0) {pc : Nat} {lv : List (Nat × Value)} {rest : List Value} {M : Mm} {o0 : Nat} (hk0 : KDF[o0]? = some (11, 0)) {idx : Nat} (hw : Cond.methodLink own idx yX11_changeRopesByDraws ∈ tbG) (hdd : 2 + 1 ≤ d) (hrm : (rest.map fun v => v.category).sum ≤ 8) (hd : decode cc pc = .ok (.invokevirtual idx, 3)) {M' : Mm} (h : f_X11_changeRopesByDraws o0 M = some M') : StpZ x nL pc lv (.ref (xb x + o0) :: rest) KDF M (pc + 3) lv (rest) KDF M' :=
  w_callV (st := []) (As := []) X hR hN (CtX0 Z (c_X11_changeRopesByDraws hk0 h)) ⟨Nat.le_refl _, Nat.le_refl _⟩ ⟨Nat.le_refl _, Nat.le_refl _⟩ hk0 (ci := 11) (fs := fs_11 o0) (fun _ _ _ => rfl) rfl hw mw_703 mw_13 mw_61 mw_704 (n := 0) (by decide +kernel) rfl hdd (by decide) hrm hd
def f_X11_letChanceAct (o0 : Nat) (M : Mm) : Option (Mm) :=
  Bd (f_X11_draw o0 (8 : Int32) M) (fun r1 => (if r1.1 = (0 : Int32) then Lt (st2 r1.2 (37 + 1) 2 (1 : Int32)) (fun M3 => some M3) else (if r1.1 = (1 : Int32) then Lt (((if (r1.2 37 3) = 0 then (1 : Int32) else (0 : Int32))) : Int32) (fun j5 => Gd (zb j5) (Lt (st2 r1.2 37 3 j5) (fun M7 => some M7))) else (if r1.1 = (2 : Int32) then Bd (f_X11_changeRopesByDraws o0 r1.2) (fun r10 => some r10) else some r1.2))))
set_option maxRecDepth 100000 in
set_option maxHeartbeats 4000000 in
theorem c_X11_letChanceAct {l : Launch} {D : va_G} {an : An} {b : Nat} {o0 : Nat} (hk0 : KDF[o0]? = some (11, 0)) {M : Mm} {M' : Mm} (h : f_X11_letChanceAct o0 M = some M') : Ct l D an b 0 yX11_letChanceAct cX11_letChanceAct 1 none 3 [.ref (b + o0)] KDF M none KDF M' := by
  refine CtX.mk (as := fun b => [.ref (b + o0)]) (rv := fun b => none) (by decide) (fun b => Nat.le_of_ble_eq_true rfl) ⟨Nat.le_refl _, Nat.le_refl _⟩ (fun x X hR Z hN _ _ => ?_)
  have X : Ok x cX11_letChanceAct 1 RX11 none := X
  have G : Gz x 1 0 [(0, .ref (xb x + o0))] [] KDF M (f_X11_letChanceAct o0 M) (PsM x KDF) := by
    unfold f_X11_letChanceAct
    refine g1 (pc' := 1) (w_aload_n X dX11_letChanceAct_0 rfl 0 rfl) ?_
    refine g1 (pc' := 3) (w_bipush X (8) dX11_letChanceAct_1 (by decide)) ?_
    refine g_bd (pc' := 6) (fun r1 => [(0, .ref (xb x + o0))]) (fun r1 => [.int r1.1]) (fun r1 => r1.2) (fun r1 h => k_X11_draw X hR hN Z hk0 mw_693 (by decide) (Nat.le_of_ble_eq_true rfl) dX11_letChanceAct_3 h) (fun r1 => ?_)
    show Gz x 1 6 [(0, .ref (xb x + o0))] [.int r1.1] KDF r1.2 _ _
    refine g_by (fun h2 => ?_) (fun h2 => ?_)
    · refine g1 (pc' := 32) (w_tsIn (off := 26) X dX11_letChanceAct_6 (0) (by rw [h2]; rfl) (by decide) (by decide) rfl (by decide)) ?_
      refine g1 (pc' := 33) (w_aload_n X dX11_letChanceAct_32 rfl 0 rfl) ?_
      refine g1 (pc' := 36) (gt_11_3 X hk0 mw_326 dX11_letChanceAct_33) ?_
      refine g1 (pc' := 39) (gt_1_0 X kd_37 mw_208 dX11_letChanceAct_36) ?_
      refine g1 (pc' := 40) (w_iconst X (1) dX11_letChanceAct_39 (by decide)) ?_
      refine g_lt (pc' := 43) (fun M3 => [(0, .ref (xb x + o0))]) (fun M3 => []) (fun M3 => M3) (pt_10_2 X Z (kd_Ev1 kd_37) zb1 mw_199 dX11_letChanceAct_40) (fun M3 => ?_)
      show Gz x 1 43 [(0, .ref (xb x + o0))] [] KDF M3 _ _
      refine g1 (pc' := 78) (w_goto X dX11_letChanceAct_43 (by decide)) ?_
      exact g_rM X dX11_letChanceAct_78
    · refine g_by (fun h4 => ?_) (fun h4 => ?_)
      · refine g1 (pc' := 46) (w_tsIn (off := 40) X dX11_letChanceAct_6 (1) (by rw [h4]; rfl) (by decide) (by decide) rfl (by decide)) ?_
        refine g1 (pc' := 47) (w_aload_n X dX11_letChanceAct_46 rfl 0 rfl) ?_
        refine g1 (pc' := 50) (gt_11_3 X hk0 mw_326 dX11_letChanceAct_47) ?_
        refine g1 (pc' := 51) (w_aload_n X dX11_letChanceAct_50 rfl 0 rfl) ?_
        refine g1 (pc' := 54) (gt_11_3 X hk0 mw_326 dX11_letChanceAct_51) ?_
        refine g1 (pc' := 57) (gt_1_3 X kd_37 mw_214 dX11_letChanceAct_54) ?_
        refine g_ltJ (J := 65) (fun j5 => []) (fun j5 => [.int j5, .ref (xb x + 37)]) (fun j5 => r1.2) ?_ (fun j5 => ?_)
        · refine g_ifS (pcT := 60) (pcF := 64) (w_if_ne (tgt := 64) X dX11_letChanceAct_57 (by decide)) (fun h6 => ?_) (fun h6 => ?_)
          · refine g1 (pc' := 61) (w_iconst X (1) dX11_letChanceAct_60 (by decide)) ?_
            refine g1 (pc' := 65) (w_goto X dX11_letChanceAct_61 (by decide)) ?_
            exact g_end [] rfl rfl rfl
          · refine g1 (pc' := 65) (w_iconst X (0) dX11_letChanceAct_64 (by decide)) ?_
            exact g_end [] rfl rfl rfl
        · show Gz x 1 65 [] [.int j5, .ref (xb x + 37)] KDF r1.2 _ _
          refine g_gd (fun h8 => ?_)
          refine g_lt (pc' := 68) (fun M7 => []) (fun M7 => []) (fun M7 => M7) (pt_1_3 X Z kd_37 h8 mw_214 dX11_letChanceAct_65) (fun M7 => ?_)
          show Gz x 1 68 [] [] KDF M7 _ _
          refine g1 (pc' := 78) (w_goto X dX11_letChanceAct_68 (by decide)) ?_
          exact g_rM X dX11_letChanceAct_78
      · refine g_by (fun h9 => ?_) (fun h9 => ?_)
        · refine g1 (pc' := 71) (w_tsIn (off := 65) X dX11_letChanceAct_6 (2) (by rw [h9]; rfl) (by decide) (by decide) rfl (by decide)) ?_
          refine g1 (pc' := 72) (w_aload_n X dX11_letChanceAct_71 rfl 0 rfl) ?_
          refine g_bd (pc' := 75) (fun r10 => [(0, .ref (xb x + o0))]) (fun r10 => []) (fun r10 => r10) (fun r10 h => k_X11_changeRopesByDraws X hR hN Z hk0 mw_701 (by decide) (Nat.le_of_ble_eq_true rfl) dX11_letChanceAct_72 h) (fun r10 => ?_)
          show Gz x 1 75 [(0, .ref (xb x + o0))] [] KDF r10 _ _
          refine g1 (pc' := 78) (w_goto X dX11_letChanceAct_75 (by decide)) ?_
          exact g_rM X dX11_letChanceAct_78
        · refine g1 (pc' := 78) (w_tsOut X dX11_letChanceAct_6 (by have eh2 := ne_int h2 (n := 0) rfl; have eh4 := ne_int h4 (n := 1) rfl; have eh9 := ne_int h9 (n := 2) rfl; omega) (by decide)) ?_
          exact g_rM X dX11_letChanceAct_78
  exact G _ h _ rfl
theorem k_X11_letChanceAct {x : Cxt} {cc : ByteArray} {nL : Nat} {own : String} {ret : Option FieldType} (X : Ok x cc nL own ret) {d : Nat} (hR : Rm x d KDF) (hN : Nst x) (Z : xz x = 0) {pc : Nat} {lv : List (Nat × Value)} {rest : List Value} {M : Mm} {o0 : Nat} (hk0 : KDF[o0]? = some (11, 0)) {idx : Nat} (hw : Cond.methodLink own idx yX11_letChanceAct ∈ tbG) (hdd : 3 + 1 ≤ d) (hrm : (rest.map fun v => v.category).sum ≤ 8) (hd : decode cc pc = .ok (.invokevirtual idx, 3)) {M' : Mm} (h : f_X11_letChanceAct o0 M = some M') : StpZ x nL pc lv (.ref (xb x + o0) :: rest) KDF M (pc + 3) lv (rest) KDF M' :=
  w_callV (st := []) (As := []) X hR hN (CtX0 Z (c_X11_letChanceAct hk0 h)) ⟨Nat.le_refl _, Nat.le_refl _⟩ ⟨Nat.le_refl _, Nat.le_refl _⟩ hk0 (ci := 11) (fs := fs_11 o0) (fun _ _ _ => rfl) rfl hw mw_691 mw_11 mw_61 mw_692 (n := 0) (by decide +kernel) rfl hdd (by decide) hrm hd
def b_X11_drift_27 (o0 : Nat) (x1 : Int32) (s27 : Int32 × Mm) : Option ((Int32 × Mm) ⊕ (Mm)) :=
  (if x1 ≤ s27.1 then some (.inr s27.2) else Bd (f_X11_letChanceAct o0 s27.2) (fun r5 => Gd (KDF[(r5 o0 0).toNatClampNeg]? = some (9, 0)) (Bd (f_X1_ringNext 37 (r5 o0 0).toNatClampNeg r5) (fun r7 => Lt (s27.1 + (1 : Int32)) (fun v8 => some (.inl (v8, r7)))))))
def f_X11_drift (o0 : Nat) (x1 : Int32) (M : Mm) : Option (Int32 × Mm) :=
  Bd (f_X11_refuseToRing o0 x1 (60 : Int32) M) (fun r1 => (if r1 = 0 then Bd (f_X3_remember 41 37 M) (fun r3 => Bd (Lp (b_X11_drift_27 o0 x1) 100000 ((0 : Int32), r3)) (fun e9 => Bd (f_X11_figuresNow o0 e9) (fun r10 => some (r10, e9)))) else some (r1, M)))
set_option maxRecDepth 100000 in
set_option maxHeartbeats 4000000 in
theorem c_X11_drift {l : Launch} {D : va_G} {an : An} {b : Nat} {o0 : Nat} {x1 : Int32} (hk0 : KDF[o0]? = some (11, 0)) {M : Mm} {r : Int32} {M' : Mm} (h : f_X11_drift o0 x1 M = some (r, M')) : Ct l D an b 0 yX11_drift cX11_drift 4 (some .int) 6 [.ref (b + o0), .int x1] KDF M (some (.int r)) KDF M' := by
  refine CtX.mk (as := fun b => [.ref (b + o0), .int x1]) (rv := fun b => (some (.int r))) (by decide) (fun b => Nat.le_of_ble_eq_true rfl) ⟨Nat.le_refl _, Nat.le_refl _⟩ (fun x X hR Z hN _ _ => ?_)
  have X : Ok x cX11_drift 4 RX11 (some .int) := X
  have G : Gz x 4 0 [(0, .ref (xb x + o0)), (1, .int x1)] [] KDF M (f_X11_drift o0 x1 M) (PsI2 x KDF) := by
    unfold f_X11_drift
    refine g1 (pc' := 1) (w_aload_n X dX11_drift_0 rfl 0 rfl) ?_
    refine g1 (pc' := 2) (w_iload_n X dX11_drift_1 rfl 1 rfl) ?_
    refine g1 (pc' := 4) (w_bipush X (60) dX11_drift_2 (by decide)) ?_
    refine g_bd (pc' := 7) (fun r1 => [(0, .ref (xb x + o0)), (1, .int x1)]) (fun r1 => [.int r1]) (fun r1 => M) (fun r1 h => k_X11_refuseToRing X hR hN Z hk0 mw_594 (by decide) (Nat.le_of_ble_eq_true rfl) dX11_drift_4 h) (fun r1 => ?_)
    show Gz x 4 7 [(0, .ref (xb x + o0)), (1, .int x1)] [.int r1] KDF M _ _
    refine g1 (pc' := 8) (lv' := [(2, .int r1), (0, .ref (xb x + o0)), (1, .int x1)]) (w_istore_n X dX11_drift_7 rfl (by decide) rfl) ?_
    refine g1 (pc' := 9) (w_iload_n X dX11_drift_8 rfl 0 rfl) ?_
    refine g_if (pcT := 14) (pcF := 12) (w_if_eq (tgt := 14) X dX11_drift_9 (by decide)) (fun h2 => ?_) (fun h2 => ?_)
    · refine g1 (pc' := 15) (w_aload_n X dX11_drift_14 rfl 1 rfl) ?_
      refine g1 (pc' := 18) (gt_11_4 X hk0 mw_327 dX11_drift_15) ?_
      refine g1 (pc' := 19) (w_aload_n X dX11_drift_18 rfl 1 rfl) ?_
      refine g1 (pc' := 22) (gt_11_3 X hk0 mw_326 dX11_drift_19) ?_
      refine g_bd (pc' := 25) (fun r3 => [(2, .int r1), (0, .ref (xb x + o0)), (1, .int x1)]) (fun r3 => []) (fun r3 => r3) (fun r3 h => k_X3_remember X hR hN Z kd_41 kd_37 mw_598 (by decide) (Nat.le_of_ble_eq_true rfl) dX11_drift_22 h) (fun r3 => ?_)
      show Gz x 4 25 [(2, .int r1), (0, .ref (xb x + o0)), (1, .int x1)] [] KDF r3 _ _
      refine g1 (pc' := 26) (w_iconst X (0) dX11_drift_25 (by decide)) ?_
      refine g1 (pc' := 27) (lv' := [(3, .int (0 : Int32)), (2, .int r1), (0, .ref (xb x + o0)), (1, .int x1)]) (w_istore_n X dX11_drift_26 rfl (by decide) rfl) ?_
      refine g_pick (lv' := [(0, .ref (xb x + o0)), (1, .int x1), (3, .int (0 : Int32))]) [2, 3, 0] rfl ?_
      refine g_bdJ (J := 53) (fun e9 => [(0, .ref (xb x + o0))]) (fun e9 => []) (fun e9 => e9) (g_lp (fun s27 => [(0, .ref (xb x + o0)), (1, .int x1), (3, .int s27.1)]) (fun s27 => s27.2) (fun s27 => ?_) 100000 ((0 : Int32), r3)) (fun e9 => ?_)
      · show Gz x 4 27 [(0, .ref (xb x + o0)), (1, .int x1), (3, .int s27.1)] [] KDF s27.2 (b_X11_drift_27 o0 x1 s27) _
        unfold b_X11_drift_27
        refine g1 (pc' := 28) (w_iload_n X dX11_drift_27 rfl 2 rfl) ?_
        refine g1 (pc' := 29) (w_iload_n X dX11_drift_28 rfl 1 rfl) ?_
        refine g_if (pcT := 53) (pcF := 32) (w_icmp_ge (tgt := 53) X dX11_drift_29 (by decide)) (fun h4 => ?_) (fun h4 => ?_)
        · refine g_inr ?_
          exact g_end [0] rfl rfl rfl
        · refine g1 (pc' := 33) (w_aload_n X dX11_drift_32 rfl 0 rfl) ?_
          refine g_bd (pc' := 36) (fun r5 => [(0, .ref (xb x + o0)), (1, .int x1), (3, .int s27.1)]) (fun r5 => []) (fun r5 => r5) (fun r5 h => k_X11_letChanceAct X hR hN Z hk0 mw_689 (by decide) (Nat.le_of_ble_eq_true rfl) dX11_drift_33 h) (fun r5 => ?_)
          show Gz x 4 36 [(0, .ref (xb x + o0)), (1, .int x1), (3, .int s27.1)] [] KDF r5 _ _
          refine g1 (pc' := 37) (w_aload_n X dX11_drift_36 rfl 0 rfl) ?_
          refine g1 (pc' := 40) (gt_11_3 X hk0 mw_326 dX11_drift_37) ?_
          refine g1 (pc' := 41) (w_aload_n X dX11_drift_40 rfl 0 rfl) ?_
          refine g1 (pc' := 44) (gt_11_0 X hk0 mw_323 dX11_drift_41) ?_
          refine g_gd (fun h6 => ?_)
          refine g_bd (pc' := 47) (fun r7 => [(0, .ref (xb x + o0)), (1, .int x1), (3, .int s27.1)]) (fun r7 => []) (fun r7 => r7) (fun r7 h => k_X1_ringNext X hR hN Z kd_37 h6 mw_619 (by decide) (Nat.le_of_ble_eq_true rfl) dX11_drift_44 h) (fun r7 => ?_)
          show Gz x 4 47 [(0, .ref (xb x + o0)), (1, .int x1), (3, .int s27.1)] [] KDF r7 _ _
          refine g_lt (pc' := 50) (fun v8 => [(3, .int v8), (0, .ref (xb x + o0)), (1, .int x1)]) (fun v8 => []) (fun v8 => r7) (w_iinc X dX11_drift_47 2 rfl rfl (by decide) rfl) (fun v8 => ?_)
          show Gz x 4 50 [(3, .int v8), (0, .ref (xb x + o0)), (1, .int x1)] [] KDF r7 _ _
          refine g1 (pc' := 27) (w_goto X dX11_drift_50 (by decide)) ?_
          refine g_inl ?_
          exact g_end [1, 2, 0] rfl rfl rfl
      · show Gz x 4 53 [(0, .ref (xb x + o0))] [] KDF e9 _ _
        refine g1 (pc' := 54) (w_aload_n X dX11_drift_53 rfl 0 rfl) ?_
        refine g_bd (pc' := 57) (fun r10 => [(0, .ref (xb x + o0))]) (fun r10 => [.int r10]) (fun r10 => e9) (fun r10 h => k_X11_figuresNow X hR hN Z hk0 mw_508 (by decide) (Nat.le_of_ble_eq_true rfl) dX11_drift_54 h) (fun r10 => ?_)
        show Gz x 4 57 [(0, .ref (xb x + o0))] [.int r10] KDF e9 _ _
        exact g_rI2 X dX11_drift_57
    · refine g1 (pc' := 13) (w_iload_n X dX11_drift_12 rfl 0 rfl) ?_
      exact g_rI2 X dX11_drift_13
  exact G _ h _ rfl
theorem k_X11_drift {x : Cxt} {cc : ByteArray} {nL : Nat} {own : String} {ret : Option FieldType} (X : Ok x cc nL own ret) {d : Nat} (hR : Rm x d KDF) (hN : Nst x) (Z : xz x = 0) {pc : Nat} {lv : List (Nat × Value)} {rest : List Value} {M : Mm} {o0 : Nat} {x1 : Int32} (hk0 : KDF[o0]? = some (11, 0)) {idx : Nat} (hw : Cond.methodLink own idx yX11_drift ∈ tbG) (hdd : 6 + 1 ≤ d) (hrm : (rest.map fun v => v.category).sum ≤ 8) (hd : decode cc pc = .ok (.invokevirtual idx, 3)) {r : Int32} {M' : Mm} (h : f_X11_drift o0 x1 M = some (r, M')) : StpZ x nL pc lv (.int x1 :: .ref (xb x + o0) :: rest) KDF M (pc + 3) lv (.int r :: rest) KDF M' :=
  w_callV (st := []) (As := [.int x1]) X hR hN (CtX0 Z (c_X11_drift hk0 h)) ⟨Nat.le_refl _, Nat.le_refl _⟩ ⟨Nat.le_refl _, Nat.le_refl _⟩ hk0 (ci := 11) (fs := fs_11 o0) (fun _ _ _ => rfl) rfl hw mw_686 mw_687 mw_61 mw_688 (n := 1) (by decide +kernel) rfl hdd (by decide) hrm hd
def f_X11_undo (o0 : Nat) (M : Mm) : Option (Int32 × Mm) :=
  Bd (f_X3_restore 41 37 M) (fun r1 => (if r1.1 = 0 then some ((-1000000003 : Int32), r1.2) else some ((r1.2 41 0), r1.2)))
set_option maxRecDepth 100000 in
set_option maxHeartbeats 4000000 in
theorem c_X11_undo {l : Launch} {D : va_G} {an : An} {b : Nat} {o0 : Nat} (hk0 : KDF[o0]? = some (11, 0)) {M : Mm} {r : Int32} {M' : Mm} (h : f_X11_undo o0 M = some (r, M')) : Ct l D an b 0 yX11_undo cX11_undo 1 (some .int) 4 [.ref (b + o0)] KDF M (some (.int r)) KDF M' := by
  refine CtX.mk (as := fun b => [.ref (b + o0)]) (rv := fun b => (some (.int r))) (by decide) (fun b => Nat.le_of_ble_eq_true rfl) ⟨Nat.le_refl _, Nat.le_refl _⟩ (fun x X hR Z hN _ _ => ?_)
  have X : Ok x cX11_undo 1 RX11 (some .int) := X
  have G : Gz x 1 0 [(0, .ref (xb x + o0))] [] KDF M (f_X11_undo o0 M) (PsI2 x KDF) := by
    unfold f_X11_undo
    refine g1 (pc' := 1) (w_aload_n X dX11_undo_0 rfl 0 rfl) ?_
    refine g1 (pc' := 4) (gt_11_4 X hk0 mw_327 dX11_undo_1) ?_
    refine g1 (pc' := 5) (w_aload_n X dX11_undo_4 rfl 0 rfl) ?_
    refine g1 (pc' := 8) (gt_11_3 X hk0 mw_326 dX11_undo_5) ?_
    refine g_bd (pc' := 11) (fun r1 => [(0, .ref (xb x + o0))]) (fun r1 => [.int r1.1]) (fun r1 => r1.2) (fun r1 h => k_X3_restore X hR hN Z kd_41 kd_37 mw_709 (by decide) (Nat.le_of_ble_eq_true rfl) dX11_undo_8 h) (fun r1 => ?_)
    show Gz x 1 11 [(0, .ref (xb x + o0))] [.int r1.1] KDF r1.2 _ _
    refine g_if (pcT := 24) (pcF := 14) (w_if_eq (tgt := 24) X dX11_undo_11 (by decide)) (fun h2 => ?_) (fun h2 => ?_)
    · refine g1 (pc' := 26) (w_ldc (v := -1000000003) X dX11_undo_24 mw_541) ?_
      exact g_rI2 X dX11_undo_26
    · refine g1 (pc' := 15) (w_aload_n X dX11_undo_14 rfl 0 rfl) ?_
      refine g1 (pc' := 18) (gt_11_4 X hk0 mw_327 dX11_undo_15) ?_
      refine g1 (pc' := 21) (gt_3_0 X kd_41 mw_240 dX11_undo_18) ?_
      refine g1 (pc' := 26) (w_goto X dX11_undo_21 (by decide)) ?_
      exact g_rI2 X dX11_undo_26
  exact G _ h _ rfl
theorem k_X11_undo {x : Cxt} {cc : ByteArray} {nL : Nat} {own : String} {ret : Option FieldType} (X : Ok x cc nL own ret) {d : Nat} (hR : Rm x d KDF) (hN : Nst x) (Z : xz x = 0) {pc : Nat} {lv : List (Nat × Value)} {rest : List Value} {M : Mm} {o0 : Nat} (hk0 : KDF[o0]? = some (11, 0)) {idx : Nat} (hw : Cond.methodLink own idx yX11_undo ∈ tbG) (hdd : 4 + 1 ≤ d) (hrm : (rest.map fun v => v.category).sum ≤ 8) (hd : decode cc pc = .ok (.invokevirtual idx, 3)) {r : Int32} {M' : Mm} (h : f_X11_undo o0 M = some (r, M')) : StpZ x nL pc lv (.ref (xb x + o0) :: rest) KDF M (pc + 3) lv (.int r :: rest) KDF M' :=
  w_callV (st := []) (As := []) X hR hN (CtX0 Z (c_X11_undo hk0 h)) ⟨Nat.le_refl _, Nat.le_refl _⟩ ⟨Nat.le_refl _, Nat.le_refl _⟩ hk0 (ci := 11) (fs := fs_11 o0) (fun _ _ _ => rfl) rfl hw mw_706 mw_707 mw_61 mw_708 (n := 0) (by decide +kernel) rfl hdd (by decide) hrm hd
def b_X11_stepTrial_2 (o0 : Nat) (x1 : Int32) (s2 : Int32 × Mm) : Option ((Int32 × Mm) ⊕ (Mm)) :=
  (if x1 ≤ s2.1 then some (.inr s2.2) else Gd (KDF[(s2.2 o0 0).toNatClampNeg]? = some (9, 0)) (Bd (f_X10_step 115 (s2.2 o0 0).toNatClampNeg s2.2) (fun r3 => Lt (s2.1 + (1 : Int32)) (fun v4 => some (.inl (v4, r3))))))
def f_X11_stepTrial (o0 : Nat) (x1 : Int32) (M : Mm) : Option (Int32 × Mm) :=
  Bd (Lp (b_X11_stepTrial_2 o0 x1) 100000 ((0 : Int32), M)) (fun e5 => some ((e5 115 0), e5))
set_option maxRecDepth 100000 in
set_option maxHeartbeats 4000000 in
theorem c_X11_stepTrial {l : Launch} {D : va_G} {an : An} {b : Nat} {o0 : Nat} {x1 : Int32} (hk0 : KDF[o0]? = some (11, 0)) {M : Mm} {r : Int32} {M' : Mm} (h : f_X11_stepTrial o0 x1 M = some (r, M')) : Ct l D an b 0 yX11_stepTrial cX11_stepTrial 3 (some .int) 3 [.ref (b + o0), .int x1] KDF M (some (.int r)) KDF M' := by
  refine CtX.mk (as := fun b => [.ref (b + o0), .int x1]) (rv := fun b => (some (.int r))) (by decide) (fun b => Nat.le_of_ble_eq_true rfl) ⟨Nat.le_refl _, Nat.le_refl _⟩ (fun x X hR Z hN _ _ => ?_)
  have X : Ok x cX11_stepTrial 3 RX11 (some .int) := X
  have G : Gz x 3 0 [(0, .ref (xb x + o0)), (1, .int x1)] [] KDF M (f_X11_stepTrial o0 x1 M) (PsI2 x KDF) := by
    unfold f_X11_stepTrial
    refine g1 (pc' := 1) (w_iconst X (0) dX11_stepTrial_0 (by decide)) ?_
    refine g1 (pc' := 2) (lv' := [(2, .int (0 : Int32)), (0, .ref (xb x + o0)), (1, .int x1)]) (w_istore_n X dX11_stepTrial_1 rfl (by decide) rfl) ?_
    refine g_pick (lv' := [(0, .ref (xb x + o0)), (1, .int x1), (2, .int (0 : Int32))]) [1, 2, 0] rfl ?_
    refine g_bdJ (J := 24) (fun e5 => [(0, .ref (xb x + o0))]) (fun e5 => []) (fun e5 => e5) (g_lp (fun s2 => [(0, .ref (xb x + o0)), (1, .int x1), (2, .int s2.1)]) (fun s2 => s2.2) (fun s2 => ?_) 100000 ((0 : Int32), M)) (fun e5 => ?_)
    · show Gz x 3 2 [(0, .ref (xb x + o0)), (1, .int x1), (2, .int s2.1)] [] KDF s2.2 (b_X11_stepTrial_2 o0 x1 s2) _
      unfold b_X11_stepTrial_2
      refine g1 (pc' := 3) (w_iload_n X dX11_stepTrial_2 rfl 2 rfl) ?_
      refine g1 (pc' := 4) (w_iload_n X dX11_stepTrial_3 rfl 1 rfl) ?_
      refine g_if (pcT := 24) (pcF := 7) (w_icmp_ge (tgt := 24) X dX11_stepTrial_4 (by decide)) (fun h1 => ?_) (fun h1 => ?_)
      · refine g_inr ?_
        exact g_end [0] rfl rfl rfl
      · refine g1 (pc' := 8) (w_aload_n X dX11_stepTrial_7 rfl 0 rfl) ?_
        refine g1 (pc' := 11) (gt_11_11 X hk0 mw_334 dX11_stepTrial_8) ?_
        refine g1 (pc' := 12) (w_aload_n X dX11_stepTrial_11 rfl 0 rfl) ?_
        refine g1 (pc' := 15) (gt_11_0 X hk0 mw_323 dX11_stepTrial_12) ?_
        refine g_gd (fun h2 => ?_)
        refine g_bd (pc' := 18) (fun r3 => [(0, .ref (xb x + o0)), (1, .int x1), (2, .int s2.1)]) (fun r3 => []) (fun r3 => r3) (fun r3 h => k_X10_step X hR hN Z kd_115 h2 mw_726 (by decide) (Nat.le_of_ble_eq_true rfl) dX11_stepTrial_15 h) (fun r3 => ?_)
        show Gz x 3 18 [(0, .ref (xb x + o0)), (1, .int x1), (2, .int s2.1)] [] KDF r3 _ _
        refine g_lt (pc' := 21) (fun v4 => [(2, .int v4), (0, .ref (xb x + o0)), (1, .int x1)]) (fun v4 => []) (fun v4 => r3) (w_iinc X dX11_stepTrial_18 2 rfl rfl (by decide) rfl) (fun v4 => ?_)
        show Gz x 3 21 [(2, .int v4), (0, .ref (xb x + o0)), (1, .int x1)] [] KDF r3 _ _
        refine g1 (pc' := 2) (w_goto X dX11_stepTrial_21 (by decide)) ?_
        refine g_inl ?_
        exact g_end [1, 2, 0] rfl rfl rfl
    · show Gz x 3 24 [(0, .ref (xb x + o0))] [] KDF e5 _ _
      refine g1 (pc' := 25) (w_aload_n X dX11_stepTrial_24 rfl 0 rfl) ?_
      refine g1 (pc' := 28) (gt_11_11 X hk0 mw_334 dX11_stepTrial_25) ?_
      refine g1 (pc' := 31) (gt_10_0 X kd_115 mw_194 dX11_stepTrial_28) ?_
      exact g_rI2 X dX11_stepTrial_31
  exact G _ h _ rfl
theorem k_X11_stepTrial {x : Cxt} {cc : ByteArray} {nL : Nat} {own : String} {ret : Option FieldType} (X : Ok x cc nL own ret) {d : Nat} (hR : Rm x d KDF) (hN : Nst x) (Z : xz x = 0) {pc : Nat} {lv : List (Nat × Value)} {rest : List Value} {M : Mm} {o0 : Nat} {x1 : Int32} (hk0 : KDF[o0]? = some (11, 0)) {idx : Nat} (hw : Cond.methodLink own idx yX11_stepTrial ∈ tbG) (hdd : 3 + 1 ≤ d) (hrm : (rest.map fun v => v.category).sum ≤ 8) (hd : decode cc pc = .ok (.invokevirtual idx, 3)) {r : Int32} {M' : Mm} (h : f_X11_stepTrial o0 x1 M = some (r, M')) : StpZ x nL pc lv (.int x1 :: .ref (xb x + o0) :: rest) KDF M (pc + 3) lv (.int r :: rest) KDF M' :=
  w_callV (st := []) (As := [.int x1]) X hR hN (CtX0 Z (c_X11_stepTrial hk0 h)) ⟨Nat.le_refl _, Nat.le_refl _⟩ ⟨Nat.le_refl _, Nat.le_refl _⟩ hk0 (ci := 11) (fs := fs_11 o0) (fun _ _ _ => rfl) rfl hw mw_724 mw_15 mw_61 mw_725 (n := 1) (by decide +kernel) rfl hdd (by decide) hrm hd
def f_X11_rowBehind (o0 : Nat) (x1 : Int32) (M : Mm) : Option (Int32 × Mm) :=
  Bd (f_X10_copyFrom 115 (37 + 1) M) (fun r1 => Bd (f_X11_stepTrial o0 x1 r1) (fun r2 => some (r2.1, r2.2)))
set_option maxRecDepth 100000 in
set_option maxHeartbeats 4000000 in
theorem c_X11_rowBehind {l : Launch} {D : va_G} {an : An} {b : Nat} {o0 : Nat} {x1 : Int32} (hk0 : KDF[o0]? = some (11, 0)) {M : Mm} {r : Int32} {M' : Mm} (h : f_X11_rowBehind o0 x1 M = some (r, M')) : Ct l D an b 0 yX11_rowBehind cX11_rowBehind 2 (some .int) 4 [.ref (b + o0), .int x1] KDF M (some (.int r)) KDF M' := by
  refine CtX.mk (as := fun b => [.ref (b + o0), .int x1]) (rv := fun b => (some (.int r))) (by decide) (fun b => Nat.le_of_ble_eq_true rfl) ⟨Nat.le_refl _, Nat.le_refl _⟩ (fun x X hR Z hN _ _ => ?_)
  have X : Ok x cX11_rowBehind 2 RX11 (some .int) := X
  have G : Gz x 2 0 [(0, .ref (xb x + o0)), (1, .int x1)] [] KDF M (f_X11_rowBehind o0 x1 M) (PsI2 x KDF) := by
    unfold f_X11_rowBehind
    refine g1 (pc' := 1) (w_aload_n X dX11_rowBehind_0 rfl 0 rfl) ?_
    refine g1 (pc' := 4) (gt_11_11 X hk0 mw_334 dX11_rowBehind_1) ?_
    refine g1 (pc' := 5) (w_aload_n X dX11_rowBehind_4 rfl 0 rfl) ?_
    refine g1 (pc' := 8) (gt_11_3 X hk0 mw_326 dX11_rowBehind_5) ?_
    refine g1 (pc' := 11) (gt_1_0 X kd_37 mw_208 dX11_rowBehind_8) ?_
    refine g_bd (pc' := 14) (fun r1 => [(0, .ref (xb x + o0)), (1, .int x1)]) (fun r1 => []) (fun r1 => r1) (fun r1 h => k_X10_copyFrom X hR hN Z kd_115 (kd_Ev1 kd_37) mw_721 (by decide) (Nat.le_of_ble_eq_true rfl) dX11_rowBehind_11 h) (fun r1 => ?_)
    show Gz x 2 14 [(0, .ref (xb x + o0)), (1, .int x1)] [] KDF r1 _ _
    refine g1 (pc' := 15) (w_aload_n X dX11_rowBehind_14 rfl 0 rfl) ?_
    refine g1 (pc' := 16) (w_iload_n X dX11_rowBehind_15 rfl 1 rfl) ?_
    refine g_bd (pc' := 19) (fun r2 => [(0, .ref (xb x + o0)), (1, .int x1)]) (fun r2 => [.int r2.1]) (fun r2 => r2.2) (fun r2 h => k_X11_stepTrial X hR hN Z hk0 mw_722 (by decide) (Nat.le_of_ble_eq_true rfl) dX11_rowBehind_16 h) (fun r2 => ?_)
    show Gz x 2 19 [(0, .ref (xb x + o0)), (1, .int x1)] [.int r2.1] KDF r2.2 _ _
    exact g_rI2 X dX11_rowBehind_19
  exact G _ h _ rfl
theorem k_X11_rowBehind {x : Cxt} {cc : ByteArray} {nL : Nat} {own : String} {ret : Option FieldType} (X : Ok x cc nL own ret) {d : Nat} (hR : Rm x d KDF) (hN : Nst x) (Z : xz x = 0) {pc : Nat} {lv : List (Nat × Value)} {rest : List Value} {M : Mm} {o0 : Nat} {x1 : Int32} (hk0 : KDF[o0]? = some (11, 0)) {idx : Nat} (hw : Cond.methodLink own idx yX11_rowBehind ∈ tbG) (hdd : 4 + 1 ≤ d) (hrm : (rest.map fun v => v.category).sum ≤ 8) (hd : decode cc pc = .ok (.invokevirtual idx, 3)) {r : Int32} {M' : Mm} (h : f_X11_rowBehind o0 x1 M = some (r, M')) : StpZ x nL pc lv (.int x1 :: .ref (xb x + o0) :: rest) KDF M (pc + 3) lv (.int r :: rest) KDF M' :=
  w_callV (st := []) (As := [.int x1]) X hR hN (CtX0 Z (c_X11_rowBehind hk0 h)) ⟨Nat.le_refl _, Nat.le_refl _⟩ ⟨Nat.le_refl _, Nat.le_refl _⟩ hk0 (ci := 11) (fs := fs_11 o0) (fun _ _ _ => rfl) rfl hw mw_719 mw_14 mw_61 mw_720 (n := 1) (by decide +kernel) rfl hdd (by decide) hrm hd
def f_X11_rowAt (o0 : Nat) (x1 : Int32) (M : Mm) : Option (Int32 × Mm) :=
  (if x1 < 0 then some ((-1000000002 : Int32), M) else (if x1 ≤ (500 : Int32) then Gd (KDF[(M o0 0).toNatClampNeg]? = some (9, 0)) ((if (f_X9_stands (M o0 0).toNatClampNeg M) = 0 then some ((-1000000003 : Int32), M) else Bd (f_X11_rowBehind o0 x1 M) (fun r5 => Gd (KDF[(r5.2 o0 0).toNatClampNeg]? = some (9, 0)) (Bd (f_X5_figures r5.1 (r5.2 (r5.2 o0 0).toNatClampNeg 0)) (fun r7 => some (r7, r5.2)))))) else some ((-1000000002 : Int32), M)))
set_option maxRecDepth 100000 in
set_option maxHeartbeats 4000000 in
theorem c_X11_rowAt {l : Launch} {D : va_G} {an : An} {b : Nat} {o0 : Nat} {x1 : Int32} (hk0 : KDF[o0]? = some (11, 0)) {M : Mm} {r : Int32} {M' : Mm} (h : f_X11_rowAt o0 x1 M = some (r, M')) : Ct l D an b 0 yX11_rowAt cX11_rowAt 2 (some .int) 5 [.ref (b + o0), .int x1] KDF M (some (.int r)) KDF M' := by
  refine CtX.mk (as := fun b => [.ref (b + o0), .int x1]) (rv := fun b => (some (.int r))) (by decide) (fun b => Nat.le_of_ble_eq_true rfl) ⟨Nat.le_refl _, Nat.le_refl _⟩ (fun x X hR Z hN _ _ => ?_)
  have X : Ok x cX11_rowAt 2 RX11 (some .int) := X
  have G : Gz x 2 0 [(0, .ref (xb x + o0)), (1, .int x1)] [] KDF M (f_X11_rowAt o0 x1 M) (PsI2 x KDF) := by
    unfold f_X11_rowAt
    refine g1 (pc' := 1) (w_iload_n X dX11_rowAt_0 rfl 1 rfl) ?_
    refine g_if (pcT := 11) (pcF := 4) (w_if_lt (tgt := 11) X dX11_rowAt_1 (by decide)) (fun h1 => ?_) (fun h1 => ?_)
    · refine g1 (pc' := 13) (w_ldc (v := -1000000002) X dX11_rowAt_11 mw_376) ?_
      exact g_rI2 X dX11_rowAt_13
    · refine g1 (pc' := 5) (w_iload_n X dX11_rowAt_4 rfl 1 rfl) ?_
      refine g1 (pc' := 8) (w_sipush X (500) dX11_rowAt_5 (by decide)) ?_
      refine g_if (pcT := 14) (pcF := 11) (w_icmp_le (tgt := 14) X dX11_rowAt_8 (by decide)) (fun h2 => ?_) (fun h2 => ?_)
      · refine g1 (pc' := 15) (w_aload_n X dX11_rowAt_14 rfl 0 rfl) ?_
        refine g1 (pc' := 18) (gt_11_0 X hk0 mw_323 dX11_rowAt_15) ?_
        refine g_gd (fun h3 => ?_)
        refine g1 (pc' := 21) (k_X9_stands X hR hN Z h3 mw_540 (by decide) (Nat.le_of_ble_eq_true rfl) dX11_rowAt_18) ?_
        refine g_if (pcT := 24) (pcF := 27) (w_if_ne (tgt := 27) X dX11_rowAt_21 (by decide)) (fun h4 => ?_) (fun h4 => ?_)
        · refine g1 (pc' := 26) (w_ldc (v := -1000000003) X dX11_rowAt_24 mw_541) ?_
          exact g_rI2 X dX11_rowAt_26
        · refine g1 (pc' := 28) (w_aload_n X dX11_rowAt_27 rfl 0 rfl) ?_
          refine g1 (pc' := 29) (w_iload_n X dX11_rowAt_28 rfl 1 rfl) ?_
          refine g_bd (pc' := 32) (fun r5 => [(0, .ref (xb x + o0)), (1, .int x1)]) (fun r5 => [.int r5.1]) (fun r5 => r5.2) (fun r5 h => k_X11_rowBehind X hR hN Z hk0 mw_717 (by decide) (Nat.le_of_ble_eq_true rfl) dX11_rowAt_29 h) (fun r5 => ?_)
          show Gz x 2 32 [(0, .ref (xb x + o0)), (1, .int x1)] [.int r5.1] KDF r5.2 _ _
          refine g1 (pc' := 33) (w_aload_n X dX11_rowAt_32 rfl 0 rfl) ?_
          refine g1 (pc' := 36) (gt_11_0 X hk0 mw_323 dX11_rowAt_33) ?_
          refine g_gd (fun h6 => ?_)
          refine g1 (pc' := 39) (gt_9_0 X h6 mw_114 dX11_rowAt_36) ?_
          refine g_bd (pc' := 42) (fun r7 => [(0, .ref (xb x + o0)), (1, .int x1)]) (fun r7 => [.int r7]) (fun r7 => r5.2) (fun r7 h => k_X5_figures X hR hN Z  mw_512 (by decide) (Nat.le_of_ble_eq_true rfl) dX11_rowAt_39 h) (fun r7 => ?_)
          show Gz x 2 42 [(0, .ref (xb x + o0)), (1, .int x1)] [.int r7] KDF r5.2 _ _
          exact g_rI2 X dX11_rowAt_42
      · refine g1 (pc' := 13) (w_ldc (v := -1000000002) X dX11_rowAt_11 mw_376) ?_
        exact g_rI2 X dX11_rowAt_13
  exact G _ h _ rfl
theorem k_X11_rowAt {x : Cxt} {cc : ByteArray} {nL : Nat} {own : String} {ret : Option FieldType} (X : Ok x cc nL own ret) {d : Nat} (hR : Rm x d KDF) (hN : Nst x) (Z : xz x = 0) {pc : Nat} {lv : List (Nat × Value)} {rest : List Value} {M : Mm} {o0 : Nat} {x1 : Int32} (hk0 : KDF[o0]? = some (11, 0)) {idx : Nat} (hw : Cond.methodLink own idx yX11_rowAt ∈ tbG) (hdd : 5 + 1 ≤ d) (hrm : (rest.map fun v => v.category).sum ≤ 8) (hd : decode cc pc = .ok (.invokevirtual idx, 3)) {r : Int32} {M' : Mm} (h : f_X11_rowAt o0 x1 M = some (r, M')) : StpZ x nL pc lv (.int x1 :: .ref (xb x + o0) :: rest) KDF M (pc + 3) lv (.int r :: rest) KDF M' :=
  w_callV (st := []) (As := [.int x1]) X hR hN (CtX0 Z (c_X11_rowAt hk0 h)) ⟨Nat.le_refl _, Nat.le_refl _⟩ ⟨Nat.le_refl _, Nat.le_refl _⟩ hk0 (ci := 11) (fs := fs_11 o0) (fun _ _ _ => rfl) rfl hw mw_714 mw_715 mw_61 mw_716 (n := 1) (by decide +kernel) rfl hdd (by decide) hrm hd
def f_X11_placeAt (o0 : Nat) (x1 : Int32) (x2 : Int32) (M : Mm) : Option (Int32 × Mm) :=
  Gd (KDF[(M o0 0).toNatClampNeg]? = some (9, 0)) ((if (f_X9_hasBell (M o0 0).toNatClampNeg x1 M) = 0 then some ((-1000000001 : Int32), M) else (if x2 < 0 then some ((-1000000002 : Int32), M) else (if x2 ≤ (500 : Int32) then Bd (f_X11_rowBehind o0 x2 M) (fun r5 => Gd (KDF[(r5.2 o0 0).toNatClampNeg]? = some (9, 0)) (Bd (f_X5_placeOf r5.1 x1 (r5.2 (r5.2 o0 0).toNatClampNeg 0)) (fun r7 => some (r7, r5.2)))) else some ((-1000000002 : Int32), M)))))
set_option maxRecDepth 100000 in
set_option maxHeartbeats 4000000 in
theorem c_X11_placeAt {l : Launch} {D : va_G} {an : An} {b : Nat} {o0 : Nat} {x1 : Int32} {x2 : Int32} (hk0 : KDF[o0]? = some (11, 0)) {M : Mm} {r : Int32} {M' : Mm} (h : f_X11_placeAt o0 x1 x2 M = some (r, M')) : Ct l D an b 0 yX11_placeAt cX11_placeAt 3 (some .int) 5 [.ref (b + o0), .int x1, .int x2] KDF M (some (.int r)) KDF M' := by
  refine CtX.mk (as := fun b => [.ref (b + o0), .int x1, .int x2]) (rv := fun b => (some (.int r))) (by decide) (fun b => Nat.le_of_ble_eq_true rfl) ⟨Nat.le_refl _, Nat.le_refl _⟩ (fun x X hR Z hN _ _ => ?_)
  have X : Ok x cX11_placeAt 3 RX11 (some .int) := X
  have G : Gz x 3 0 [(0, .ref (xb x + o0)), (1, .int x1), (2, .int x2)] [] KDF M (f_X11_placeAt o0 x1 x2 M) (PsI2 x KDF) := by
    unfold f_X11_placeAt
    refine g1 (pc' := 1) (w_aload_n X dX11_placeAt_0 rfl 0 rfl) ?_
    refine g1 (pc' := 4) (gt_11_0 X hk0 mw_323 dX11_placeAt_1) ?_
    refine g_gd (fun h1 => ?_)
    refine g1 (pc' := 5) (w_iload_n X dX11_placeAt_4 rfl 1 rfl) ?_
    refine g1 (pc' := 8) (k_X9_hasBell X hR hN Z h1 mw_550 (by decide) (Nat.le_of_ble_eq_true rfl) dX11_placeAt_5) ?_
    refine g_if (pcT := 11) (pcF := 14) (w_if_ne (tgt := 14) X dX11_placeAt_8 (by decide)) (fun h2 => ?_) (fun h2 => ?_)
    · refine g1 (pc' := 13) (w_ldc (v := -1000000001) X dX11_placeAt_11 mw_554) ?_
      exact g_rI2 X dX11_placeAt_13
    · refine g1 (pc' := 15) (w_iload_n X dX11_placeAt_14 rfl 2 rfl) ?_
      refine g_if (pcT := 25) (pcF := 18) (w_if_lt (tgt := 25) X dX11_placeAt_15 (by decide)) (fun h3 => ?_) (fun h3 => ?_)
      · refine g1 (pc' := 27) (w_ldc (v := -1000000002) X dX11_placeAt_25 mw_376) ?_
        exact g_rI2 X dX11_placeAt_27
      · refine g1 (pc' := 19) (w_iload_n X dX11_placeAt_18 rfl 2 rfl) ?_
        refine g1 (pc' := 22) (w_sipush X (500) dX11_placeAt_19 (by decide)) ?_
        refine g_if (pcT := 28) (pcF := 25) (w_icmp_le (tgt := 28) X dX11_placeAt_22 (by decide)) (fun h4 => ?_) (fun h4 => ?_)
        · refine g1 (pc' := 29) (w_aload_n X dX11_placeAt_28 rfl 0 rfl) ?_
          refine g1 (pc' := 30) (w_iload_n X dX11_placeAt_29 rfl 2 rfl) ?_
          refine g_bd (pc' := 33) (fun r5 => [(0, .ref (xb x + o0)), (1, .int x1), (2, .int x2)]) (fun r5 => [.int r5.1]) (fun r5 => r5.2) (fun r5 h => k_X11_rowBehind X hR hN Z hk0 mw_717 (by decide) (Nat.le_of_ble_eq_true rfl) dX11_placeAt_30 h) (fun r5 => ?_)
          show Gz x 3 33 [(0, .ref (xb x + o0)), (1, .int x1), (2, .int x2)] [.int r5.1] KDF r5.2 _ _
          refine g1 (pc' := 34) (w_iload_n X dX11_placeAt_33 rfl 1 rfl) ?_
          refine g1 (pc' := 35) (w_aload_n X dX11_placeAt_34 rfl 0 rfl) ?_
          refine g1 (pc' := 38) (gt_11_0 X hk0 mw_323 dX11_placeAt_35) ?_
          refine g_gd (fun h6 => ?_)
          refine g1 (pc' := 41) (gt_9_0 X h6 mw_114 dX11_placeAt_38) ?_
          refine g_bd (pc' := 44) (fun r7 => [(0, .ref (xb x + o0)), (1, .int x1), (2, .int x2)]) (fun r7 => [.int r7]) (fun r7 => r5.2) (fun r7 h => k_X5_placeOf X hR hN Z  mw_560 (by decide) (Nat.le_of_ble_eq_true rfl) dX11_placeAt_41 h) (fun r7 => ?_)
          show Gz x 3 44 [(0, .ref (xb x + o0)), (1, .int x1), (2, .int x2)] [.int r7] KDF r5.2 _ _
          exact g_rI2 X dX11_placeAt_44
        · refine g1 (pc' := 27) (w_ldc (v := -1000000002) X dX11_placeAt_25 mw_376) ?_
          exact g_rI2 X dX11_placeAt_27
  exact G _ h _ rfl
theorem k_X11_placeAt {x : Cxt} {cc : ByteArray} {nL : Nat} {own : String} {ret : Option FieldType} (X : Ok x cc nL own ret) {d : Nat} (hR : Rm x d KDF) (hN : Nst x) (Z : xz x = 0) {pc : Nat} {lv : List (Nat × Value)} {rest : List Value} {M : Mm} {o0 : Nat} {x1 : Int32} {x2 : Int32} (hk0 : KDF[o0]? = some (11, 0)) {idx : Nat} (hw : Cond.methodLink own idx yX11_placeAt ∈ tbG) (hdd : 5 + 1 ≤ d) (hrm : (rest.map fun v => v.category).sum ≤ 8) (hd : decode cc pc = .ok (.invokevirtual idx, 3)) {r : Int32} {M' : Mm} (h : f_X11_placeAt o0 x1 x2 M = some (r, M')) : StpZ x nL pc lv (.int x2 :: .int x1 :: .ref (xb x + o0) :: rest) KDF M (pc + 3) lv (.int r :: rest) KDF M' :=
  w_callV (st := []) (As := [.int x1, .int x2]) X hR hN (CtX0 Z (c_X11_placeAt hk0 h)) ⟨Nat.le_refl _, Nat.le_refl _⟩ ⟨Nat.le_refl _, Nat.le_refl _⟩ hk0 (ci := 11) (fs := fs_11 o0) (fun _ _ _ => rfl) rfl hw mw_728 mw_729 mw_61 mw_730 (n := 2) (by decide +kernel) rfl hdd (by decide) hrm hd
def b_X11_round_40 (o0 : Nat) (r4 : Int32) (s40 : Int32 × Mm) : Option ((Int32 × Mm) ⊕ ((Int32 × Mm) ⊕ (Mm))) :=
  (if (1000 : Int32) < s40.1 then some (.inr (.inr s40.2)) else Gd (KDF[(s40.2 o0 0).toNatClampNeg]? = some (9, 0)) (Bd (f_X10_step 115 (s40.2 o0 0).toNatClampNeg s40.2) (fun r8 => (if (r8 115 0) = r4 then some (.inr (.inl (s40.1, r8))) else Lt (s40.1 + (1 : Int32)) (fun v10 => some (.inl (v10, r8)))))))
def f_X11_round (o0 : Nat) (M : Mm) : Option (Int32 × Mm) :=
  Gd (KDF[(M o0 0).toNatClampNeg]? = some (9, 0)) ((if (f_X9_stands (M o0 0).toNatClampNeg M) = 0 then some ((-1000000003 : Int32), M) else Gd (KDF[(M o0 0).toNatClampNeg]? = some (9, 0)) (Bd (f_X5_rounds (M (M o0 0).toNatClampNeg 0)) (fun r4 => Bd (f_X10_copyFrom 115 (37 + 1) M) (fun r5 => BdS (Lp (b_X11_round_40 o0 r4) 100000 ((1 : Int32), r5)) (fun e11 => some ((-1 : Int32), e11)))))))
set_option maxRecDepth 100000 in
set_option maxHeartbeats 4000000 in
theorem c_X11_round {l : Launch} {D : va_G} {an : An} {b : Nat} {o0 : Nat} (hk0 : KDF[o0]? = some (11, 0)) {M : Mm} {r : Int32} {M' : Mm} (h : f_X11_round o0 M = some (r, M')) : Ct l D an b 0 yX11_round cX11_round 3 (some .int) 3 [.ref (b + o0)] KDF M (some (.int r)) KDF M' := by
  refine CtX.mk (as := fun b => [.ref (b + o0)]) (rv := fun b => (some (.int r))) (by decide) (fun b => Nat.le_of_ble_eq_true rfl) ⟨Nat.le_refl _, Nat.le_refl _⟩ (fun x X hR Z hN _ _ => ?_)
  have X : Ok x cX11_round 3 RX11 (some .int) := X
  have G : Gz x 3 0 [(0, .ref (xb x + o0))] [] KDF M (f_X11_round o0 M) (PsI2 x KDF) := by
    unfold f_X11_round
    refine g1 (pc' := 1) (w_aload_n X dX11_round_0 rfl 0 rfl) ?_
    refine g1 (pc' := 4) (gt_11_0 X hk0 mw_323 dX11_round_1) ?_
    refine g_gd (fun h1 => ?_)
    refine g1 (pc' := 7) (k_X9_stands X hR hN Z h1 mw_540 (by decide) (Nat.le_of_ble_eq_true rfl) dX11_round_4) ?_
    refine g_if (pcT := 10) (pcF := 13) (w_if_ne (tgt := 13) X dX11_round_7 (by decide)) (fun h2 => ?_) (fun h2 => ?_)
    · refine g1 (pc' := 12) (w_ldc (v := -1000000003) X dX11_round_10 mw_541) ?_
      exact g_rI2 X dX11_round_12
    · refine g1 (pc' := 14) (w_aload_n X dX11_round_13 rfl 0 rfl) ?_
      refine g1 (pc' := 17) (gt_11_0 X hk0 mw_323 dX11_round_14) ?_
      refine g_gd (fun h3 => ?_)
      refine g1 (pc' := 20) (gt_9_0 X h3 mw_114 dX11_round_17) ?_
      refine g_bd (pc' := 23) (fun r4 => [(0, .ref (xb x + o0))]) (fun r4 => [.int r4]) (fun r4 => M) (fun r4 h => k_X5_rounds X hR hN Z  mw_735 (by decide) (Nat.le_of_ble_eq_true rfl) dX11_round_20 h) (fun r4 => ?_)
      show Gz x 3 23 [(0, .ref (xb x + o0))] [.int r4] KDF M _ _
      refine g1 (pc' := 24) (lv' := [(1, .int r4), (0, .ref (xb x + o0))]) (w_istore_n X dX11_round_23 rfl (by decide) rfl) ?_
      refine g1 (pc' := 25) (w_aload_n X dX11_round_24 rfl 1 rfl) ?_
      refine g1 (pc' := 28) (gt_11_11 X hk0 mw_334 dX11_round_25) ?_
      refine g1 (pc' := 29) (w_aload_n X dX11_round_28 rfl 1 rfl) ?_
      refine g1 (pc' := 32) (gt_11_3 X hk0 mw_326 dX11_round_29) ?_
      refine g1 (pc' := 35) (gt_1_0 X kd_37 mw_208 dX11_round_32) ?_
      refine g_bd (pc' := 38) (fun r5 => [(1, .int r4), (0, .ref (xb x + o0))]) (fun r5 => []) (fun r5 => r5) (fun r5 h => k_X10_copyFrom X hR hN Z kd_115 (kd_Ev1 kd_37) mw_721 (by decide) (Nat.le_of_ble_eq_true rfl) dX11_round_35 h) (fun r5 => ?_)
      show Gz x 3 38 [(1, .int r4), (0, .ref (xb x + o0))] [] KDF r5 _ _
      refine g1 (pc' := 39) (w_iconst X (1) dX11_round_38 (by decide)) ?_
      refine g1 (pc' := 40) (lv' := [(2, .int (1 : Int32)), (1, .int r4), (0, .ref (xb x + o0))]) (w_istore_n X dX11_round_39 rfl (by decide) rfl) ?_
      refine g_pick (lv' := [(0, .ref (xb x + o0)), (1, .int r4), (2, .int (1 : Int32))]) [2, 1, 0] rfl ?_
      refine g_bdS (J := 77) (fun e11 => []) (fun e11 => []) (fun e11 => e11) (g_lp (fun s40 => [(0, .ref (xb x + o0)), (1, .int r4), (2, .int s40.1)]) (fun s40 => s40.2) (fun s40 => ?_) 100000 ((1 : Int32), r5)) (fun e11 => ?_)
      · show Gz x 3 40 [(0, .ref (xb x + o0)), (1, .int r4), (2, .int s40.1)] [] KDF s40.2 (b_X11_round_40 o0 r4 s40) _
        unfold b_X11_round_40
        refine g1 (pc' := 41) (w_iload_n X dX11_round_40 rfl 2 rfl) ?_
        refine g1 (pc' := 44) (w_sipush X (1000) dX11_round_41 (by decide)) ?_
        refine g_if (pcT := 77) (pcF := 47) (w_icmp_gt (tgt := 77) X dX11_round_44 (by decide)) (fun h6 => ?_) (fun h6 => ?_)
        · refine g_inr ?_
          refine g_inr ?_
          exact g_end [] rfl rfl rfl
        · refine g1 (pc' := 48) (w_aload_n X dX11_round_47 rfl 0 rfl) ?_
          refine g1 (pc' := 51) (gt_11_11 X hk0 mw_334 dX11_round_48) ?_
          refine g1 (pc' := 52) (w_aload_n X dX11_round_51 rfl 0 rfl) ?_
          refine g1 (pc' := 55) (gt_11_0 X hk0 mw_323 dX11_round_52) ?_
          refine g_gd (fun h7 => ?_)
          refine g_bd (pc' := 58) (fun r8 => [(0, .ref (xb x + o0)), (1, .int r4), (2, .int s40.1)]) (fun r8 => []) (fun r8 => r8) (fun r8 h => k_X10_step X hR hN Z kd_115 h7 mw_726 (by decide) (Nat.le_of_ble_eq_true rfl) dX11_round_55 h) (fun r8 => ?_)
          show Gz x 3 58 [(0, .ref (xb x + o0)), (1, .int r4), (2, .int s40.1)] [] KDF r8 _ _
          refine g1 (pc' := 59) (w_aload_n X dX11_round_58 rfl 0 rfl) ?_
          refine g1 (pc' := 62) (gt_11_11 X hk0 mw_334 dX11_round_59) ?_
          refine g1 (pc' := 65) (gt_10_0 X kd_115 mw_194 dX11_round_62) ?_
          refine g1 (pc' := 66) (w_iload_n X dX11_round_65 rfl 1 rfl) ?_
          refine g_if (pcT := 69) (pcF := 71) (w_icmp_ne (tgt := 71) X dX11_round_66 (by decide)) (fun h9 => ?_) (fun h9 => ?_)
          · refine g1 (pc' := 70) (w_iload_n X dX11_round_69 rfl 2 rfl) ?_
            refine g_inr ?_
            refine g_inl ?_
            exact g_rI2 X dX11_round_70
          · refine g_lt (pc' := 74) (fun v10 => [(2, .int v10), (0, .ref (xb x + o0)), (1, .int r4)]) (fun v10 => []) (fun v10 => r8) (w_iinc X dX11_round_71 2 rfl rfl (by decide) rfl) (fun v10 => ?_)
            show Gz x 3 74 [(2, .int v10), (0, .ref (xb x + o0)), (1, .int r4)] [] KDF r8 _ _
            refine g1 (pc' := 40) (w_goto X dX11_round_74 (by decide)) ?_
            refine g_inl ?_
            exact g_end [1, 2, 0] rfl rfl rfl
      · show Gz x 3 77 [] [] KDF e11 _ _
        refine g1 (pc' := 78) (w_iconst X (-1) dX11_round_77 (by decide)) ?_
        exact g_rI2 X dX11_round_78
  exact G _ h _ rfl
theorem k_X11_round {x : Cxt} {cc : ByteArray} {nL : Nat} {own : String} {ret : Option FieldType} (X : Ok x cc nL own ret) {d : Nat} (hR : Rm x d KDF) (hN : Nst x) (Z : xz x = 0) {pc : Nat} {lv : List (Nat × Value)} {rest : List Value} {M : Mm} {o0 : Nat} (hk0 : KDF[o0]? = some (11, 0)) {idx : Nat} (hw : Cond.methodLink own idx yX11_round ∈ tbG) (hdd : 3 + 1 ≤ d) (hrm : (rest.map fun v => v.category).sum ≤ 8) (hd : decode cc pc = .ok (.invokevirtual idx, 3)) {r : Int32} {M' : Mm} (h : f_X11_round o0 M = some (r, M')) : StpZ x nL pc lv (.ref (xb x + o0) :: rest) KDF M (pc + 3) lv (.int r :: rest) KDF M' :=
  w_callV (st := []) (As := []) X hR hN (CtX0 Z (c_X11_round hk0 h)) ⟨Nat.le_refl _, Nat.le_refl _⟩ ⟨Nat.le_refl _, Nat.le_refl _⟩ hk0 (ci := 11) (fs := fs_11 o0) (fun _ _ _ => rfl) rfl hw mw_732 mw_733 mw_61 mw_734 (n := 0) (by decide +kernel) rfl hdd (by decide) hrm hd
def b_X11_trueFor_51 (o0 : Nat) (s51 : Int32 × Mm) : Option ((Int32 × Mm) ⊕ ((Int32 × Mm) ⊕ (Mm))) :=
  (if (720 : Int32) ≤ s51.1 then some (.inr (.inr s51.2)) else Gd (KDF[(s51.2 o0 0).toNatClampNeg]? = some (9, 0)) (Bd (f_X10_step 115 (s51.2 o0 0).toNatClampNeg s51.2) (fun r8 => Bd (f_X6_add 109 (r8 115 0) r8) (fun r9 => (if r9.1 = 0 then some (.inr (.inl (s51.1, r9.2))) else Lt (s51.1 + (1 : Int32)) (fun v11 => some (.inl (v11, r9.2))))))))
def f_X11_trueFor (o0 : Nat) (M : Mm) : Option (Int32 × Mm) :=
  Gd (KDF[(M o0 0).toNatClampNeg]? = some (9, 0)) ((if (f_X9_stands (M o0 0).toNatClampNeg M) = 0 then some ((-1000000003 : Int32), M) else Bd (f_X10_copyFrom 115 (37 + 1) M) (fun r3 => Bd (f_X6_clear 109 r3) (fun r4 => Bd (f_X6_add 109 (r4 115 0) r4) (fun r5 => BdS (Lp (b_X11_trueFor_51 o0) 100000 ((0 : Int32), r5.2)) (fun e12 => some ((720 : Int32), e12)))))))
set_option maxRecDepth 100000 in
set_option maxHeartbeats 4000000 in
theorem c_X11_trueFor {l : Launch} {D : va_G} {an : An} {b : Nat} {o0 : Nat} (hk0 : KDF[o0]? = some (11, 0)) {M : Mm} {r : Int32} {M' : Mm} (h : f_X11_trueFor o0 M = some (r, M')) : Ct l D an b 0 yX11_trueFor cX11_trueFor 2 (some .int) 3 [.ref (b + o0)] KDF M (some (.int r)) KDF M' := by
  refine CtX.mk (as := fun b => [.ref (b + o0)]) (rv := fun b => (some (.int r))) (by decide) (fun b => Nat.le_of_ble_eq_true rfl) ⟨Nat.le_refl _, Nat.le_refl _⟩ (fun x X hR Z hN _ _ => ?_)
  have X : Ok x cX11_trueFor 2 RX11 (some .int) := X
  have G : Gz x 2 0 [(0, .ref (xb x + o0))] [] KDF M (f_X11_trueFor o0 M) (PsI2 x KDF) := by
    unfold f_X11_trueFor
    refine g1 (pc' := 1) (w_aload_n X dX11_trueFor_0 rfl 0 rfl) ?_
    refine g1 (pc' := 4) (gt_11_0 X hk0 mw_323 dX11_trueFor_1) ?_
    refine g_gd (fun h1 => ?_)
    refine g1 (pc' := 7) (k_X9_stands X hR hN Z h1 mw_540 (by decide) (Nat.le_of_ble_eq_true rfl) dX11_trueFor_4) ?_
    refine g_if (pcT := 10) (pcF := 13) (w_if_ne (tgt := 13) X dX11_trueFor_7 (by decide)) (fun h2 => ?_) (fun h2 => ?_)
    · refine g1 (pc' := 12) (w_ldc (v := -1000000003) X dX11_trueFor_10 mw_541) ?_
      exact g_rI2 X dX11_trueFor_12
    · refine g1 (pc' := 14) (w_aload_n X dX11_trueFor_13 rfl 0 rfl) ?_
      refine g1 (pc' := 17) (gt_11_11 X hk0 mw_334 dX11_trueFor_14) ?_
      refine g1 (pc' := 18) (w_aload_n X dX11_trueFor_17 rfl 0 rfl) ?_
      refine g1 (pc' := 21) (gt_11_3 X hk0 mw_326 dX11_trueFor_18) ?_
      refine g1 (pc' := 24) (gt_1_0 X kd_37 mw_208 dX11_trueFor_21) ?_
      refine g_bd (pc' := 27) (fun r3 => [(0, .ref (xb x + o0))]) (fun r3 => []) (fun r3 => r3) (fun r3 h => k_X10_copyFrom X hR hN Z kd_115 (kd_Ev1 kd_37) mw_721 (by decide) (Nat.le_of_ble_eq_true rfl) dX11_trueFor_24 h) (fun r3 => ?_)
      show Gz x 2 27 [(0, .ref (xb x + o0))] [] KDF r3 _ _
      refine g1 (pc' := 28) (w_aload_n X dX11_trueFor_27 rfl 0 rfl) ?_
      refine g1 (pc' := 31) (gt_11_8 X hk0 mw_331 dX11_trueFor_28) ?_
      refine g_bd (pc' := 34) (fun r4 => [(0, .ref (xb x + o0))]) (fun r4 => []) (fun r4 => r4) (fun r4 h => k_X6_clear X hR hN Z kd_109 mw_740 (by decide) (Nat.le_of_ble_eq_true rfl) dX11_trueFor_31 h) (fun r4 => ?_)
      show Gz x 2 34 [(0, .ref (xb x + o0))] [] KDF r4 _ _
      refine g1 (pc' := 35) (w_aload_n X dX11_trueFor_34 rfl 0 rfl) ?_
      refine g1 (pc' := 38) (gt_11_8 X hk0 mw_331 dX11_trueFor_35) ?_
      refine g1 (pc' := 39) (w_aload_n X dX11_trueFor_38 rfl 0 rfl) ?_
      refine g1 (pc' := 42) (gt_11_11 X hk0 mw_334 dX11_trueFor_39) ?_
      refine g1 (pc' := 45) (gt_10_0 X kd_115 mw_194 dX11_trueFor_42) ?_
      refine g_bd (pc' := 48) (fun r5 => [(0, .ref (xb x + o0))]) (fun r5 => [.int r5.1]) (fun r5 => r5.2) (fun r5 h => k_X6_add X hR hN Z kd_109 mw_745 (by decide) (Nat.le_of_ble_eq_true rfl) dX11_trueFor_45 h) (fun r5 => ?_)
      show Gz x 2 48 [(0, .ref (xb x + o0))] [.int r5.1] KDF r5.2 _ _
      refine g1 (pc' := 49) (w_pop X dX11_trueFor_48 rfl) ?_
      refine g1 (pc' := 50) (w_iconst X (0) dX11_trueFor_49 (by decide)) ?_
      refine g1 (pc' := 51) (lv' := [(1, .int (0 : Int32)), (0, .ref (xb x + o0))]) (w_istore_n X dX11_trueFor_50 rfl (by decide) rfl) ?_
      refine g_pick (lv' := [(0, .ref (xb x + o0)), (1, .int (0 : Int32))]) [1, 0] rfl ?_
      refine g_bdS (J := 94) (fun e12 => []) (fun e12 => []) (fun e12 => e12) (g_lp (fun s51 => [(0, .ref (xb x + o0)), (1, .int s51.1)]) (fun s51 => s51.2) (fun s51 => ?_) 100000 ((0 : Int32), r5.2)) (fun e12 => ?_)
      · show Gz x 2 51 [(0, .ref (xb x + o0)), (1, .int s51.1)] [] KDF s51.2 (b_X11_trueFor_51 o0 s51) _
        unfold b_X11_trueFor_51
        refine g1 (pc' := 52) (w_iload_n X dX11_trueFor_51 rfl 1 rfl) ?_
        refine g1 (pc' := 55) (w_sipush X (720) dX11_trueFor_52 (by decide)) ?_
        refine g_if (pcT := 94) (pcF := 58) (w_icmp_ge (tgt := 94) X dX11_trueFor_55 (by decide)) (fun h6 => ?_) (fun h6 => ?_)
        · refine g_inr ?_
          refine g_inr ?_
          exact g_end [] rfl rfl rfl
        · refine g1 (pc' := 59) (w_aload_n X dX11_trueFor_58 rfl 0 rfl) ?_
          refine g1 (pc' := 62) (gt_11_11 X hk0 mw_334 dX11_trueFor_59) ?_
          refine g1 (pc' := 63) (w_aload_n X dX11_trueFor_62 rfl 0 rfl) ?_
          refine g1 (pc' := 66) (gt_11_0 X hk0 mw_323 dX11_trueFor_63) ?_
          refine g_gd (fun h7 => ?_)
          refine g_bd (pc' := 69) (fun r8 => [(0, .ref (xb x + o0)), (1, .int s51.1)]) (fun r8 => []) (fun r8 => r8) (fun r8 h => k_X10_step X hR hN Z kd_115 h7 mw_726 (by decide) (Nat.le_of_ble_eq_true rfl) dX11_trueFor_66 h) (fun r8 => ?_)
          show Gz x 2 69 [(0, .ref (xb x + o0)), (1, .int s51.1)] [] KDF r8 _ _
          refine g1 (pc' := 70) (w_aload_n X dX11_trueFor_69 rfl 0 rfl) ?_
          refine g1 (pc' := 73) (gt_11_8 X hk0 mw_331 dX11_trueFor_70) ?_
          refine g1 (pc' := 74) (w_aload_n X dX11_trueFor_73 rfl 0 rfl) ?_
          refine g1 (pc' := 77) (gt_11_11 X hk0 mw_334 dX11_trueFor_74) ?_
          refine g1 (pc' := 80) (gt_10_0 X kd_115 mw_194 dX11_trueFor_77) ?_
          refine g_bd (pc' := 83) (fun r9 => [(0, .ref (xb x + o0)), (1, .int s51.1)]) (fun r9 => [.int r9.1]) (fun r9 => r9.2) (fun r9 h => k_X6_add X hR hN Z kd_109 mw_745 (by decide) (Nat.le_of_ble_eq_true rfl) dX11_trueFor_80 h) (fun r9 => ?_)
          show Gz x 2 83 [(0, .ref (xb x + o0)), (1, .int s51.1)] [.int r9.1] KDF r9.2 _ _
          refine g_if (pcT := 86) (pcF := 88) (w_if_ne (tgt := 88) X dX11_trueFor_83 (by decide)) (fun h10 => ?_) (fun h10 => ?_)
          · refine g1 (pc' := 87) (w_iload_n X dX11_trueFor_86 rfl 1 rfl) ?_
            refine g_inr ?_
            refine g_inl ?_
            exact g_rI2 X dX11_trueFor_87
          · refine g_lt (pc' := 91) (fun v11 => [(1, .int v11), (0, .ref (xb x + o0))]) (fun v11 => []) (fun v11 => r9.2) (w_iinc X dX11_trueFor_88 1 rfl rfl (by decide) rfl) (fun v11 => ?_)
            show Gz x 2 91 [(1, .int v11), (0, .ref (xb x + o0))] [] KDF r9.2 _ _
            refine g1 (pc' := 51) (w_goto X dX11_trueFor_91 (by decide)) ?_
            refine g_inl ?_
            exact g_end [1, 0] rfl rfl rfl
      · show Gz x 2 94 [] [] KDF e12 _ _
        refine g1 (pc' := 97) (w_sipush X (720) dX11_trueFor_94 (by decide)) ?_
        exact g_rI2 X dX11_trueFor_97
  exact G _ h _ rfl
theorem k_X11_trueFor {x : Cxt} {cc : ByteArray} {nL : Nat} {own : String} {ret : Option FieldType} (X : Ok x cc nL own ret) {d : Nat} (hR : Rm x d KDF) (hN : Nst x) (Z : xz x = 0) {pc : Nat} {lv : List (Nat × Value)} {rest : List Value} {M : Mm} {o0 : Nat} (hk0 : KDF[o0]? = some (11, 0)) {idx : Nat} (hw : Cond.methodLink own idx yX11_trueFor ∈ tbG) (hdd : 3 + 1 ≤ d) (hrm : (rest.map fun v => v.category).sum ≤ 8) (hd : decode cc pc = .ok (.invokevirtual idx, 3)) {r : Int32} {M' : Mm} (h : f_X11_trueFor o0 M = some (r, M')) : StpZ x nL pc lv (.ref (xb x + o0) :: rest) KDF M (pc + 3) lv (.int r :: rest) KDF M' :=
  w_callV (st := []) (As := []) X hR hN (CtX0 Z (c_X11_trueFor hk0 h)) ⟨Nat.le_refl _, Nat.le_refl _⟩ ⟨Nat.le_refl _, Nat.le_refl _⟩ hk0 (ci := 11) (fs := fs_11 o0) (fun _ _ _ => rfl) rfl hw mw_737 mw_738 mw_61 mw_739 (n := 0) (by decide +kernel) rfl hdd (by decide) hrm hd
def f_X11_ropes (o0 : Nat) (x1 : Int32) (M : Mm) : Option (Int32 × Mm) :=
  (if x1 = (-1 : Int32) then Gd (KDF[(M o0 0).toNatClampNeg]? = some (9, 0)) (Bd (f_X4_share 112 (M o0 0).toNatClampNeg M) (fun r3 => (if x1 = (-1 : Int32) then Gd (KDF[(r3 o0 0).toNatClampNeg]? = some (9, 0)) (Bd (f_X4_leastTogether 112 (r3 o0 0).toNatClampNeg r3) (fun r6 => some (r6, r3))) else Bd (f_X4_bellFor 112 x1 r3) (fun r7 => some (r7, r3))))) else Gd (KDF[(M o0 0).toNatClampNeg]? = some (9, 0)) ((if (f_X9_hasSuitor (M o0 0).toNatClampNeg x1 M) = 0 then some ((-1000000001 : Int32), M) else Gd (KDF[(M o0 0).toNatClampNeg]? = some (9, 0)) (Bd (f_X4_share 112 (M o0 0).toNatClampNeg M) (fun r11 => (if x1 = (-1 : Int32) then Gd (KDF[(r11 o0 0).toNatClampNeg]? = some (9, 0)) (Bd (f_X4_leastTogether 112 (r11 o0 0).toNatClampNeg r11) (fun r14 => some (r14, r11))) else Bd (f_X4_bellFor 112 x1 r11) (fun r15 => some (r15, r11))))))))
set_option maxRecDepth 100000 in
set_option maxHeartbeats 4000000 in
theorem c_X11_ropes {l : Launch} {D : va_G} {an : An} {b : Nat} {o0 : Nat} {x1 : Int32} (hk0 : KDF[o0]? = some (11, 0)) {M : Mm} {r : Int32} {M' : Mm} (h : f_X11_ropes o0 x1 M = some (r, M')) : Ct l D an b 0 yX11_ropes cX11_ropes 2 (some .int) 7 [.ref (b + o0), .int x1] KDF M (some (.int r)) KDF M' := by
  refine CtX.mk (as := fun b => [.ref (b + o0), .int x1]) (rv := fun b => (some (.int r))) (by decide) (fun b => Nat.le_of_ble_eq_true rfl) ⟨Nat.le_refl _, Nat.le_refl _⟩ (fun x X hR Z hN _ _ => ?_)
  have X : Ok x cX11_ropes 2 RX11 (some .int) := X
  have G : Gz x 2 0 [(0, .ref (xb x + o0)), (1, .int x1)] [] KDF M (f_X11_ropes o0 x1 M) (PsI2 x KDF) := by
    unfold f_X11_ropes
    refine g1 (pc' := 1) (w_iload_n X dX11_ropes_0 rfl 1 rfl) ?_
    refine g1 (pc' := 2) (w_iconst X (-1) dX11_ropes_1 (by decide)) ?_
    refine g_if (pcT := 19) (pcF := 5) (w_icmp_eq (tgt := 19) X dX11_ropes_2 (by decide)) (fun h1 => ?_) (fun h1 => ?_)
    · refine g1 (pc' := 20) (w_aload_n X dX11_ropes_19 rfl 0 rfl) ?_
      refine g1 (pc' := 23) (gt_11_10 X hk0 mw_333 dX11_ropes_20) ?_
      refine g1 (pc' := 24) (w_aload_n X dX11_ropes_23 rfl 0 rfl) ?_
      refine g1 (pc' := 27) (gt_11_0 X hk0 mw_323 dX11_ropes_24) ?_
      refine g_gd (fun h2 => ?_)
      refine g_bd (pc' := 30) (fun r3 => [(0, .ref (xb x + o0)), (1, .int x1)]) (fun r3 => []) (fun r3 => r3) (fun r3 h => k_X4_share X hR hN Z kd_112 h2 mw_782 (by decide) (Nat.le_of_ble_eq_true rfl) dX11_ropes_27 h) (fun r3 => ?_)
      show Gz x 2 30 [(0, .ref (xb x + o0)), (1, .int x1)] [] KDF r3 _ _
      refine g1 (pc' := 31) (w_iload_n X dX11_ropes_30 rfl 1 rfl) ?_
      refine g1 (pc' := 32) (w_iconst X (-1) dX11_ropes_31 (by decide)) ?_
      refine g_if (pcT := 35) (pcF := 49) (w_icmp_ne (tgt := 49) X dX11_ropes_32 (by decide)) (fun h4 => ?_) (fun h4 => ?_)
      · refine g1 (pc' := 36) (w_aload_n X dX11_ropes_35 rfl 0 rfl) ?_
        refine g1 (pc' := 39) (gt_11_10 X hk0 mw_333 dX11_ropes_36) ?_
        refine g1 (pc' := 40) (w_aload_n X dX11_ropes_39 rfl 0 rfl) ?_
        refine g1 (pc' := 43) (gt_11_0 X hk0 mw_323 dX11_ropes_40) ?_
        refine g_gd (fun h5 => ?_)
        refine g_bd (pc' := 46) (fun r6 => [(0, .ref (xb x + o0)), (1, .int x1)]) (fun r6 => [.int r6]) (fun r6 => r3) (fun r6 h => k_X4_leastTogether X hR hN Z kd_112 h5 mw_804 (by decide) (Nat.le_of_ble_eq_true rfl) dX11_ropes_43 h) (fun r6 => ?_)
        show Gz x 2 46 [(0, .ref (xb x + o0)), (1, .int x1)] [.int r6] KDF r3 _ _
        refine g1 (pc' := 57) (w_goto X dX11_ropes_46 (by decide)) ?_
        exact g_rI2 X dX11_ropes_57
      · refine g1 (pc' := 50) (w_aload_n X dX11_ropes_49 rfl 0 rfl) ?_
        refine g1 (pc' := 53) (gt_11_10 X hk0 mw_333 dX11_ropes_50) ?_
        refine g1 (pc' := 54) (w_iload_n X dX11_ropes_53 rfl 1 rfl) ?_
        refine g_bd (pc' := 57) (fun r7 => [(0, .ref (xb x + o0)), (1, .int x1)]) (fun r7 => [.int r7]) (fun r7 => r3) (fun r7 h => k_X4_bellFor X hR hN Z kd_112 mw_808 (by decide) (Nat.le_of_ble_eq_true rfl) dX11_ropes_54 h) (fun r7 => ?_)
        show Gz x 2 57 [(0, .ref (xb x + o0)), (1, .int x1)] [.int r7] KDF r3 _ _
        exact g_rI2 X dX11_ropes_57
    · refine g1 (pc' := 6) (w_aload_n X dX11_ropes_5 rfl 0 rfl) ?_
      refine g1 (pc' := 9) (gt_11_0 X hk0 mw_323 dX11_ropes_6) ?_
      refine g_gd (fun h8 => ?_)
      refine g1 (pc' := 10) (w_iload_n X dX11_ropes_9 rfl 1 rfl) ?_
      refine g1 (pc' := 13) (k_X9_hasSuitor X hR hN Z h8 mw_575 (by decide) (Nat.le_of_ble_eq_true rfl) dX11_ropes_10) ?_
      refine g_if (pcT := 16) (pcF := 19) (w_if_ne (tgt := 19) X dX11_ropes_13 (by decide)) (fun h9 => ?_) (fun h9 => ?_)
      · refine g1 (pc' := 18) (w_ldc (v := -1000000001) X dX11_ropes_16 mw_554) ?_
        exact g_rI2 X dX11_ropes_18
      · refine g1 (pc' := 20) (w_aload_n X dX11_ropes_19 rfl 0 rfl) ?_
        refine g1 (pc' := 23) (gt_11_10 X hk0 mw_333 dX11_ropes_20) ?_
        refine g1 (pc' := 24) (w_aload_n X dX11_ropes_23 rfl 0 rfl) ?_
        refine g1 (pc' := 27) (gt_11_0 X hk0 mw_323 dX11_ropes_24) ?_
        refine g_gd (fun h10 => ?_)
        refine g_bd (pc' := 30) (fun r11 => [(0, .ref (xb x + o0)), (1, .int x1)]) (fun r11 => []) (fun r11 => r11) (fun r11 h => k_X4_share X hR hN Z kd_112 h10 mw_782 (by decide) (Nat.le_of_ble_eq_true rfl) dX11_ropes_27 h) (fun r11 => ?_)
        show Gz x 2 30 [(0, .ref (xb x + o0)), (1, .int x1)] [] KDF r11 _ _
        refine g1 (pc' := 31) (w_iload_n X dX11_ropes_30 rfl 1 rfl) ?_
        refine g1 (pc' := 32) (w_iconst X (-1) dX11_ropes_31 (by decide)) ?_
        refine g_if (pcT := 35) (pcF := 49) (w_icmp_ne (tgt := 49) X dX11_ropes_32 (by decide)) (fun h12 => ?_) (fun h12 => ?_)
        · refine g1 (pc' := 36) (w_aload_n X dX11_ropes_35 rfl 0 rfl) ?_
          refine g1 (pc' := 39) (gt_11_10 X hk0 mw_333 dX11_ropes_36) ?_
          refine g1 (pc' := 40) (w_aload_n X dX11_ropes_39 rfl 0 rfl) ?_
          refine g1 (pc' := 43) (gt_11_0 X hk0 mw_323 dX11_ropes_40) ?_
          refine g_gd (fun h13 => ?_)
          refine g_bd (pc' := 46) (fun r14 => [(0, .ref (xb x + o0)), (1, .int x1)]) (fun r14 => [.int r14]) (fun r14 => r11) (fun r14 h => k_X4_leastTogether X hR hN Z kd_112 h13 mw_804 (by decide) (Nat.le_of_ble_eq_true rfl) dX11_ropes_43 h) (fun r14 => ?_)
          show Gz x 2 46 [(0, .ref (xb x + o0)), (1, .int x1)] [.int r14] KDF r11 _ _
          refine g1 (pc' := 57) (w_goto X dX11_ropes_46 (by decide)) ?_
          exact g_rI2 X dX11_ropes_57
        · refine g1 (pc' := 50) (w_aload_n X dX11_ropes_49 rfl 0 rfl) ?_
          refine g1 (pc' := 53) (gt_11_10 X hk0 mw_333 dX11_ropes_50) ?_
          refine g1 (pc' := 54) (w_iload_n X dX11_ropes_53 rfl 1 rfl) ?_
          refine g_bd (pc' := 57) (fun r15 => [(0, .ref (xb x + o0)), (1, .int x1)]) (fun r15 => [.int r15]) (fun r15 => r11) (fun r15 h => k_X4_bellFor X hR hN Z kd_112 mw_808 (by decide) (Nat.le_of_ble_eq_true rfl) dX11_ropes_54 h) (fun r15 => ?_)
          show Gz x 2 57 [(0, .ref (xb x + o0)), (1, .int x1)] [.int r15] KDF r11 _ _
          exact g_rI2 X dX11_ropes_57
  exact G _ h _ rfl
theorem k_X11_ropes {x : Cxt} {cc : ByteArray} {nL : Nat} {own : String} {ret : Option FieldType} (X : Ok x cc nL own ret) {d : Nat} (hR : Rm x d KDF) (hN : Nst x) (Z : xz x = 0) {pc : Nat} {lv : List (Nat × Value)} {rest : List Value} {M : Mm} {o0 : Nat} {x1 : Int32} (hk0 : KDF[o0]? = some (11, 0)) {idx : Nat} (hw : Cond.methodLink own idx yX11_ropes ∈ tbG) (hdd : 7 + 1 ≤ d) (hrm : (rest.map fun v => v.category).sum ≤ 8) (hd : decode cc pc = .ok (.invokevirtual idx, 3)) {r : Int32} {M' : Mm} (h : f_X11_ropes o0 x1 M = some (r, M')) : StpZ x nL pc lv (.int x1 :: .ref (xb x + o0) :: rest) KDF M (pc + 3) lv (.int r :: rest) KDF M' :=
  w_callV (st := []) (As := [.int x1]) X hR hN (CtX0 Z (c_X11_ropes hk0 h)) ⟨Nat.le_refl _, Nat.le_refl _⟩ ⟨Nat.le_refl _, Nat.le_refl _⟩ hk0 (ci := 11) (fs := fs_11 o0) (fun _ _ _ => rfl) rfl hw mw_779 mw_780 mw_61 mw_781 (n := 1) (by decide +kernel) rfl hdd (by decide) hrm hd
def b_X11_last_48 (o0 : Nat) (x1 : Int32) (x2 : Int32) (s48 : Int32 × Int32 × Mm) : Option ((Int32 × Int32 × Mm) ⊕ (Int32 × Mm)) :=
  (if x2 ≤ s48.2.1 then some (.inr (s48.1, s48.2.2)) else Gd (KDF[(s48.2.2 o0 0).toNatClampNeg]? = some (9, 0)) (Bd (f_X10_step 115 (s48.2.2 o0 0).toNatClampNeg s48.2.2) (fun r8 => Gd (KDF[(r8 o0 0).toNatClampNeg]? = some (9, 0)) (Lt (((if (f_X5_bellIn (r8 115 0) ((r8 (r8 o0 0).toNatClampNeg 0) - (1 : Int32))) = x1 then Lt (s48.1 + (1 : Int32)) (fun v12 => v12) else s48.1)) : Int32) (fun j10 => Lt (s48.2.1 + (1 : Int32)) (fun v13 => some (.inl (j10, v13, r8))))))))
def f_X11_last (o0 : Nat) (x1 : Int32) (x2 : Int32) (M : Mm) : Option (Int32 × Mm) :=
  Gd (KDF[(M o0 0).toNatClampNeg]? = some (9, 0)) ((if (f_X9_hasBell (M o0 0).toNatClampNeg x1 M) = 0 then some ((-1000000001 : Int32), M) else (if x2 < (1 : Int32) then some ((-1000000002 : Int32), M) else (if x2 ≤ (500 : Int32) then Bd (f_X10_copyFrom 115 (37 + 1) M) (fun r5 => Bd (Lp (b_X11_last_48 o0 x1 x2) 100000 ((0 : Int32), (0 : Int32), r5)) (fun e14 => some (e14.1, e14.2))) else some ((-1000000002 : Int32), M)))))
set_option maxRecDepth 100000 in
set_option maxHeartbeats 4000000 in
theorem c_X11_last {l : Launch} {D : va_G} {an : An} {b : Nat} {o0 : Nat} {x1 : Int32} {x2 : Int32} (hk0 : KDF[o0]? = some (11, 0)) {M : Mm} {r : Int32} {M' : Mm} (h : f_X11_last o0 x1 x2 M = some (r, M')) : Ct l D an b 0 yX11_last cX11_last 5 (some .int) 3 [.ref (b + o0), .int x1, .int x2] KDF M (some (.int r)) KDF M' := by
  refine CtX.mk (as := fun b => [.ref (b + o0), .int x1, .int x2]) (rv := fun b => (some (.int r))) (by decide) (fun b => Nat.le_of_ble_eq_true rfl) ⟨Nat.le_refl _, Nat.le_refl _⟩ (fun x X hR Z hN _ _ => ?_)
  have X : Ok x cX11_last 5 RX11 (some .int) := X
  have G : Gz x 5 0 [(0, .ref (xb x + o0)), (1, .int x1), (2, .int x2)] [] KDF M (f_X11_last o0 x1 x2 M) (PsI2 x KDF) := by
    unfold f_X11_last
    refine g1 (pc' := 1) (w_aload_n X dX11_last_0 rfl 0 rfl) ?_
    refine g1 (pc' := 4) (gt_11_0 X hk0 mw_323 dX11_last_1) ?_
    refine g_gd (fun h1 => ?_)
    refine g1 (pc' := 5) (w_iload_n X dX11_last_4 rfl 1 rfl) ?_
    refine g1 (pc' := 8) (k_X9_hasBell X hR hN Z h1 mw_550 (by decide) (Nat.le_of_ble_eq_true rfl) dX11_last_5) ?_
    refine g_if (pcT := 11) (pcF := 14) (w_if_ne (tgt := 14) X dX11_last_8 (by decide)) (fun h2 => ?_) (fun h2 => ?_)
    · refine g1 (pc' := 13) (w_ldc (v := -1000000001) X dX11_last_11 mw_554) ?_
      exact g_rI2 X dX11_last_13
    · refine g1 (pc' := 15) (w_iload_n X dX11_last_14 rfl 2 rfl) ?_
      refine g1 (pc' := 16) (w_iconst X (1) dX11_last_15 (by decide)) ?_
      refine g_if (pcT := 26) (pcF := 19) (w_icmp_lt (tgt := 26) X dX11_last_16 (by decide)) (fun h3 => ?_) (fun h3 => ?_)
      · refine g1 (pc' := 28) (w_ldc (v := -1000000002) X dX11_last_26 mw_376) ?_
        exact g_rI2 X dX11_last_28
      · refine g1 (pc' := 20) (w_iload_n X dX11_last_19 rfl 2 rfl) ?_
        refine g1 (pc' := 23) (w_sipush X (500) dX11_last_20 (by decide)) ?_
        refine g_if (pcT := 29) (pcF := 26) (w_icmp_le (tgt := 29) X dX11_last_23 (by decide)) (fun h4 => ?_) (fun h4 => ?_)
        · refine g1 (pc' := 30) (w_iconst X (0) dX11_last_29 (by decide)) ?_
          refine g1 (pc' := 31) (lv' := [(3, .int (0 : Int32)), (0, .ref (xb x + o0)), (1, .int x1), (2, .int x2)]) (w_istore_n X dX11_last_30 rfl (by decide) rfl) ?_
          refine g1 (pc' := 32) (w_aload_n X dX11_last_31 rfl 1 rfl) ?_
          refine g1 (pc' := 35) (gt_11_11 X hk0 mw_334 dX11_last_32) ?_
          refine g1 (pc' := 36) (w_aload_n X dX11_last_35 rfl 1 rfl) ?_
          refine g1 (pc' := 39) (gt_11_3 X hk0 mw_326 dX11_last_36) ?_
          refine g1 (pc' := 42) (gt_1_0 X kd_37 mw_208 dX11_last_39) ?_
          refine g_bd (pc' := 45) (fun r5 => [(3, .int (0 : Int32)), (0, .ref (xb x + o0)), (1, .int x1), (2, .int x2)]) (fun r5 => []) (fun r5 => r5) (fun r5 h => k_X10_copyFrom X hR hN Z kd_115 (kd_Ev1 kd_37) mw_721 (by decide) (Nat.le_of_ble_eq_true rfl) dX11_last_42 h) (fun r5 => ?_)
          show Gz x 5 45 [(3, .int (0 : Int32)), (0, .ref (xb x + o0)), (1, .int x1), (2, .int x2)] [] KDF r5 _ _
          refine g1 (pc' := 46) (w_iconst X (0) dX11_last_45 (by decide)) ?_
          refine g1 (pc' := 48) (lv' := [(4, .int (0 : Int32)), (3, .int (0 : Int32)), (0, .ref (xb x + o0)), (1, .int x1), (2, .int x2)]) (w_istore X dX11_last_46 (by decide) rfl) ?_
          refine g_pick (lv' := [(0, .ref (xb x + o0)), (1, .int x1), (2, .int x2), (3, .int (0 : Int32)), (4, .int (0 : Int32))]) [2, 3, 4, 1, 0] rfl ?_
          refine g_bdJ (J := 97) (fun e14 => [(3, .int e14.1)]) (fun e14 => []) (fun e14 => e14.2) (g_lp (fun s48 => [(0, .ref (xb x + o0)), (1, .int x1), (2, .int x2), (3, .int s48.1), (4, .int s48.2.1)]) (fun s48 => s48.2.2) (fun s48 => ?_) 100000 ((0 : Int32), (0 : Int32), r5)) (fun e14 => ?_)
          · show Gz x 5 48 [(0, .ref (xb x + o0)), (1, .int x1), (2, .int x2), (3, .int s48.1), (4, .int s48.2.1)] [] KDF s48.2.2 (b_X11_last_48 o0 x1 x2 s48) _
            unfold b_X11_last_48
            refine g1 (pc' := 50) (w_iload X dX11_last_48 4 rfl) ?_
            refine g1 (pc' := 51) (w_iload_n X dX11_last_50 rfl 2 rfl) ?_
            refine g_if (pcT := 97) (pcF := 54) (w_icmp_ge (tgt := 97) X dX11_last_51 (by decide)) (fun h6 => ?_) (fun h6 => ?_)
            · refine g_inr ?_
              exact g_end [3] rfl rfl rfl
            · refine g1 (pc' := 55) (w_aload_n X dX11_last_54 rfl 0 rfl) ?_
              refine g1 (pc' := 58) (gt_11_11 X hk0 mw_334 dX11_last_55) ?_
              refine g1 (pc' := 59) (w_aload_n X dX11_last_58 rfl 0 rfl) ?_
              refine g1 (pc' := 62) (gt_11_0 X hk0 mw_323 dX11_last_59) ?_
              refine g_gd (fun h7 => ?_)
              refine g_bd (pc' := 65) (fun r8 => [(0, .ref (xb x + o0)), (1, .int x1), (2, .int x2), (3, .int s48.1), (4, .int s48.2.1)]) (fun r8 => []) (fun r8 => r8) (fun r8 h => k_X10_step X hR hN Z kd_115 h7 mw_726 (by decide) (Nat.le_of_ble_eq_true rfl) dX11_last_62 h) (fun r8 => ?_)
              show Gz x 5 65 [(0, .ref (xb x + o0)), (1, .int x1), (2, .int x2), (3, .int s48.1), (4, .int s48.2.1)] [] KDF r8 _ _
              refine g1 (pc' := 66) (w_aload_n X dX11_last_65 rfl 0 rfl) ?_
              refine g1 (pc' := 69) (gt_11_11 X hk0 mw_334 dX11_last_66) ?_
              refine g1 (pc' := 72) (gt_10_0 X kd_115 mw_194 dX11_last_69) ?_
              refine g1 (pc' := 73) (w_aload_n X dX11_last_72 rfl 0 rfl) ?_
              refine g1 (pc' := 76) (gt_11_0 X hk0 mw_323 dX11_last_73) ?_
              refine g_gd (fun h9 => ?_)
              refine g1 (pc' := 79) (gt_9_0 X h9 mw_114 dX11_last_76) ?_
              refine g1 (pc' := 80) (w_iconst X (1) dX11_last_79 (by decide)) ?_
              refine g1 (pc' := 81) (w_isub X dX11_last_80) ?_
              refine g1 (pc' := 84) (k_X5_bellIn X hR hN Z  mw_816 (by decide) (Nat.le_of_ble_eq_true rfl) dX11_last_81) ?_
              refine g1 (pc' := 85) (w_iload_n X dX11_last_84 rfl 1 rfl) ?_
              refine g_ltJ (J := 91) (fun j10 => [(0, .ref (xb x + o0)), (1, .int x1), (2, .int x2), (3, .int j10), (4, .int s48.2.1)]) (fun j10 => []) (fun j10 => r8) ?_ (fun j10 => ?_)
              · refine g_ifS (pcT := 88) (pcF := 91) (w_icmp_ne (tgt := 91) X dX11_last_85 (by decide)) (fun h11 => ?_) (fun h11 => ?_)
                · refine g_ltT (pc' := 91) (fun v12 => [(3, .int v12), (0, .ref (xb x + o0)), (1, .int x1), (2, .int x2), (4, .int s48.2.1)]) (fun v12 => []) (fun v12 => r8) (w_iinc X dX11_last_88 3 rfl rfl (by decide) rfl) (fun v12 => ?_)
                  show Gz x 5 91 [(3, .int v12), (0, .ref (xb x + o0)), (1, .int x1), (2, .int x2), (4, .int s48.2.1)] [] KDF r8 _ _
                  exact g_end [1, 2, 3, 0, 4] rfl rfl rfl
                · exact g_end [0, 1, 2, 3, 4] rfl rfl rfl
              · show Gz x 5 91 [(0, .ref (xb x + o0)), (1, .int x1), (2, .int x2), (3, .int j10), (4, .int s48.2.1)] [] KDF r8 _ _
                refine g_lt (pc' := 94) (fun v13 => [(4, .int v13), (0, .ref (xb x + o0)), (1, .int x1), (2, .int x2), (3, .int j10)]) (fun v13 => []) (fun v13 => r8) (w_iinc X dX11_last_91 4 rfl rfl (by decide) rfl) (fun v13 => ?_)
                show Gz x 5 94 [(4, .int v13), (0, .ref (xb x + o0)), (1, .int x1), (2, .int x2), (3, .int j10)] [] KDF r8 _ _
                refine g1 (pc' := 48) (w_goto X dX11_last_94 (by decide)) ?_
                refine g_inl ?_
                exact g_end [1, 2, 3, 4, 0] rfl rfl rfl
          · show Gz x 5 97 [(3, .int e14.1)] [] KDF e14.2 _ _
            refine g1 (pc' := 98) (w_iload_n X dX11_last_97 rfl 0 rfl) ?_
            exact g_rI2 X dX11_last_98
        · refine g1 (pc' := 28) (w_ldc (v := -1000000002) X dX11_last_26 mw_376) ?_
          exact g_rI2 X dX11_last_28
  exact G _ h _ rfl
theorem k_X11_last {x : Cxt} {cc : ByteArray} {nL : Nat} {own : String} {ret : Option FieldType} (X : Ok x cc nL own ret) {d : Nat} (hR : Rm x d KDF) (hN : Nst x) (Z : xz x = 0) {pc : Nat} {lv : List (Nat × Value)} {rest : List Value} {M : Mm} {o0 : Nat} {x1 : Int32} {x2 : Int32} (hk0 : KDF[o0]? = some (11, 0)) {idx : Nat} (hw : Cond.methodLink own idx yX11_last ∈ tbG) (hdd : 3 + 1 ≤ d) (hrm : (rest.map fun v => v.category).sum ≤ 8) (hd : decode cc pc = .ok (.invokevirtual idx, 3)) {r : Int32} {M' : Mm} (h : f_X11_last o0 x1 x2 M = some (r, M')) : StpZ x nL pc lv (.int x2 :: .int x1 :: .ref (xb x + o0) :: rest) KDF M (pc + 3) lv (.int r :: rest) KDF M' :=
  w_callV (st := []) (As := [.int x1, .int x2]) X hR hN (CtX0 Z (c_X11_last hk0 h)) ⟨Nat.le_refl _, Nat.le_refl _⟩ ⟨Nat.le_refl _, Nat.le_refl _⟩ hk0 (ci := 11) (fs := fs_11 o0) (fun _ _ _ => rfl) rfl hw mw_813 mw_814 mw_61 mw_815 (n := 2) (by decide +kernel) rfl hdd (by decide) hrm hd
def b_X11_nextOut_28 (o0 : Nat) (s28 : Int32 × Mm) : Option ((Int32 × Mm) ⊕ ((Int32 × Mm) ⊕ (Mm))) :=
  (if (500 : Int32) ≤ s28.1 then some (.inr (.inr s28.2)) else Gd (KDF[(s28.2 o0 0).toNatClampNeg]? = some (9, 0)) (Bd (f_X10_step 115 (s28.2 o0 0).toNatClampNeg s28.2) (fun r6 => Bd (((if (f_X10_endsLead 115 r6) = 0 then some (-1 : Int32) else Gd (KDF[(r6 o0 0).toNatClampNeg]? = some (9, 0)) (Bd (f_X1_loserBy 37 (r6 115 0) (r6 o0 0).toNatClampNeg r6) (fun r11 => some r11)))) : Option (Int32)) (fun j8 => (if j8 = (-1 : Int32) then Lt (s28.1 + (1 : Int32)) (fun v13 => some (.inl (v13, r6))) else some (.inr (.inl (j8, r6))))))))
def f_X11_nextOut (o0 : Nat) (M : Mm) : Option (Int32 × Mm) :=
  Gd (KDF[(M o0 0).toNatClampNeg]? = some (9, 0)) ((if (f_X9_stands (M o0 0).toNatClampNeg M) = 0 then some ((-1 : Int32), M) else Bd (f_X10_copyFrom 115 (37 + 1) M) (fun r3 => BdS (Lp (b_X11_nextOut_28 o0) 100000 ((0 : Int32), r3)) (fun e14 => some ((-1 : Int32), e14)))))
set_option maxRecDepth 100000 in
set_option maxHeartbeats 4000000 in
theorem c_X11_nextOut {l : Launch} {D : va_G} {an : An} {b : Nat} {o0 : Nat} (hk0 : KDF[o0]? = some (11, 0)) {M : Mm} {r : Int32} {M' : Mm} (h : f_X11_nextOut o0 M = some (r, M')) : Ct l D an b 0 yX11_nextOut cX11_nextOut 3 (some .int) 4 [.ref (b + o0)] KDF M (some (.int r)) KDF M' := by
  refine CtX.mk (as := fun b => [.ref (b + o0)]) (rv := fun b => (some (.int r))) (by decide) (fun b => Nat.le_of_ble_eq_true rfl) ⟨Nat.le_refl _, Nat.le_refl _⟩ (fun x X hR Z hN _ _ => ?_)
  have X : Ok x cX11_nextOut 3 RX11 (some .int) := X
  have G : Gz x 3 0 [(0, .ref (xb x + o0))] [] KDF M (f_X11_nextOut o0 M) (PsI2 x KDF) := by
    unfold f_X11_nextOut
    refine g1 (pc' := 1) (w_aload_n X dX11_nextOut_0 rfl 0 rfl) ?_
    refine g1 (pc' := 4) (gt_11_0 X hk0 mw_323 dX11_nextOut_1) ?_
    refine g_gd (fun h1 => ?_)
    refine g1 (pc' := 7) (k_X9_stands X hR hN Z h1 mw_540 (by decide) (Nat.le_of_ble_eq_true rfl) dX11_nextOut_4) ?_
    refine g_if (pcT := 10) (pcF := 12) (w_if_ne (tgt := 12) X dX11_nextOut_7 (by decide)) (fun h2 => ?_) (fun h2 => ?_)
    · refine g1 (pc' := 11) (w_iconst X (-1) dX11_nextOut_10 (by decide)) ?_
      exact g_rI2 X dX11_nextOut_11
    · refine g1 (pc' := 13) (w_aload_n X dX11_nextOut_12 rfl 0 rfl) ?_
      refine g1 (pc' := 16) (gt_11_11 X hk0 mw_334 dX11_nextOut_13) ?_
      refine g1 (pc' := 17) (w_aload_n X dX11_nextOut_16 rfl 0 rfl) ?_
      refine g1 (pc' := 20) (gt_11_3 X hk0 mw_326 dX11_nextOut_17) ?_
      refine g1 (pc' := 23) (gt_1_0 X kd_37 mw_208 dX11_nextOut_20) ?_
      refine g_bd (pc' := 26) (fun r3 => [(0, .ref (xb x + o0))]) (fun r3 => []) (fun r3 => r3) (fun r3 h => k_X10_copyFrom X hR hN Z kd_115 (kd_Ev1 kd_37) mw_721 (by decide) (Nat.le_of_ble_eq_true rfl) dX11_nextOut_23 h) (fun r3 => ?_)
      show Gz x 3 26 [(0, .ref (xb x + o0))] [] KDF r3 _ _
      refine g1 (pc' := 27) (w_iconst X (0) dX11_nextOut_26 (by decide)) ?_
      refine g1 (pc' := 28) (lv' := [(1, .int (0 : Int32)), (0, .ref (xb x + o0))]) (w_istore_n X dX11_nextOut_27 rfl (by decide) rfl) ?_
      refine g_pick (lv' := [(0, .ref (xb x + o0)), (1, .int (0 : Int32))]) [1, 0] rfl ?_
      refine g_bdS (J := 92) (fun e14 => []) (fun e14 => []) (fun e14 => e14) (g_lp (fun s28 => [(0, .ref (xb x + o0)), (1, .int s28.1)]) (fun s28 => s28.2) (fun s28 => ?_) 100000 ((0 : Int32), r3)) (fun e14 => ?_)
      · show Gz x 3 28 [(0, .ref (xb x + o0)), (1, .int s28.1)] [] KDF s28.2 (b_X11_nextOut_28 o0 s28) _
        unfold b_X11_nextOut_28
        refine g1 (pc' := 29) (w_iload_n X dX11_nextOut_28 rfl 1 rfl) ?_
        refine g1 (pc' := 32) (w_sipush X (500) dX11_nextOut_29 (by decide)) ?_
        refine g_if (pcT := 92) (pcF := 35) (w_icmp_ge (tgt := 92) X dX11_nextOut_32 (by decide)) (fun h4 => ?_) (fun h4 => ?_)
        · refine g_inr ?_
          refine g_inr ?_
          exact g_end [] rfl rfl rfl
        · refine g1 (pc' := 36) (w_aload_n X dX11_nextOut_35 rfl 0 rfl) ?_
          refine g1 (pc' := 39) (gt_11_11 X hk0 mw_334 dX11_nextOut_36) ?_
          refine g1 (pc' := 40) (w_aload_n X dX11_nextOut_39 rfl 0 rfl) ?_
          refine g1 (pc' := 43) (gt_11_0 X hk0 mw_323 dX11_nextOut_40) ?_
          refine g_gd (fun h5 => ?_)
          refine g_bd (pc' := 46) (fun r6 => [(0, .ref (xb x + o0)), (1, .int s28.1)]) (fun r6 => []) (fun r6 => r6) (fun r6 h => k_X10_step X hR hN Z kd_115 h5 mw_726 (by decide) (Nat.le_of_ble_eq_true rfl) dX11_nextOut_43 h) (fun r6 => ?_)
          show Gz x 3 46 [(0, .ref (xb x + o0)), (1, .int s28.1)] [] KDF r6 _ _
          refine g1 (pc' := 47) (w_aload_n X dX11_nextOut_46 rfl 0 rfl) ?_
          refine g1 (pc' := 50) (gt_11_11 X hk0 mw_334 dX11_nextOut_47) ?_
          refine g1 (pc' := 53) (k_X10_endsLead X hR hN Z kd_115 mw_821 (by decide) (Nat.le_of_ble_eq_true rfl) dX11_nextOut_50) ?_
          refine g_bdJ (J := 78) (fun j8 => [(0, .ref (xb x + o0)), (1, .int s28.1)]) (fun j8 => [.int j8]) (fun j8 => r6) ?_ (fun j8 => ?_)
          · refine g_if (pcT := 77) (pcF := 56) (w_if_eq (tgt := 77) X dX11_nextOut_53 (by decide)) (fun h9 => ?_) (fun h9 => ?_)
            · refine g1 (pc' := 78) (w_iconst X (-1) dX11_nextOut_77 (by decide)) ?_
              exact g_end [0, 1] rfl rfl rfl
            · refine g1 (pc' := 57) (w_aload_n X dX11_nextOut_56 rfl 0 rfl) ?_
              refine g1 (pc' := 60) (gt_11_3 X hk0 mw_326 dX11_nextOut_57) ?_
              refine g1 (pc' := 61) (w_aload_n X dX11_nextOut_60 rfl 0 rfl) ?_
              refine g1 (pc' := 64) (gt_11_11 X hk0 mw_334 dX11_nextOut_61) ?_
              refine g1 (pc' := 67) (gt_10_0 X kd_115 mw_194 dX11_nextOut_64) ?_
              refine g1 (pc' := 68) (w_aload_n X dX11_nextOut_67 rfl 0 rfl) ?_
              refine g1 (pc' := 71) (gt_11_0 X hk0 mw_323 dX11_nextOut_68) ?_
              refine g_gd (fun h10 => ?_)
              refine g_bd (pc' := 74) (fun r11 => [(0, .ref (xb x + o0)), (1, .int s28.1)]) (fun r11 => [.int r11]) (fun r11 => r6) (fun r11 h => k_X1_loserBy X hR hN Z kd_37 h10 mw_822 (by decide) (Nat.le_of_ble_eq_true rfl) dX11_nextOut_71 h) (fun r11 => ?_)
              show Gz x 3 74 [(0, .ref (xb x + o0)), (1, .int s28.1)] [.int r11] KDF r6 _ _
              refine g1 (pc' := 78) (w_goto X dX11_nextOut_74 (by decide)) ?_
              exact g_end [0, 1] rfl rfl rfl
          · show Gz x 3 78 [(0, .ref (xb x + o0)), (1, .int s28.1)] [.int j8] KDF r6 _ _
            refine g1 (pc' := 79) (lv' := [(2, .int j8), (0, .ref (xb x + o0)), (1, .int s28.1)]) (w_istore_n X dX11_nextOut_78 rfl (by decide) rfl) ?_
            refine g1 (pc' := 80) (w_iload_n X dX11_nextOut_79 rfl 0 rfl) ?_
            refine g1 (pc' := 81) (w_iconst X (-1) dX11_nextOut_80 (by decide)) ?_
            refine g_if (pcT := 86) (pcF := 84) (w_icmp_eq (tgt := 86) X dX11_nextOut_81 (by decide)) (fun h12 => ?_) (fun h12 => ?_)
            · refine g_lt (pc' := 89) (fun v13 => [(1, .int v13), (2, .int j8), (0, .ref (xb x + o0))]) (fun v13 => []) (fun v13 => r6) (w_iinc X dX11_nextOut_86 2 rfl rfl (by decide) rfl) (fun v13 => ?_)
              show Gz x 3 89 [(1, .int v13), (2, .int j8), (0, .ref (xb x + o0))] [] KDF r6 _ _
              refine g1 (pc' := 28) (w_goto X dX11_nextOut_89 (by decide)) ?_
              refine g_inl ?_
              exact g_end [2, 0] rfl rfl rfl
            · refine g1 (pc' := 85) (w_iload_n X dX11_nextOut_84 rfl 0 rfl) ?_
              refine g_inr ?_
              refine g_inl ?_
              exact g_rI2 X dX11_nextOut_85
      · show Gz x 3 92 [] [] KDF e14 _ _
        refine g1 (pc' := 93) (w_iconst X (-1) dX11_nextOut_92 (by decide)) ?_
        exact g_rI2 X dX11_nextOut_93
  exact G _ h _ rfl
theorem k_X11_nextOut {x : Cxt} {cc : ByteArray} {nL : Nat} {own : String} {ret : Option FieldType} (X : Ok x cc nL own ret) {d : Nat} (hR : Rm x d KDF) (hN : Nst x) (Z : xz x = 0) {pc : Nat} {lv : List (Nat × Value)} {rest : List Value} {M : Mm} {o0 : Nat} (hk0 : KDF[o0]? = some (11, 0)) {idx : Nat} (hw : Cond.methodLink own idx yX11_nextOut ∈ tbG) (hdd : 4 + 1 ≤ d) (hrm : (rest.map fun v => v.category).sum ≤ 8) (hd : decode cc pc = .ok (.invokevirtual idx, 3)) {r : Int32} {M' : Mm} (h : f_X11_nextOut o0 M = some (r, M')) : StpZ x nL pc lv (.ref (xb x + o0) :: rest) KDF M (pc + 3) lv (.int r :: rest) KDF M' :=
  w_callV (st := []) (As := []) X hR hN (CtX0 Z (c_X11_nextOut hk0 h)) ⟨Nat.le_refl _, Nat.le_refl _⟩ ⟨Nat.le_refl _, Nat.le_refl _⟩ hk0 (ci := 11) (fs := fs_11 o0) (fun _ _ _ => rfl) rfl hw mw_818 mw_819 mw_61 mw_820 (n := 0) (by decide +kernel) rfl hdd (by decide) hrm hd
