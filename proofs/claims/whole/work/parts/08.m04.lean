def f_X9_complete (o0 : Nat) (M : Mm) : Option (Mm) :=
  Bd (((if (f_X9_stands o0 M) = 0 then some M else (if (M o0 1) = 0 then Bd (f_X9_addChange o0 (f_X9_allPlaces o0 M) M) (fun r6 => some r6.2) else some M))) : Option (Mm)) (fun j3 => (if (f_X9_stands o0 j3) = 0 then some j3 else (if (j3 o0 3) = 0 then Bd (f_X9_tellCall o0 (f_X9_allPlaces o0 j3) j3) (fun r9 => some r9.2) else some j3)))
set_option maxRecDepth 100000 in
set_option maxHeartbeats 4000000 in
theorem c_X9_complete {l : Launch} {D : va_G} {an : An} {b : Nat} {o0 : Nat} (hk0 : KDF[o0]? = some (9, 0)) {M : Mm} {M' : Mm} (h : f_X9_complete o0 M = some M') : Ct l D an b 0 yX9_complete cX9_complete 1 none 4 [.ref (b + o0)] KDF M none KDF M' := by
  refine CtX.mk (as := fun b => [.ref (b + o0)]) (rv := fun b => none) (by decide) (fun b => Nat.le_of_ble_eq_true rfl) ⟨Nat.le_refl _, Nat.le_refl _⟩ (fun x X hR Z hN _ _ => ?_)
  have X : Ok x cX9_complete 1 RX9 none := X
  have G : Gz x 1 0 [(0, .ref (xb x + o0))] [] KDF M (f_X9_complete o0 M) (PsM x KDF) := by
    unfold f_X9_complete
    refine g1 (pc' := 1) (w_aload_n X dX9_complete_0 rfl 0 rfl) ?_
    refine g1 (pc' := 4) (k_X9_stands X hR hN Z hk0 mw_468 (by decide) (Nat.le_of_ble_eq_true rfl) dX9_complete_1) ?_
    refine g_bdJ (J := 23) (fun j3 => [(0, .ref (xb x + o0))]) (fun j3 => []) (fun j3 => j3) ?_ (fun j3 => ?_)
    · refine g_if (pcT := 23) (pcF := 7) (w_if_eq (tgt := 23) X dX9_complete_4 (by decide)) (fun h4 => ?_) (fun h4 => ?_)
      · exact g_end [0] rfl rfl rfl
      · refine g1 (pc' := 8) (w_aload_n X dX9_complete_7 rfl 0 rfl) ?_
        refine g1 (pc' := 11) (gt_9_1 X hk0 mw_117 dX9_complete_8) ?_
        refine g_if (pcT := 14) (pcF := 23) (w_if_ne (tgt := 23) X dX9_complete_11 (by decide)) (fun h5 => ?_) (fun h5 => ?_)
        · refine g1 (pc' := 15) (w_aload_n X dX9_complete_14 rfl 0 rfl) ?_
          refine g1 (pc' := 16) (w_aload_n X dX9_complete_15 rfl 0 rfl) ?_
          refine g1 (pc' := 19) (k_X9_allPlaces X hR hN Z hk0 mw_469 (by decide) (Nat.le_of_ble_eq_true rfl) dX9_complete_16) ?_
          refine g_bd (pc' := 22) (fun r6 => [(0, .ref (xb x + o0))]) (fun r6 => [.int r6.1]) (fun r6 => r6.2) (fun r6 h => k_X9_addChange X hR hN Z hk0 mw_470 (by decide) (Nat.le_of_ble_eq_true rfl) dX9_complete_19 h) (fun r6 => ?_)
          show Gz x 1 22 [(0, .ref (xb x + o0))] [.int r6.1] KDF r6.2 _ _
          refine g1 (pc' := 23) (w_pop X dX9_complete_22 rfl) ?_
          exact g_end [0] rfl rfl rfl
        · exact g_end [0] rfl rfl rfl
    · show Gz x 1 23 [(0, .ref (xb x + o0))] [] KDF j3 _ _
      refine g1 (pc' := 24) (w_aload_n X dX9_complete_23 rfl 0 rfl) ?_
      refine g1 (pc' := 27) (k_X9_stands X hR hN Z hk0 mw_468 (by decide) (Nat.le_of_ble_eq_true rfl) dX9_complete_24) ?_
      refine g_if (pcT := 46) (pcF := 30) (w_if_eq (tgt := 46) X dX9_complete_27 (by decide)) (fun h7 => ?_) (fun h7 => ?_)
      · exact g_rM X dX9_complete_46
      · refine g1 (pc' := 31) (w_aload_n X dX9_complete_30 rfl 0 rfl) ?_
        refine g1 (pc' := 34) (gt_9_3 X hk0 mw_127 dX9_complete_31) ?_
        refine g_if (pcT := 37) (pcF := 46) (w_if_ne (tgt := 46) X dX9_complete_34 (by decide)) (fun h8 => ?_) (fun h8 => ?_)
        · refine g1 (pc' := 38) (w_aload_n X dX9_complete_37 rfl 0 rfl) ?_
          refine g1 (pc' := 39) (w_aload_n X dX9_complete_38 rfl 0 rfl) ?_
          refine g1 (pc' := 42) (k_X9_allPlaces X hR hN Z hk0 mw_469 (by decide) (Nat.le_of_ble_eq_true rfl) dX9_complete_39) ?_
          refine g_bd (pc' := 45) (fun r9 => [(0, .ref (xb x + o0))]) (fun r9 => [.int r9.1]) (fun r9 => r9.2) (fun r9 h => k_X9_tellCall X hR hN Z hk0 mw_471 (by decide) (Nat.le_of_ble_eq_true rfl) dX9_complete_42 h) (fun r9 => ?_)
          show Gz x 1 45 [(0, .ref (xb x + o0))] [.int r9.1] KDF r9.2 _ _
          refine g1 (pc' := 46) (w_pop X dX9_complete_45 rfl) ?_
          exact g_rM X dX9_complete_46
        · exact g_rM X dX9_complete_46
  exact G _ h _ rfl
theorem k_X9_complete {x : Cxt} {cc : ByteArray} {nL : Nat} {own : String} {ret : Option FieldType} (X : Ok x cc nL own ret) {d : Nat} (hR : Rm x d KDF) (hN : Nst x) (Z : xz x = 0) {pc : Nat} {lv : List (Nat × Value)} {rest : List Value} {M : Mm} {o0 : Nat} (hk0 : KDF[o0]? = some (9, 0)) {idx : Nat} (hw : Cond.methodLink own idx yX9_complete ∈ tbG) (hdd : 4 + 1 ≤ d) (hrm : (rest.map fun v => v.category).sum ≤ 8) (hd : decode cc pc = .ok (.invokevirtual idx, 3)) {M' : Mm} (h : f_X9_complete o0 M = some M') : StpZ x nL pc lv (.ref (xb x + o0) :: rest) KDF M (pc + 3) lv (rest) KDF M' :=
  w_callV (st := []) (As := []) X hR hN (CtX0 Z (c_X9_complete hk0 h)) ⟨Nat.le_refl _, Nat.le_refl _⟩ ⟨Nat.le_refl _, Nat.le_refl _⟩ hk0 (ci := 9) (fs := fs_9 o0) (fun _ _ _ => rfl) rfl hw mw_465 mw_466 mw_62 mw_467 (n := 0) (by decide +kernel) rfl hdd (by decide) hrm hd
def b_X7_readInto_25 (o0 : Nat) (o1 : Nat) (s25 : Int32 × Mm) : Option ((Int32 × Mm) ⊕ (Mm)) :=
  (if (240 : Int32) ≤ s25.1 then some (.inr s25.2) else (if (s25.2 o0 0) ≤ (s25.2 o0 3) then some (.inr s25.2) else (if (s25.2 o0 5) = 0 then Bd (f_X7_readClause o0 o1 s25.2) (fun r9 => Bd (f_X7_skipBlanks o0 r9) (fun r10 => Lt (s25.1 + (1 : Int32)) (fun v11 => some (.inl (v11, r10))))) else some (.inr s25.2))))
def f_X7_readInto (o0 : Nat) (o1 : Nat) (M : Mm) : Option (Int32 × Mm) :=
  Bd (f_X9_clear o1 M) (fun r1 => Lt (st2 r1 o0 3 (0 : Int32)) (fun M2 => Lt (st2 M2 o0 5 (0 : Int32)) (fun M3 => Lt (st2 M3 o0 1 (-1 : Int32)) (fun M4 => Bd (f_X7_skipBlanks o0 M4) (fun r5 => Bd (Lp (b_X7_readInto_25 o0 o1) 100000 ((0 : Int32), r5)) (fun e12 => Bd (((if (e12 o0 5) = 0 then Bd (f_X9_complete o1 e12) (fun r16 => some r16) else some e12)) : Option (Mm)) (fun j14 => Lt (st2 j14 o0 0 (0 : Int32)) (fun M17 => some ((M17 o0 5), M17)))))))))
set_option maxRecDepth 100000 in
set_option maxHeartbeats 4000000 in
theorem c_X7_readInto {l : Launch} {D : va_G} {an : An} {b : Nat} {o0 : Nat} {o1 : Nat} (hk0 : KDF[o0]? = some (7, 0)) (hk1 : KDF[o1]? = some (9, 0)) {M : Mm} {r : Int32} {M' : Mm} (h : f_X7_readInto o0 o1 M = some (r, M')) : Ct l D an b 0 yX7_readInto cX7_readInto 3 (some .int) 6 [.ref (b + o0), .ref (b + o1)] KDF M (some (.int r)) KDF M' := by
  refine CtX.mk (as := fun b => [.ref (b + o0), .ref (b + o1)]) (rv := fun b => (some (.int r))) (by decide) (fun b => Nat.le_of_ble_eq_true rfl) ⟨Nat.le_refl _, Nat.le_refl _⟩ (fun x X hR Z hN _ _ => ?_)
  have X : Ok x cX7_readInto 3 RX7 (some .int) := X
  have G : Gz x 3 0 [(0, .ref (xb x + o0)), (1, .ref (xb x + o1))] [] KDF M (f_X7_readInto o0 o1 M) (PsI2 x KDF) := by
    unfold f_X7_readInto
    refine g1 (pc' := 1) (w_aload_n X dX7_readInto_0 rfl 1 rfl) ?_
    refine g_bd (pc' := 4) (fun r1 => [(0, .ref (xb x + o0)), (1, .ref (xb x + o1))]) (fun r1 => []) (fun r1 => r1) (fun r1 h => k_X9_clear X hR hN Z hk1 mw_390 (by decide) (Nat.le_of_ble_eq_true rfl) dX7_readInto_1 h) (fun r1 => ?_)
    show Gz x 3 4 [(0, .ref (xb x + o0)), (1, .ref (xb x + o1))] [] KDF r1 _ _
    refine g1 (pc' := 5) (w_aload_n X dX7_readInto_4 rfl 0 rfl) ?_
    refine g1 (pc' := 6) (w_iconst X (0) dX7_readInto_5 (by decide)) ?_
    refine g_lt (pc' := 9) (fun M2 => [(0, .ref (xb x + o0)), (1, .ref (xb x + o1))]) (fun M2 => []) (fun M2 => M2) (pt_7_3 X Z hk0 mw_165 dX7_readInto_6) (fun M2 => ?_)
    show Gz x 3 9 [(0, .ref (xb x + o0)), (1, .ref (xb x + o1))] [] KDF M2 _ _
    refine g1 (pc' := 10) (w_aload_n X dX7_readInto_9 rfl 0 rfl) ?_
    refine g1 (pc' := 11) (w_iconst X (0) dX7_readInto_10 (by decide)) ?_
    refine g_lt (pc' := 14) (fun M3 => [(0, .ref (xb x + o0)), (1, .ref (xb x + o1))]) (fun M3 => []) (fun M3 => M3) (pt_7_5 X Z hk0 mw_167 dX7_readInto_11) (fun M3 => ?_)
    show Gz x 3 14 [(0, .ref (xb x + o0)), (1, .ref (xb x + o1))] [] KDF M3 _ _
    refine g1 (pc' := 15) (w_aload_n X dX7_readInto_14 rfl 0 rfl) ?_
    refine g1 (pc' := 16) (w_iconst X (-1) dX7_readInto_15 (by decide)) ?_
    refine g_lt (pc' := 19) (fun M4 => [(0, .ref (xb x + o0)), (1, .ref (xb x + o1))]) (fun M4 => []) (fun M4 => M4) (pt_7_1 X Z hk0 mw_162 dX7_readInto_16) (fun M4 => ?_)
    show Gz x 3 19 [(0, .ref (xb x + o0)), (1, .ref (xb x + o1))] [] KDF M4 _ _
    refine g1 (pc' := 20) (w_aload_n X dX7_readInto_19 rfl 0 rfl) ?_
    refine g_bd (pc' := 23) (fun r5 => [(0, .ref (xb x + o0)), (1, .ref (xb x + o1))]) (fun r5 => []) (fun r5 => r5) (fun r5 h => k_X7_skipBlanks X hR hN Z hk0 mw_394 (by decide) (Nat.le_of_ble_eq_true rfl) dX7_readInto_20 h) (fun r5 => ?_)
    show Gz x 3 23 [(0, .ref (xb x + o0)), (1, .ref (xb x + o1))] [] KDF r5 _ _
    refine g1 (pc' := 24) (w_iconst X (0) dX7_readInto_23 (by decide)) ?_
    refine g1 (pc' := 25) (lv' := [(2, .int (0 : Int32)), (0, .ref (xb x + o0)), (1, .ref (xb x + o1))]) (w_istore_n X dX7_readInto_24 rfl (by decide) rfl) ?_
    refine g_pick (lv' := [(0, .ref (xb x + o0)), (1, .ref (xb x + o1)), (2, .int (0 : Int32))]) [1, 2, 0] rfl ?_
    refine g_bdJ (J := 65) (fun e12 => [(0, .ref (xb x + o0)), (1, .ref (xb x + o1))]) (fun e12 => []) (fun e12 => e12) (g_lp (fun s25 => [(0, .ref (xb x + o0)), (1, .ref (xb x + o1)), (2, .int s25.1)]) (fun s25 => s25.2) (fun s25 => ?_) 100000 ((0 : Int32), r5)) (fun e12 => ?_)
    · show Gz x 3 25 [(0, .ref (xb x + o0)), (1, .ref (xb x + o1)), (2, .int s25.1)] [] KDF s25.2 (b_X7_readInto_25 o0 o1 s25) _
      unfold b_X7_readInto_25
      refine g1 (pc' := 26) (w_iload_n X dX7_readInto_25 rfl 2 rfl) ?_
      refine g1 (pc' := 29) (w_sipush X (240) dX7_readInto_26 (by decide)) ?_
      refine g_if (pcT := 65) (pcF := 32) (w_icmp_ge (tgt := 65) X dX7_readInto_29 (by decide)) (fun h6 => ?_) (fun h6 => ?_)
      · refine g_inr ?_
        exact g_end [0, 1] rfl rfl rfl
      · refine g1 (pc' := 33) (w_aload_n X dX7_readInto_32 rfl 0 rfl) ?_
        refine g1 (pc' := 36) (gt_7_3 X hk0 mw_165 dX7_readInto_33) ?_
        refine g1 (pc' := 37) (w_aload_n X dX7_readInto_36 rfl 0 rfl) ?_
        refine g1 (pc' := 40) (gt_7_0 X hk0 mw_160 dX7_readInto_37) ?_
        refine g_if (pcT := 65) (pcF := 43) (w_icmp_ge (tgt := 65) X dX7_readInto_40 (by decide)) (fun h7 => ?_) (fun h7 => ?_)
        · refine g_inr ?_
          exact g_end [0, 1] rfl rfl rfl
        · refine g1 (pc' := 44) (w_aload_n X dX7_readInto_43 rfl 0 rfl) ?_
          refine g1 (pc' := 47) (gt_7_5 X hk0 mw_167 dX7_readInto_44) ?_
          refine g_if (pcT := 50) (pcF := 65) (w_if_ne (tgt := 65) X dX7_readInto_47 (by decide)) (fun h8 => ?_) (fun h8 => ?_)
          · refine g1 (pc' := 51) (w_aload_n X dX7_readInto_50 rfl 0 rfl) ?_
            refine g1 (pc' := 52) (w_aload_n X dX7_readInto_51 rfl 1 rfl) ?_
            refine g_bd (pc' := 55) (fun r9 => [(0, .ref (xb x + o0)), (1, .ref (xb x + o1)), (2, .int s25.1)]) (fun r9 => []) (fun r9 => r9) (fun r9 h => k_X7_readClause X hR hN Z hk0 hk1 mw_402 (by decide) (Nat.le_of_ble_eq_true rfl) dX7_readInto_52 h) (fun r9 => ?_)
            show Gz x 3 55 [(0, .ref (xb x + o0)), (1, .ref (xb x + o1)), (2, .int s25.1)] [] KDF r9 _ _
            refine g1 (pc' := 56) (w_aload_n X dX7_readInto_55 rfl 0 rfl) ?_
            refine g_bd (pc' := 59) (fun r10 => [(0, .ref (xb x + o0)), (1, .ref (xb x + o1)), (2, .int s25.1)]) (fun r10 => []) (fun r10 => r10) (fun r10 h => k_X7_skipBlanks X hR hN Z hk0 mw_394 (by decide) (Nat.le_of_ble_eq_true rfl) dX7_readInto_56 h) (fun r10 => ?_)
            show Gz x 3 59 [(0, .ref (xb x + o0)), (1, .ref (xb x + o1)), (2, .int s25.1)] [] KDF r10 _ _
            refine g_lt (pc' := 62) (fun v11 => [(2, .int v11), (0, .ref (xb x + o0)), (1, .ref (xb x + o1))]) (fun v11 => []) (fun v11 => r10) (w_iinc X dX7_readInto_59 2 rfl rfl (by decide) rfl) (fun v11 => ?_)
            show Gz x 3 62 [(2, .int v11), (0, .ref (xb x + o0)), (1, .ref (xb x + o1))] [] KDF r10 _ _
            refine g1 (pc' := 25) (w_goto X dX7_readInto_62 (by decide)) ?_
            refine g_inl ?_
            exact g_end [1, 2, 0] rfl rfl rfl
          · refine g_inr ?_
            exact g_end [0, 1] rfl rfl rfl
    · show Gz x 3 65 [(0, .ref (xb x + o0)), (1, .ref (xb x + o1))] [] KDF e12 _ _
      refine g1 (pc' := 66) (w_aload_n X dX7_readInto_65 rfl 0 rfl) ?_
      refine g1 (pc' := 69) (gt_7_5 X hk0 mw_167 dX7_readInto_66) ?_
      refine g_bdJ (J := 76) (fun j14 => [(0, .ref (xb x + o0))]) (fun j14 => []) (fun j14 => j14) ?_ (fun j14 => ?_)
      · refine g_if (pcT := 72) (pcF := 76) (w_if_ne (tgt := 76) X dX7_readInto_69 (by decide)) (fun h15 => ?_) (fun h15 => ?_)
        · refine g1 (pc' := 73) (w_aload_n X dX7_readInto_72 rfl 1 rfl) ?_
          refine g_bd (pc' := 76) (fun r16 => [(0, .ref (xb x + o0)), (1, .ref (xb x + o1))]) (fun r16 => []) (fun r16 => r16) (fun r16 h => k_X9_complete X hR hN Z hk1 mw_464 (by decide) (Nat.le_of_ble_eq_true rfl) dX7_readInto_73 h) (fun r16 => ?_)
          show Gz x 3 76 [(0, .ref (xb x + o0)), (1, .ref (xb x + o1))] [] KDF r16 _ _
          exact g_end [0] rfl rfl rfl
        · exact g_end [0] rfl rfl rfl
      · show Gz x 3 76 [(0, .ref (xb x + o0))] [] KDF j14 _ _
        refine g1 (pc' := 77) (w_aload_n X dX7_readInto_76 rfl 0 rfl) ?_
        refine g1 (pc' := 78) (w_iconst X (0) dX7_readInto_77 (by decide)) ?_
        refine g_lt (pc' := 81) (fun M17 => [(0, .ref (xb x + o0))]) (fun M17 => []) (fun M17 => M17) (pt_7_0 X Z hk0 mw_160 dX7_readInto_78) (fun M17 => ?_)
        show Gz x 3 81 [(0, .ref (xb x + o0))] [] KDF M17 _ _
        refine g1 (pc' := 82) (w_aload_n X dX7_readInto_81 rfl 0 rfl) ?_
        refine g1 (pc' := 85) (gt_7_5 X hk0 mw_167 dX7_readInto_82) ?_
        exact g_rI2 X dX7_readInto_85
  exact G _ h _ rfl
theorem k_X7_readInto {x : Cxt} {cc : ByteArray} {nL : Nat} {own : String} {ret : Option FieldType} (X : Ok x cc nL own ret) {d : Nat} (hR : Rm x d KDF) (hN : Nst x) (Z : xz x = 0) {pc : Nat} {lv : List (Nat × Value)} {rest : List Value} {M : Mm} {o0 : Nat} {o1 : Nat} (hk0 : KDF[o0]? = some (7, 0)) (hk1 : KDF[o1]? = some (9, 0)) {idx : Nat} (hw : Cond.methodLink own idx yX7_readInto ∈ tbG) (hdd : 6 + 1 ≤ d) (hrm : (rest.map fun v => v.category).sum ≤ 8) (hd : decode cc pc = .ok (.invokevirtual idx, 3)) {r : Int32} {M' : Mm} (h : f_X7_readInto o0 o1 M = some (r, M')) : StpZ x nL pc lv (.ref (xb x + o1) :: .ref (xb x + o0) :: rest) KDF M (pc + 3) lv (.int r :: rest) KDF M' :=
  w_callV (st := []) (As := [.ref (xb x + o1)]) X hR hN (CtX0 Z (c_X7_readInto hk0 hk1 h)) ⟨Nat.le_refl _, Nat.le_refl _⟩ ⟨Nat.le_refl _, Nat.le_refl _⟩ hk0 (ci := 7) (fs := fs_7 o0) (fun _ _ _ => rfl) rfl hw mw_387 mw_388 mw_64 mw_389 (n := 1) (by decide +kernel) rfl hdd (by decide) hrm hd
def b_X8_leave_6 (o0 : Nat) (o1 : Nat) (x3 : Int32) (s6 : Int32 × Int32 × Mm) : Option ((Int32 × Int32 × Mm) ⊕ (Mm)) :=
  (if x3 ≤ s6.2.1 then some (.inr s6.2.2) else Bd (f_X6_remove o1 s6.1 s6.2.2) (fun r2 => Bd (f_X9_changeAt o0 s6.2.1 r2) (fun r3 => Gd (KDF[r3]? = some (0, 0)) (Lt (f_X0_next r3 s6.1 r2) (fun v5 => Lt (s6.2.1 + (1 : Int32)) (fun v6 => some (.inl (v5, v6, r2))))))))
def f_X8_leave (o0 : Nat) (o1 : Nat) (x2 : Int32) (x3 : Int32) (M : Mm) : Option (Mm) :=
  Bd (Lp (b_X8_leave_6 o0 o1 x3) 100000 (x2, (0 : Int32), M)) (fun e7 => some e7)
set_option maxRecDepth 100000 in
set_option maxHeartbeats 4000000 in
theorem c_X8_leave {l : Launch} {D : va_G} {an : An} {b : Nat} {o0 : Nat} {o1 : Nat} {x2 : Int32} {x3 : Int32} (hk0 : KDF[o0]? = some (9, 0)) (hk1 : KDF[o1]? = some (6, 0)) {M : Mm} {M' : Mm} (h : f_X8_leave o0 o1 x2 x3 M = some M') : Ct l D an b 0 yX8_leave cX8_leave 6 none 2 [.ref (b + o0), .ref (b + o1), .int x2, .int x3] KDF M none KDF M' := by
  refine CtX.mk (as := fun b => [.ref (b + o0), .ref (b + o1), .int x2, .int x3]) (rv := fun b => none) (by decide) (fun b => Nat.le_of_ble_eq_true rfl) ⟨Nat.le_refl _, Nat.le_refl _⟩ (fun x X hR Z hN _ _ => ?_)
  have X : Ok x cX8_leave 6 RX8 none := X
  have G : Gz x 6 0 [(0, .ref (xb x + o0)), (1, .ref (xb x + o1)), (2, .int x2), (3, .int x3)] [] KDF M (f_X8_leave o0 o1 x2 x3 M) (PsM x KDF) := by
    unfold f_X8_leave
    refine g1 (pc' := 1) (w_iload_n X dX8_leave_0 rfl 2 rfl) ?_
    refine g1 (pc' := 3) (lv' := [(4, .int x2), (0, .ref (xb x + o0)), (1, .ref (xb x + o1)), (2, .int x2), (3, .int x3)]) (w_istore X dX8_leave_1 (by decide) rfl) ?_
    refine g1 (pc' := 4) (w_iconst X (0) dX8_leave_3 (by decide)) ?_
    refine g1 (pc' := 6) (lv' := [(5, .int (0 : Int32)), (4, .int x2), (0, .ref (xb x + o0)), (1, .ref (xb x + o1)), (2, .int x2), (3, .int x3)]) (w_istore X dX8_leave_4 (by decide) rfl) ?_
    refine g_pick (lv' := [(0, .ref (xb x + o0)), (1, .ref (xb x + o1)), (3, .int x3), (4, .int x2), (5, .int (0 : Int32))]) [2, 3, 5, 1, 0] rfl ?_
    refine g_bdJ (J := 37) (fun e7 => []) (fun e7 => []) (fun e7 => e7) (g_lp (fun s6 => [(0, .ref (xb x + o0)), (1, .ref (xb x + o1)), (3, .int x3), (4, .int s6.1), (5, .int s6.2.1)]) (fun s6 => s6.2.2) (fun s6 => ?_) 100000 (x2, (0 : Int32), M)) (fun e7 => ?_)
    · show Gz x 6 6 [(0, .ref (xb x + o0)), (1, .ref (xb x + o1)), (3, .int x3), (4, .int s6.1), (5, .int s6.2.1)] [] KDF s6.2.2 (b_X8_leave_6 o0 o1 x3 s6) _
      unfold b_X8_leave_6
      refine g1 (pc' := 8) (w_iload X dX8_leave_6 4 rfl) ?_
      refine g1 (pc' := 9) (w_iload_n X dX8_leave_8 rfl 2 rfl) ?_
      refine g_if (pcT := 37) (pcF := 12) (w_icmp_ge (tgt := 37) X dX8_leave_9 (by decide)) (fun h1 => ?_) (fun h1 => ?_)
      · refine g_inr ?_
        exact g_end [] rfl rfl rfl
      · refine g1 (pc' := 13) (w_aload_n X dX8_leave_12 rfl 1 rfl) ?_
        refine g1 (pc' := 15) (w_iload X dX8_leave_13 3 rfl) ?_
        refine g_bd (pc' := 18) (fun r2 => [(0, .ref (xb x + o0)), (1, .ref (xb x + o1)), (3, .int x3), (4, .int s6.1), (5, .int s6.2.1)]) (fun r2 => []) (fun r2 => r2) (fun r2 h => k_X6_remove X hR hN Z hk1 mw_774 (by decide) (Nat.le_of_ble_eq_true rfl) dX8_leave_15 h) (fun r2 => ?_)
        show Gz x 6 18 [(0, .ref (xb x + o0)), (1, .ref (xb x + o1)), (3, .int x3), (4, .int s6.1), (5, .int s6.2.1)] [] KDF r2 _ _
        refine g1 (pc' := 19) (w_aload_n X dX8_leave_18 rfl 0 rfl) ?_
        refine g1 (pc' := 21) (w_iload X dX8_leave_19 4 rfl) ?_
        refine g_bd (pc' := 24) (fun r3 => [(0, .ref (xb x + o0)), (1, .ref (xb x + o1)), (3, .int x3), (4, .int s6.1), (5, .int s6.2.1)]) (fun r3 => [.ref (xb x + r3)]) (fun r3 => r2) (fun r3 h => k_X9_changeAt X hR hN Z hk0 mw_765 (by decide) (Nat.le_of_ble_eq_true rfl) dX8_leave_21 h) (fun r3 => ?_)
        show Gz x 6 24 [(0, .ref (xb x + o0)), (1, .ref (xb x + o1)), (3, .int x3), (4, .int s6.1), (5, .int s6.2.1)] [.ref (xb x + r3)] KDF r2 _ _
        refine g_gd (fun h4 => ?_)
        refine g1 (pc' := 26) (w_iload X dX8_leave_24 3 rfl) ?_
        refine g1 (pc' := 29) (k_X0_next X hR hN Z h4 mw_766 (by decide) (Nat.le_of_ble_eq_true rfl) dX8_leave_26) ?_
        refine g_lt (pc' := 31) (fun v5 => [(4, .int v5), (0, .ref (xb x + o0)), (1, .ref (xb x + o1)), (3, .int x3), (5, .int s6.2.1)]) (fun v5 => []) (fun v5 => r2) (w_istore X dX8_leave_29 (by decide) rfl) (fun v5 => ?_)
        show Gz x 6 31 [(4, .int v5), (0, .ref (xb x + o0)), (1, .ref (xb x + o1)), (3, .int x3), (5, .int s6.2.1)] [] KDF r2 _ _
        refine g_lt (pc' := 34) (fun v6 => [(5, .int v6), (4, .int v5), (0, .ref (xb x + o0)), (1, .ref (xb x + o1)), (3, .int x3)]) (fun v6 => []) (fun v6 => r2) (w_iinc X dX8_leave_31 4 rfl rfl (by decide) rfl) (fun v6 => ?_)
        show Gz x 6 34 [(5, .int v6), (4, .int v5), (0, .ref (xb x + o0)), (1, .ref (xb x + o1)), (3, .int x3)] [] KDF r2 _ _
        refine g1 (pc' := 6) (w_goto X dX8_leave_34 (by decide)) ?_
        refine g_inl ?_
        exact g_end [2, 3, 4, 1, 0] rfl rfl rfl
    · show Gz x 6 37 [] [] KDF e7 _ _
      exact g_rM X dX8_leave_37
  exact G _ h _ rfl
theorem k_X8_leave {x : Cxt} {cc : ByteArray} {nL : Nat} {own : String} {ret : Option FieldType} (X : Ok x cc nL own ret) {d : Nat} (hR : Rm x d KDF) (hN : Nst x) (Z : xz x = 0) {pc : Nat} {lv : List (Nat × Value)} {rest : List Value} {M : Mm} {o0 : Nat} {o1 : Nat} {x2 : Int32} {x3 : Int32} (hk0 : KDF[o0]? = some (9, 0)) (hk1 : KDF[o1]? = some (6, 0)) {idx : Nat} (hw : Cond.methodLink own idx yX8_leave ∈ tbG) (hdd : 2 + 1 ≤ d) (hrm : (rest.map fun v => v.category).sum ≤ 8) (hd : decode cc pc = .ok (.invokestatic idx, 3)) {M' : Mm} (h : f_X8_leave o0 o1 x2 x3 M = some M') : StpZ x nL pc lv (.int x3 :: .int x2 :: .ref (xb x + o1) :: .ref (xb x + o0) :: rest) KDF M (pc + 3) lv (rest) KDF M' :=
  w_callS (st := []) (As := [.ref (xb x + o0), .ref (xb x + o1), .int x2, .int x3]) X hR hN (CtX0 Z (c_X8_leave hk0 hk1 h)) ⟨Nat.le_refl _, Nat.le_refl _⟩ ⟨Nat.le_refl _, Nat.le_refl _⟩ hw mw_772 mw_69 mw_773 (n := 4) (by decide +kernel) rfl hdd (by decide) hrm hd
def f_X11_feed (o0 : Nat) (x1 : Int32) (M : Mm) : Option (Int32 × Mm) :=
  (if x1 < 0 then some ((-1000000002 : Int32), M) else (if x1 ≤ (255 : Int32) then Bd (f_X7_add 35 x1 M) (fun r3 => (if r3.1 = 0 then some ((-1000000004 : Int32), r3.2) else some ((r3.2 35 0), r3.2))) else some ((-1000000002 : Int32), M)))
set_option maxRecDepth 100000 in
set_option maxHeartbeats 4000000 in
theorem c_X11_feed {l : Launch} {D : va_G} {an : An} {b : Nat} {o0 : Nat} {x1 : Int32} (hk0 : KDF[o0]? = some (11, 0)) {M : Mm} {r : Int32} {M' : Mm} (h : f_X11_feed o0 x1 M = some (r, M')) : Ct l D an b 0 yX11_feed cX11_feed 2 (some .int) 2 [.ref (b + o0), .int x1] KDF M (some (.int r)) KDF M' := by
  refine CtX.mk (as := fun b => [.ref (b + o0), .int x1]) (rv := fun b => (some (.int r))) (by decide) (fun b => Nat.le_of_ble_eq_true rfl) ⟨Nat.le_refl _, Nat.le_refl _⟩ (fun x X hR Z hN _ _ => ?_)
  have X : Ok x cX11_feed 2 RX11 (some .int) := X
  have G : Gz x 2 0 [(0, .ref (xb x + o0)), (1, .int x1)] [] KDF M (f_X11_feed o0 x1 M) (PsI2 x KDF) := by
    unfold f_X11_feed
    refine g1 (pc' := 1) (w_iload_n X dX11_feed_0 rfl 1 rfl) ?_
    refine g_if (pcT := 11) (pcF := 4) (w_if_lt (tgt := 11) X dX11_feed_1 (by decide)) (fun h1 => ?_) (fun h1 => ?_)
    · refine g1 (pc' := 13) (w_ldc (v := -1000000002) X dX11_feed_11 mw_376) ?_
      exact g_rI2 X dX11_feed_13
    · refine g1 (pc' := 5) (w_iload_n X dX11_feed_4 rfl 1 rfl) ?_
      refine g1 (pc' := 8) (w_sipush X (255) dX11_feed_5 (by decide)) ?_
      refine g_if (pcT := 14) (pcF := 11) (w_icmp_le (tgt := 14) X dX11_feed_8 (by decide)) (fun h2 => ?_) (fun h2 => ?_)
      · refine g1 (pc' := 15) (w_aload_n X dX11_feed_14 rfl 0 rfl) ?_
        refine g1 (pc' := 18) (gt_11_2 X hk0 mw_325 dX11_feed_15) ?_
        refine g1 (pc' := 19) (w_iload_n X dX11_feed_18 rfl 1 rfl) ?_
        refine g_bd (pc' := 22) (fun r3 => [(0, .ref (xb x + o0)), (1, .int x1)]) (fun r3 => [.int r3.1]) (fun r3 => r3.2) (fun r3 h => k_X7_add X hR hN Z kd_35 mw_377 (by decide) (Nat.le_of_ble_eq_true rfl) dX11_feed_19 h) (fun r3 => ?_)
        show Gz x 2 22 [(0, .ref (xb x + o0)), (1, .int x1)] [.int r3.1] KDF r3.2 _ _
        refine g_if (pcT := 35) (pcF := 25) (w_if_eq (tgt := 35) X dX11_feed_22 (by decide)) (fun h4 => ?_) (fun h4 => ?_)
        · refine g1 (pc' := 37) (w_ldc (v := -1000000004) X dX11_feed_35 mw_381) ?_
          exact g_rI2 X dX11_feed_37
        · refine g1 (pc' := 26) (w_aload_n X dX11_feed_25 rfl 0 rfl) ?_
          refine g1 (pc' := 29) (gt_11_2 X hk0 mw_325 dX11_feed_26) ?_
          refine g1 (pc' := 32) (gt_7_0 X kd_35 mw_161 dX11_feed_29) ?_
          refine g1 (pc' := 37) (w_goto X dX11_feed_32 (by decide)) ?_
          exact g_rI2 X dX11_feed_37
      · refine g1 (pc' := 13) (w_ldc (v := -1000000002) X dX11_feed_11 mw_376) ?_
        exact g_rI2 X dX11_feed_13
  exact G _ h _ rfl
theorem k_X11_feed {x : Cxt} {cc : ByteArray} {nL : Nat} {own : String} {ret : Option FieldType} (X : Ok x cc nL own ret) {d : Nat} (hR : Rm x d KDF) (hN : Nst x) (Z : xz x = 0) {pc : Nat} {lv : List (Nat × Value)} {rest : List Value} {M : Mm} {o0 : Nat} {x1 : Int32} (hk0 : KDF[o0]? = some (11, 0)) {idx : Nat} (hw : Cond.methodLink own idx yX11_feed ∈ tbG) (hdd : 2 + 1 ≤ d) (hrm : (rest.map fun v => v.category).sum ≤ 8) (hd : decode cc pc = .ok (.invokevirtual idx, 3)) {r : Int32} {M' : Mm} (h : f_X11_feed o0 x1 M = some (r, M')) : StpZ x nL pc lv (.int x1 :: .ref (xb x + o0) :: rest) KDF M (pc + 3) lv (.int r :: rest) KDF M' :=
  w_callV (st := []) (As := [.int x1]) X hR hN (CtX0 Z (c_X11_feed hk0 h)) ⟨Nat.le_refl _, Nat.le_refl _⟩ ⟨Nat.le_refl _, Nat.le_refl _⟩ hk0 (ci := 11) (fs := fs_11 o0) (fun _ _ _ => rfl) rfl hw mw_373 mw_374 mw_61 mw_375 (n := 1) (by decide +kernel) rfl hdd (by decide) hrm hd
def f_X11_tower (o0 : Nat) (M : Mm) : Option (Int32 × Mm) :=
  Gd (KDF[(M o0 1).toNatClampNeg]? = some (9, 0)) (Bd (f_X7_readInto 35 (M o0 1).toNatClampNeg M) (fun r2 => Lt (st2 r2.2 o0 14 (r2.2 35 1)) (fun M3 => (if r2.1 = 0 then Gd (KDF[(M3 o0 0).toNatClampNeg]? = some (9, 0)) (Gd (KDF[(M3 o0 1).toNatClampNeg]? = some (9, 0)) (Lt (st2 M3 o0 0 (nI (M3 o0 1).toNatClampNeg)) (fun M7 => Lt (st2 M7 o0 1 (nI (M3 o0 0).toNatClampNeg)) (fun M8 => Gd (KDF[(M8 o0 0).toNatClampNeg]? = some (9, 0)) (Bd (f_X1_begin 37 (M8 o0 0).toNatClampNeg M8) (fun r10 => Gd (KDF[(r10 o0 0).toNatClampNeg]? = some (9, 0)) (Bd (f_X2_empty 117 (r10 o0 0).toNatClampNeg r10) (fun r12 => Bd (f_X3_forget 41 r12) (fun r13 => Lt (st2 r13 o0 7 (0 : Int32)) (fun M14 => Gd (KDF[(M14 o0 0).toNatClampNeg]? = some (9, 0)) (some ((M14 (M14 o0 0).toNatClampNeg 0), M14)))))))))))) else some (((-10 : Int32) - r2.1), M3)))))
set_option maxRecDepth 100000 in
set_option maxHeartbeats 4000000 in
theorem c_X11_tower {l : Launch} {D : va_G} {an : An} {b : Nat} {o0 : Nat} (hk0 : KDF[o0]? = some (11, 0)) {M : Mm} {r : Int32} {M' : Mm} (h : f_X11_tower o0 M = some (r, M')) : Ct l D an b 0 yX11_tower cX11_tower 3 (some .int) 7 [.ref (b + o0)] KDF M (some (.int r)) KDF M' := by
  refine CtX.mk (as := fun b => [.ref (b + o0)]) (rv := fun b => (some (.int r))) (by decide) (fun b => Nat.le_of_ble_eq_true rfl) ⟨Nat.le_refl _, Nat.le_refl _⟩ (fun x X hR Z hN _ _ => ?_)
  have X : Ok x cX11_tower 3 RX11 (some .int) := X
  have G : Gz x 3 0 [(0, .ref (xb x + o0))] [] KDF M (f_X11_tower o0 M) (PsI2 x KDF) := by
    unfold f_X11_tower
    refine g1 (pc' := 1) (w_aload_n X dX11_tower_0 rfl 0 rfl) ?_
    refine g1 (pc' := 4) (gt_11_2 X hk0 mw_325 dX11_tower_1) ?_
    refine g1 (pc' := 5) (w_aload_n X dX11_tower_4 rfl 0 rfl) ?_
    refine g1 (pc' := 8) (gt_11_1 X hk0 mw_324 dX11_tower_5) ?_
    refine g_gd (fun h1 => ?_)
    refine g_bd (pc' := 11) (fun r2 => [(0, .ref (xb x + o0))]) (fun r2 => [.int r2.1]) (fun r2 => r2.2) (fun r2 h => k_X7_readInto X hR hN Z kd_35 h1 mw_386 (by decide) (Nat.le_of_ble_eq_true rfl) dX11_tower_8 h) (fun r2 => ?_)
    show Gz x 3 11 [(0, .ref (xb x + o0))] [.int r2.1] KDF r2.2 _ _
    refine g1 (pc' := 12) (lv' := [(1, .int r2.1), (0, .ref (xb x + o0))]) (w_istore_n X dX11_tower_11 rfl (by decide) rfl) ?_
    refine g1 (pc' := 13) (w_aload_n X dX11_tower_12 rfl 1 rfl) ?_
    refine g1 (pc' := 14) (w_aload_n X dX11_tower_13 rfl 1 rfl) ?_
    refine g1 (pc' := 17) (gt_11_2 X hk0 mw_325 dX11_tower_14) ?_
    refine g1 (pc' := 20) (gt_7_1 X kd_35 mw_163 dX11_tower_17) ?_
    refine g_lt (pc' := 23) (fun M3 => [(1, .int r2.1), (0, .ref (xb x + o0))]) (fun M3 => []) (fun M3 => M3) (pt_11_14 X Z hk0 mw_337 dX11_tower_20) (fun M3 => ?_)
    show Gz x 3 23 [(1, .int r2.1), (0, .ref (xb x + o0))] [] KDF M3 _ _
    refine g1 (pc' := 24) (w_iload_n X dX11_tower_23 rfl 0 rfl) ?_
    refine g_if (pcT := 32) (pcF := 27) (w_if_eq (tgt := 32) X dX11_tower_24 (by decide)) (fun h4 => ?_) (fun h4 => ?_)
    · refine g1 (pc' := 33) (w_aload_n X dX11_tower_32 rfl 1 rfl) ?_
      refine g1 (pc' := 36) (gt_11_0 X hk0 mw_323 dX11_tower_33) ?_
      refine g_gd (fun h5 => ?_)
      refine g1 (pc' := 37) (lv' := [(2, .ref (xb x + (M3 o0 0).toNatClampNeg)), (1, .int r2.1), (0, .ref (xb x + o0))]) (w_astore_n X dX11_tower_36 rfl (by decide) rfl) ?_
      refine g1 (pc' := 38) (w_aload_n X dX11_tower_37 rfl 2 rfl) ?_
      refine g1 (pc' := 39) (w_aload_n X dX11_tower_38 rfl 2 rfl) ?_
      refine g1 (pc' := 42) (gt_11_1 X hk0 mw_324 dX11_tower_39) ?_
      refine g_gd (fun h6 => ?_)
      refine g_lt (pc' := 45) (fun M7 => [(2, .ref (xb x + (M3 o0 0).toNatClampNeg)), (1, .int r2.1), (0, .ref (xb x + o0))]) (fun M7 => []) (fun M7 => M7) (pt_11_0 X Z hk0 h6 mw_323 dX11_tower_42) (fun M7 => ?_)
      show Gz x 3 45 [(2, .ref (xb x + (M3 o0 0).toNatClampNeg)), (1, .int r2.1), (0, .ref (xb x + o0))] [] KDF M7 _ _
      refine g1 (pc' := 46) (w_aload_n X dX11_tower_45 rfl 2 rfl) ?_
      refine g1 (pc' := 47) (w_aload_n X dX11_tower_46 rfl 0 rfl) ?_
      refine g_lt (pc' := 50) (fun M8 => [(2, .ref (xb x + (M3 o0 0).toNatClampNeg)), (1, .int r2.1), (0, .ref (xb x + o0))]) (fun M8 => []) (fun M8 => M8) (pt_11_1 X Z hk0 h5 mw_324 dX11_tower_47) (fun M8 => ?_)
      show Gz x 3 50 [(2, .ref (xb x + (M3 o0 0).toNatClampNeg)), (1, .int r2.1), (0, .ref (xb x + o0))] [] KDF M8 _ _
      refine g1 (pc' := 51) (w_aload_n X dX11_tower_50 rfl 2 rfl) ?_
      refine g1 (pc' := 54) (gt_11_3 X hk0 mw_326 dX11_tower_51) ?_
      refine g1 (pc' := 55) (w_aload_n X dX11_tower_54 rfl 2 rfl) ?_
      refine g1 (pc' := 58) (gt_11_0 X hk0 mw_323 dX11_tower_55) ?_
      refine g_gd (fun h9 => ?_)
      refine g_bd (pc' := 61) (fun r10 => [(2, .ref (xb x + (M3 o0 0).toNatClampNeg)), (1, .int r2.1), (0, .ref (xb x + o0))]) (fun r10 => []) (fun r10 => r10) (fun r10 h => k_X1_begin X hR hN Z kd_37 h9 mw_472 (by decide) (Nat.le_of_ble_eq_true rfl) dX11_tower_58 h) (fun r10 => ?_)
      show Gz x 3 61 [(2, .ref (xb x + (M3 o0 0).toNatClampNeg)), (1, .int r2.1), (0, .ref (xb x + o0))] [] KDF r10 _ _
      refine g1 (pc' := 62) (w_aload_n X dX11_tower_61 rfl 2 rfl) ?_
      refine g1 (pc' := 65) (gt_11_13 X hk0 mw_336 dX11_tower_62) ?_
      refine g1 (pc' := 66) (w_aload_n X dX11_tower_65 rfl 2 rfl) ?_
      refine g1 (pc' := 69) (gt_11_0 X hk0 mw_323 dX11_tower_66) ?_
      refine g_gd (fun h11 => ?_)
      refine g_bd (pc' := 72) (fun r12 => [(2, .ref (xb x + (M3 o0 0).toNatClampNeg)), (1, .int r2.1), (0, .ref (xb x + o0))]) (fun r12 => []) (fun r12 => r12) (fun r12 h => k_X2_empty X hR hN Z kd_117 h11 mw_490 (by decide) (Nat.le_of_ble_eq_true rfl) dX11_tower_69 h) (fun r12 => ?_)
      show Gz x 3 72 [(2, .ref (xb x + (M3 o0 0).toNatClampNeg)), (1, .int r2.1), (0, .ref (xb x + o0))] [] KDF r12 _ _
      refine g1 (pc' := 73) (w_aload_n X dX11_tower_72 rfl 2 rfl) ?_
      refine g1 (pc' := 76) (gt_11_4 X hk0 mw_327 dX11_tower_73) ?_
      refine g_bd (pc' := 79) (fun r13 => [(2, .ref (xb x + (M3 o0 0).toNatClampNeg)), (1, .int r2.1), (0, .ref (xb x + o0))]) (fun r13 => []) (fun r13 => r13) (fun r13 h => k_X3_forget X hR hN Z kd_41 mw_496 (by decide) (Nat.le_of_ble_eq_true rfl) dX11_tower_76 h) (fun r13 => ?_)
      show Gz x 3 79 [(2, .ref (xb x + (M3 o0 0).toNatClampNeg)), (1, .int r2.1), (0, .ref (xb x + o0))] [] KDF r13 _ _
      refine g1 (pc' := 80) (w_aload_n X dX11_tower_79 rfl 2 rfl) ?_
      refine g1 (pc' := 81) (w_iconst X (0) dX11_tower_80 (by decide)) ?_
      refine g_lt (pc' := 84) (fun M14 => [(2, .ref (xb x + (M3 o0 0).toNatClampNeg)), (1, .int r2.1), (0, .ref (xb x + o0))]) (fun M14 => []) (fun M14 => M14) (pt_11_7 X Z hk0 mw_330 dX11_tower_81) (fun M14 => ?_)
      show Gz x 3 84 [(2, .ref (xb x + (M3 o0 0).toNatClampNeg)), (1, .int r2.1), (0, .ref (xb x + o0))] [] KDF M14 _ _
      refine g1 (pc' := 85) (w_aload_n X dX11_tower_84 rfl 2 rfl) ?_
      refine g1 (pc' := 88) (gt_11_0 X hk0 mw_323 dX11_tower_85) ?_
      refine g_gd (fun h15 => ?_)
      refine g1 (pc' := 91) (gt_9_0 X h15 mw_114 dX11_tower_88) ?_
      exact g_rI2 X dX11_tower_91
    · refine g1 (pc' := 29) (w_bipush X (-10) dX11_tower_27 (by decide)) ?_
      refine g1 (pc' := 30) (w_iload_n X dX11_tower_29 rfl 0 rfl) ?_
      refine g1 (pc' := 31) (w_isub X dX11_tower_30) ?_
      exact g_rI2 X dX11_tower_31
  exact G _ h _ rfl
theorem k_X11_tower {x : Cxt} {cc : ByteArray} {nL : Nat} {own : String} {ret : Option FieldType} (X : Ok x cc nL own ret) {d : Nat} (hR : Rm x d KDF) (hN : Nst x) (Z : xz x = 0) {pc : Nat} {lv : List (Nat × Value)} {rest : List Value} {M : Mm} {o0 : Nat} (hk0 : KDF[o0]? = some (11, 0)) {idx : Nat} (hw : Cond.methodLink own idx yX11_tower ∈ tbG) (hdd : 7 + 1 ≤ d) (hrm : (rest.map fun v => v.category).sum ≤ 8) (hd : decode cc pc = .ok (.invokevirtual idx, 3)) {r : Int32} {M' : Mm} (h : f_X11_tower o0 M = some (r, M')) : StpZ x nL pc lv (.ref (xb x + o0) :: rest) KDF M (pc + 3) lv (.int r :: rest) KDF M' :=
  w_callV (st := []) (As := []) X hR hN (CtX0 Z (c_X11_tower hk0 h)) ⟨Nat.le_refl _, Nat.le_refl _⟩ ⟨Nat.le_refl _, Nat.le_refl _⟩ hk0 (ci := 11) (fs := fs_11 o0) (fun _ _ _ => rfl) rfl hw mw_383 mw_384 mw_61 mw_385 (n := 0) (by decide +kernel) rfl hdd (by decide) hrm hd
def f_X11_fault (o0 : Nat) (M : Mm) : Int32 :=
  (M o0 14)
set_option maxRecDepth 100000 in
set_option maxHeartbeats 4000000 in
theorem c_X11_fault {l : Launch} {D : va_G} {an : An} {b : Nat} {o0 : Nat} (hk0 : KDF[o0]? = some (11, 0)) {M : Mm}  : Ct l D an b 0 yX11_fault cX11_fault 1 (some .int) 1 [.ref (b + o0)] KDF M (some (.int (f_X11_fault o0 M))) KDF M := by
  refine CtX.mk (as := fun b => [.ref (b + o0)]) (rv := fun b => (some (.int (f_X11_fault o0 M)))) (by decide) (fun b => Nat.le_of_ble_eq_true rfl) ⟨Nat.le_refl _, Nat.le_refl _⟩ (fun x X hR Z hN _ _ => ?_)
  have X : Ok x cX11_fault 1 RX11 (some .int) := X
  have G : Gz x 1 0 [(0, .ref (xb x + o0))] [] KDF M (some (f_X11_fault o0 M)) (PsI x KDF M) := by
    unfold f_X11_fault
    refine g1 (pc' := 1) (w_aload_n X dX11_fault_0 rfl 0 rfl) ?_
    refine g1 (pc' := 4) (gt_11_14 X hk0 mw_337 dX11_fault_1) ?_
    exact g_rI X dX11_fault_4
  exact G _ rfl _ rfl
theorem k_X11_fault {x : Cxt} {cc : ByteArray} {nL : Nat} {own : String} {ret : Option FieldType} (X : Ok x cc nL own ret) {d : Nat} (hR : Rm x d KDF) (hN : Nst x) (Z : xz x = 0) {pc : Nat} {lv : List (Nat × Value)} {rest : List Value} {M : Mm} {o0 : Nat} (hk0 : KDF[o0]? = some (11, 0)) {idx : Nat} (hw : Cond.methodLink own idx yX11_fault ∈ tbG) (hdd : 1 + 1 ≤ d) (hrm : (rest.map fun v => v.category).sum ≤ 8) (hd : decode cc pc = .ok (.invokevirtual idx, 3))  : StpZ x nL pc lv (.ref (xb x + o0) :: rest) KDF M (pc + 3) lv (.int (f_X11_fault o0 M) :: rest) KDF M :=
  w_callV (st := []) (As := []) X hR hN (CtX0 Z (c_X11_fault hk0 )) ⟨Nat.le_refl _, Nat.le_refl _⟩ ⟨Nat.le_refl _, Nat.le_refl _⟩ hk0 (ci := 11) (fs := fs_11 o0) (fun _ _ _ => rfl) rfl hw mw_501 mw_502 mw_61 mw_503 (n := 0) (by decide +kernel) rfl hdd (by decide) hrm hd
def f_X11_figuresNow (o0 : Nat) (M : Mm) : Option (Int32) :=
  Gd (KDF[(M o0 0).toNatClampNeg]? = some (9, 0)) (Bd (f_X5_figures (M (37 + 1) 0) (M (M o0 0).toNatClampNeg 0)) (fun r2 => some r2))
set_option maxRecDepth 100000 in
set_option maxHeartbeats 4000000 in
theorem c_X11_figuresNow {l : Launch} {D : va_G} {an : An} {b : Nat} {o0 : Nat} (hk0 : KDF[o0]? = some (11, 0)) {M : Mm} {r : Int32} (h : f_X11_figuresNow o0 M = some r) : Ct l D an b 0 yX11_figuresNow cX11_figuresNow 1 (some .int) 3 [.ref (b + o0)] KDF M (some (.int r)) KDF M := by
  refine CtX.mk (as := fun b => [.ref (b + o0)]) (rv := fun b => (some (.int r))) (by decide) (fun b => Nat.le_of_ble_eq_true rfl) ⟨Nat.le_refl _, Nat.le_refl _⟩ (fun x X hR Z hN _ _ => ?_)
  have X : Ok x cX11_figuresNow 1 RX11 (some .int) := X
  have G : Gz x 1 0 [(0, .ref (xb x + o0))] [] KDF M (f_X11_figuresNow o0 M) (PsI x KDF M) := by
    unfold f_X11_figuresNow
    refine g1 (pc' := 1) (w_aload_n X dX11_figuresNow_0 rfl 0 rfl) ?_
    refine g1 (pc' := 4) (gt_11_3 X hk0 mw_326 dX11_figuresNow_1) ?_
    refine g1 (pc' := 7) (gt_1_0 X kd_37 mw_208 dX11_figuresNow_4) ?_
    refine g1 (pc' := 10) (gt_10_0 X (kd_Ev1 kd_37) mw_194 dX11_figuresNow_7) ?_
    refine g1 (pc' := 11) (w_aload_n X dX11_figuresNow_10 rfl 0 rfl) ?_
    refine g1 (pc' := 14) (gt_11_0 X hk0 mw_323 dX11_figuresNow_11) ?_
    refine g_gd (fun h1 => ?_)
    refine g1 (pc' := 17) (gt_9_0 X h1 mw_114 dX11_figuresNow_14) ?_
    refine g_bd (pc' := 20) (fun r2 => [(0, .ref (xb x + o0))]) (fun r2 => [.int r2]) (fun r2 => M) (fun r2 h => k_X5_figures X hR hN Z  mw_512 (by decide) (Nat.le_of_ble_eq_true rfl) dX11_figuresNow_17 h) (fun r2 => ?_)
    show Gz x 1 20 [(0, .ref (xb x + o0))] [.int r2] KDF M _ _
    exact g_rI X dX11_figuresNow_20
  exact G _ h _ rfl
theorem k_X11_figuresNow {x : Cxt} {cc : ByteArray} {nL : Nat} {own : String} {ret : Option FieldType} (X : Ok x cc nL own ret) {d : Nat} (hR : Rm x d KDF) (hN : Nst x) (Z : xz x = 0) {pc : Nat} {lv : List (Nat × Value)} {rest : List Value} {M : Mm} {o0 : Nat} (hk0 : KDF[o0]? = some (11, 0)) {idx : Nat} (hw : Cond.methodLink own idx yX11_figuresNow ∈ tbG) (hdd : 3 + 1 ≤ d) (hrm : (rest.map fun v => v.category).sum ≤ 8) (hd : decode cc pc = .ok (.invokevirtual idx, 3)) {r : Int32} (h : f_X11_figuresNow o0 M = some r) : StpZ x nL pc lv (.ref (xb x + o0) :: rest) KDF M (pc + 3) lv (.int r :: rest) KDF M :=
  w_callV (st := []) (As := []) X hR hN (CtX0 Z (c_X11_figuresNow hk0 h)) ⟨Nat.le_refl _, Nat.le_refl _⟩ ⟨Nat.le_refl _, Nat.le_refl _⟩ hk0 (ci := 11) (fs := fs_11 o0) (fun _ _ _ => rfl) rfl hw mw_510 mw_6 mw_61 mw_511 (n := 0) (by decide +kernel) rfl hdd (by decide) hrm hd
def f_X11_told (o0 : Nat) (x1 : Int32) (M : Mm) : Option (Int32) :=
  (if x1 = (0 : Int32) then Gd (KDF[(M o0 0).toNatClampNeg]? = some (9, 0)) (some (M (M o0 0).toNatClampNeg 0)) else (if x1 = (1 : Int32) then Gd (KDF[(M o0 0).toNatClampNeg]? = some (9, 0)) (some (M (M o0 0).toNatClampNeg 1)) else (if x1 = (2 : Int32) then Gd (KDF[(M o0 0).toNatClampNeg]? = some (9, 0)) (some (M (M o0 0).toNatClampNeg 2)) else (if x1 = (3 : Int32) then some (M 35 0) else (if x1 = (4 : Int32) then some (M 37 1) else (if x1 = (5 : Int32) then Bd (f_X11_figuresNow o0 M) (fun r10 => some r10) else (if x1 = (6 : Int32) then some (M 37 2) else (if x1 = (7 : Int32) then Gd (KDF[(M o0 0).toNatClampNeg]? = some (9, 0)) (Bd (f_X1_wed 37 (M o0 0).toNatClampNeg M) (fun r14 => some r14)) else (if x1 = (8 : Int32) then (if (M (37 + 1) 2) = 0 then some (0 : Int32) else some (1 : Int32)) else (if x1 = (9 : Int32) then (if (M 37 3) = 0 then some (0 : Int32) else some (1 : Int32)) else (if x1 = (10 : Int32) then some (M (37 + 1) 1) else (if x1 = (11 : Int32) then some (M 117 0) else (if x1 = (12 : Int32) then some (M 117 1) else (if x1 = (13 : Int32) then some (M 117 2) else (if x1 = (14 : Int32) then some (M 41 0) else some (-1000000002 : Int32))))))))))))))))
set_option maxRecDepth 100000 in
set_option maxHeartbeats 4000000 in
theorem c_X11_told {l : Launch} {D : va_G} {an : An} {b : Nat} {o0 : Nat} {x1 : Int32} (hk0 : KDF[o0]? = some (11, 0)) {M : Mm} {r : Int32} (h : f_X11_told o0 x1 M = some r) : Ct l D an b 0 yX11_told cX11_told 2 (some .int) 4 [.ref (b + o0), .int x1] KDF M (some (.int r)) KDF M := by
  refine CtX.mk (as := fun b => [.ref (b + o0), .int x1]) (rv := fun b => (some (.int r))) (by decide) (fun b => Nat.le_of_ble_eq_true rfl) ⟨Nat.le_refl _, Nat.le_refl _⟩ (fun x X hR Z hN _ _ => ?_)
  have X : Ok x cX11_told 2 RX11 (some .int) := X
  have G : Gz x 2 0 [(0, .ref (xb x + o0)), (1, .int x1)] [] KDF M (f_X11_told o0 x1 M) (PsI x KDF M) := by
    unfold f_X11_told
    refine g1 (pc' := 1) (w_iload_n X dX11_told_0 rfl 1 rfl) ?_
    refine g_by (fun h1 => ?_) (fun h1 => ?_)
    · refine g1 (pc' := 76) (w_tsIn (off := 75) X dX11_told_1 (0) (by rw [h1]; rfl) (by decide) (by decide) rfl (by decide)) ?_
      refine g1 (pc' := 77) (w_aload_n X dX11_told_76 rfl 0 rfl) ?_
      refine g1 (pc' := 80) (gt_11_0 X hk0 mw_323 dX11_told_77) ?_
      refine g_gd (fun h2 => ?_)
      refine g1 (pc' := 83) (gt_9_0 X h2 mw_114 dX11_told_80) ?_
      exact g_rI X dX11_told_83
    · refine g_by (fun h3 => ?_) (fun h3 => ?_)
      · refine g1 (pc' := 84) (w_tsIn (off := 83) X dX11_told_1 (1) (by rw [h3]; rfl) (by decide) (by decide) rfl (by decide)) ?_
        refine g1 (pc' := 85) (w_aload_n X dX11_told_84 rfl 0 rfl) ?_
        refine g1 (pc' := 88) (gt_11_0 X hk0 mw_323 dX11_told_85) ?_
        refine g_gd (fun h4 => ?_)
        refine g1 (pc' := 91) (gt_9_1 X h4 mw_120 dX11_told_88) ?_
        exact g_rI X dX11_told_91
      · refine g_by (fun h5 => ?_) (fun h5 => ?_)
        · refine g1 (pc' := 92) (w_tsIn (off := 91) X dX11_told_1 (2) (by rw [h5]; rfl) (by decide) (by decide) rfl (by decide)) ?_
          refine g1 (pc' := 93) (w_aload_n X dX11_told_92 rfl 0 rfl) ?_
          refine g1 (pc' := 96) (gt_11_0 X hk0 mw_323 dX11_told_93) ?_
          refine g_gd (fun h6 => ?_)
          refine g1 (pc' := 99) (gt_9_2 X h6 mw_124 dX11_told_96) ?_
          exact g_rI X dX11_told_99
        · refine g_by (fun h7 => ?_) (fun h7 => ?_)
          · refine g1 (pc' := 100) (w_tsIn (off := 99) X dX11_told_1 (3) (by rw [h7]; rfl) (by decide) (by decide) rfl (by decide)) ?_
            refine g1 (pc' := 101) (w_aload_n X dX11_told_100 rfl 0 rfl) ?_
            refine g1 (pc' := 104) (gt_11_2 X hk0 mw_325 dX11_told_101) ?_
            refine g1 (pc' := 107) (gt_7_0 X kd_35 mw_161 dX11_told_104) ?_
            exact g_rI X dX11_told_107
          · refine g_by (fun h8 => ?_) (fun h8 => ?_)
            · refine g1 (pc' := 108) (w_tsIn (off := 107) X dX11_told_1 (4) (by rw [h8]; rfl) (by decide) (by decide) rfl (by decide)) ?_
              refine g1 (pc' := 109) (w_aload_n X dX11_told_108 rfl 0 rfl) ?_
              refine g1 (pc' := 112) (gt_11_3 X hk0 mw_326 dX11_told_109) ?_
              refine g1 (pc' := 115) (gt_1_1 X kd_37 mw_210 dX11_told_112) ?_
              exact g_rI X dX11_told_115
            · refine g_by (fun h9 => ?_) (fun h9 => ?_)
              · refine g1 (pc' := 116) (w_tsIn (off := 115) X dX11_told_1 (5) (by rw [h9]; rfl) (by decide) (by decide) rfl (by decide)) ?_
                refine g1 (pc' := 117) (w_aload_n X dX11_told_116 rfl 0 rfl) ?_
                refine g_bd (pc' := 120) (fun r10 => [(0, .ref (xb x + o0)), (1, .int x1)]) (fun r10 => [.int r10]) (fun r10 => M) (fun r10 h => k_X11_figuresNow X hR hN Z hk0 mw_508 (by decide) (Nat.le_of_ble_eq_true rfl) dX11_told_117 h) (fun r10 => ?_)
                show Gz x 2 120 [(0, .ref (xb x + o0)), (1, .int x1)] [.int r10] KDF M _ _
                exact g_rI X dX11_told_120
              · refine g_by (fun h11 => ?_) (fun h11 => ?_)
                · refine g1 (pc' := 121) (w_tsIn (off := 120) X dX11_told_1 (6) (by rw [h11]; rfl) (by decide) (by decide) rfl (by decide)) ?_
                  refine g1 (pc' := 122) (w_aload_n X dX11_told_121 rfl 0 rfl) ?_
                  refine g1 (pc' := 125) (gt_11_3 X hk0 mw_326 dX11_told_122) ?_
                  refine g1 (pc' := 128) (gt_1_2 X kd_37 mw_212 dX11_told_125) ?_
                  exact g_rI X dX11_told_128
                · refine g_by (fun h12 => ?_) (fun h12 => ?_)
                  · refine g1 (pc' := 129) (w_tsIn (off := 128) X dX11_told_1 (7) (by rw [h12]; rfl) (by decide) (by decide) rfl (by decide)) ?_
                    refine g1 (pc' := 130) (w_aload_n X dX11_told_129 rfl 0 rfl) ?_
                    refine g1 (pc' := 133) (gt_11_3 X hk0 mw_326 dX11_told_130) ?_
                    refine g1 (pc' := 134) (w_aload_n X dX11_told_133 rfl 0 rfl) ?_
                    refine g1 (pc' := 137) (gt_11_0 X hk0 mw_323 dX11_told_134) ?_
                    refine g_gd (fun h13 => ?_)
                    refine g_bd (pc' := 140) (fun r14 => [(0, .ref (xb x + o0)), (1, .int x1)]) (fun r14 => [.int r14]) (fun r14 => M) (fun r14 h => k_X1_wed X hR hN Z kd_37 h13 mw_518 (by decide) (Nat.le_of_ble_eq_true rfl) dX11_told_137 h) (fun r14 => ?_)
                    show Gz x 2 140 [(0, .ref (xb x + o0)), (1, .int x1)] [.int r14] KDF M _ _
                    exact g_rI X dX11_told_140
                  · refine g_by (fun h15 => ?_) (fun h15 => ?_)
                    · refine g1 (pc' := 141) (w_tsIn (off := 140) X dX11_told_1 (8) (by rw [h15]; rfl) (by decide) (by decide) rfl (by decide)) ?_
                      refine g1 (pc' := 142) (w_aload_n X dX11_told_141 rfl 0 rfl) ?_
                      refine g1 (pc' := 145) (gt_11_3 X hk0 mw_326 dX11_told_142) ?_
                      refine g1 (pc' := 148) (gt_1_0 X kd_37 mw_208 dX11_told_145) ?_
                      refine g1 (pc' := 151) (gt_10_2 X (kd_Ev1 kd_37) mw_199 dX11_told_148) ?_
                      refine g_if (pcT := 158) (pcF := 154) (w_if_eq (tgt := 158) X dX11_told_151 (by decide)) (fun h16 => ?_) (fun h16 => ?_)
                      · refine g1 (pc' := 159) (w_iconst X (0) dX11_told_158 (by decide)) ?_
                        exact g_rI X dX11_told_159
                      · refine g1 (pc' := 155) (w_iconst X (1) dX11_told_154 (by decide)) ?_
                        refine g1 (pc' := 159) (w_goto X dX11_told_155 (by decide)) ?_
                        exact g_rI X dX11_told_159
                    · refine g_by (fun h17 => ?_) (fun h17 => ?_)
                      · refine g1 (pc' := 160) (w_tsIn (off := 159) X dX11_told_1 (9) (by rw [h17]; rfl) (by decide) (by decide) rfl (by decide)) ?_
                        refine g1 (pc' := 161) (w_aload_n X dX11_told_160 rfl 0 rfl) ?_
                        refine g1 (pc' := 164) (gt_11_3 X hk0 mw_326 dX11_told_161) ?_
                        refine g1 (pc' := 167) (gt_1_3 X kd_37 mw_214 dX11_told_164) ?_
                        refine g_if (pcT := 174) (pcF := 170) (w_if_eq (tgt := 174) X dX11_told_167 (by decide)) (fun h18 => ?_) (fun h18 => ?_)
                        · refine g1 (pc' := 175) (w_iconst X (0) dX11_told_174 (by decide)) ?_
                          exact g_rI X dX11_told_175
                        · refine g1 (pc' := 171) (w_iconst X (1) dX11_told_170 (by decide)) ?_
                          refine g1 (pc' := 175) (w_goto X dX11_told_171 (by decide)) ?_
                          exact g_rI X dX11_told_175
                      · refine g_by (fun h19 => ?_) (fun h19 => ?_)
                        · refine g1 (pc' := 176) (w_tsIn (off := 175) X dX11_told_1 (10) (by rw [h19]; rfl) (by decide) (by decide) rfl (by decide)) ?_
                          refine g1 (pc' := 177) (w_aload_n X dX11_told_176 rfl 0 rfl) ?_
                          refine g1 (pc' := 180) (gt_11_3 X hk0 mw_326 dX11_told_177) ?_
                          refine g1 (pc' := 183) (gt_1_0 X kd_37 mw_208 dX11_told_180) ?_
                          refine g1 (pc' := 186) (gt_10_1 X (kd_Ev1 kd_37) mw_197 dX11_told_183) ?_
                          exact g_rI X dX11_told_186
                        · refine g_by (fun h20 => ?_) (fun h20 => ?_)
                          · refine g1 (pc' := 187) (w_tsIn (off := 186) X dX11_told_1 (11) (by rw [h20]; rfl) (by decide) (by decide) rfl (by decide)) ?_
                            refine g1 (pc' := 188) (w_aload_n X dX11_told_187 rfl 0 rfl) ?_
                            refine g1 (pc' := 191) (gt_11_13 X hk0 mw_336 dX11_told_188) ?_
                            refine g1 (pc' := 194) (gt_2_0 X kd_117 mw_305 dX11_told_191) ?_
                            exact g_rI X dX11_told_194
                          · refine g_by (fun h21 => ?_) (fun h21 => ?_)
                            · refine g1 (pc' := 195) (w_tsIn (off := 194) X dX11_told_1 (12) (by rw [h21]; rfl) (by decide) (by decide) rfl (by decide)) ?_
                              refine g1 (pc' := 196) (w_aload_n X dX11_told_195 rfl 0 rfl) ?_
                              refine g1 (pc' := 199) (gt_11_13 X hk0 mw_336 dX11_told_196) ?_
                              refine g1 (pc' := 202) (gt_2_1 X kd_117 mw_307 dX11_told_199) ?_
                              exact g_rI X dX11_told_202
                            · refine g_by (fun h22 => ?_) (fun h22 => ?_)
                              · refine g1 (pc' := 203) (w_tsIn (off := 202) X dX11_told_1 (13) (by rw [h22]; rfl) (by decide) (by decide) rfl (by decide)) ?_
                                refine g1 (pc' := 204) (w_aload_n X dX11_told_203 rfl 0 rfl) ?_
                                refine g1 (pc' := 207) (gt_11_13 X hk0 mw_336 dX11_told_204) ?_
                                refine g1 (pc' := 210) (gt_2_2 X kd_117 mw_309 dX11_told_207) ?_
                                exact g_rI X dX11_told_210
                              · refine g_by (fun h23 => ?_) (fun h23 => ?_)
                                · refine g1 (pc' := 211) (w_tsIn (off := 210) X dX11_told_1 (14) (by rw [h23]; rfl) (by decide) (by decide) rfl (by decide)) ?_
                                  refine g1 (pc' := 212) (w_aload_n X dX11_told_211 rfl 0 rfl) ?_
                                  refine g1 (pc' := 215) (gt_11_4 X hk0 mw_327 dX11_told_212) ?_
                                  refine g1 (pc' := 218) (gt_3_0 X kd_41 mw_240 dX11_told_215) ?_
                                  exact g_rI X dX11_told_218
                                · refine g1 (pc' := 219) (w_tsOut X dX11_told_1 (by have eh1 := ne_int h1 (n := 0) rfl; have eh3 := ne_int h3 (n := 1) rfl; have eh5 := ne_int h5 (n := 2) rfl; have eh7 := ne_int h7 (n := 3) rfl; have eh8 := ne_int h8 (n := 4) rfl; have eh9 := ne_int h9 (n := 5) rfl; have eh11 := ne_int h11 (n := 6) rfl; have eh12 := ne_int h12 (n := 7) rfl; have eh15 := ne_int h15 (n := 8) rfl; have eh17 := ne_int h17 (n := 9) rfl; have eh19 := ne_int h19 (n := 10) rfl; have eh20 := ne_int h20 (n := 11) rfl; have eh21 := ne_int h21 (n := 12) rfl; have eh22 := ne_int h22 (n := 13) rfl; have eh23 := ne_int h23 (n := 14) rfl; omega) (by decide)) ?_
                                  refine g1 (pc' := 221) (w_ldc (v := -1000000002) X dX11_told_219 mw_376) ?_
                                  exact g_rI X dX11_told_221
  exact G _ h _ rfl
theorem k_X11_told {x : Cxt} {cc : ByteArray} {nL : Nat} {own : String} {ret : Option FieldType} (X : Ok x cc nL own ret) {d : Nat} (hR : Rm x d KDF) (hN : Nst x) (Z : xz x = 0) {pc : Nat} {lv : List (Nat × Value)} {rest : List Value} {M : Mm} {o0 : Nat} {x1 : Int32} (hk0 : KDF[o0]? = some (11, 0)) {idx : Nat} (hw : Cond.methodLink own idx yX11_told ∈ tbG) (hdd : 4 + 1 ≤ d) (hrm : (rest.map fun v => v.category).sum ≤ 8) (hd : decode cc pc = .ok (.invokevirtual idx, 3)) {r : Int32} (h : f_X11_told o0 x1 M = some r) : StpZ x nL pc lv (.int x1 :: .ref (xb x + o0) :: rest) KDF M (pc + 3) lv (.int r :: rest) KDF M :=
  w_callV (st := []) (As := [.int x1]) X hR hN (CtX0 Z (c_X11_told hk0 h)) ⟨Nat.le_refl _, Nat.le_refl _⟩ ⟨Nat.le_refl _, Nat.le_refl _⟩ hk0 (ci := 11) (fs := fs_11 o0) (fun _ _ _ => rfl) rfl hw mw_505 mw_506 mw_61 mw_507 (n := 1) (by decide +kernel) rfl hdd (by decide) hrm hd
def f_X11_method (o0 : Nat) (x1 : Int32) (M : Mm) : Option (Int32) :=
  Gd (KDF[(M o0 0).toNatClampNeg]? = some (9, 0)) ((if (f_X9_stands (M o0 0).toNatClampNeg M) = 0 then some (-1000000003 : Int32) else (if x1 = (-1 : Int32) then Gd (KDF[(M o0 0).toNatClampNeg]? = some (9, 0)) (some (M ((M o0 0).toNatClampNeg + 1) 0)) else (if x1 < 0 then some (-1 : Int32) else Gd (KDF[(M o0 0).toNatClampNeg]? = some (9, 0)) ((if (M (M o0 0).toNatClampNeg 1) ≤ x1 then some (-1 : Int32) else Gd (KDF[(M o0 0).toNatClampNeg]? = some (9, 0)) (Bd (f_X9_changeAt (M o0 0).toNatClampNeg x1 M) (fun r9 => Gd (KDF[r9]? = some (0, 0)) (some (M r9 0))))))))))
set_option maxRecDepth 100000 in
set_option maxHeartbeats 4000000 in
theorem c_X11_method {l : Launch} {D : va_G} {an : An} {b : Nat} {o0 : Nat} {x1 : Int32} (hk0 : KDF[o0]? = some (11, 0)) {M : Mm} {r : Int32} (h : f_X11_method o0 x1 M = some r) : Ct l D an b 0 yX11_method cX11_method 2 (some .int) 2 [.ref (b + o0), .int x1] KDF M (some (.int r)) KDF M := by
  refine CtX.mk (as := fun b => [.ref (b + o0), .int x1]) (rv := fun b => (some (.int r))) (by decide) (fun b => Nat.le_of_ble_eq_true rfl) ⟨Nat.le_refl _, Nat.le_refl _⟩ (fun x X hR Z hN _ _ => ?_)
  have X : Ok x cX11_method 2 RX11 (some .int) := X
  have G : Gz x 2 0 [(0, .ref (xb x + o0)), (1, .int x1)] [] KDF M (f_X11_method o0 x1 M) (PsI x KDF M) := by
    unfold f_X11_method
    refine g1 (pc' := 1) (w_aload_n X dX11_method_0 rfl 0 rfl) ?_
    refine g1 (pc' := 4) (gt_11_0 X hk0 mw_323 dX11_method_1) ?_
    refine g_gd (fun h1 => ?_)
    refine g1 (pc' := 7) (k_X9_stands X hR hN Z h1 mw_540 (by decide) (Nat.le_of_ble_eq_true rfl) dX11_method_4) ?_
    refine g_if (pcT := 10) (pcF := 13) (w_if_ne (tgt := 13) X dX11_method_7 (by decide)) (fun h2 => ?_) (fun h2 => ?_)
    · refine g1 (pc' := 12) (w_ldc (v := -1000000003) X dX11_method_10 mw_541) ?_
      exact g_rI X dX11_method_12
    · refine g1 (pc' := 14) (w_iload_n X dX11_method_13 rfl 1 rfl) ?_
      refine g1 (pc' := 15) (w_iconst X (-1) dX11_method_14 (by decide)) ?_
      refine g_if (pcT := 18) (pcF := 29) (w_icmp_ne (tgt := 29) X dX11_method_15 (by decide)) (fun h3 => ?_) (fun h3 => ?_)
      · refine g1 (pc' := 19) (w_aload_n X dX11_method_18 rfl 0 rfl) ?_
        refine g1 (pc' := 22) (gt_11_0 X hk0 mw_323 dX11_method_19) ?_
        refine g_gd (fun h4 => ?_)
        refine g1 (pc' := 25) (gt_9_4 X h4 mw_132 dX11_method_22) ?_
        refine g1 (pc' := 28) (gt_0_0 X (kd_To1 h4) mw_99 dX11_method_25) ?_
        exact g_rI X dX11_method_28
      · refine g1 (pc' := 30) (w_iload_n X dX11_method_29 rfl 1 rfl) ?_
        refine g_if (pcT := 58) (pcF := 33) (w_if_lt (tgt := 58) X dX11_method_30 (by decide)) (fun h5 => ?_) (fun h5 => ?_)
        · refine g1 (pc' := 59) (w_iconst X (-1) dX11_method_58 (by decide)) ?_
          exact g_rI X dX11_method_59
        · refine g1 (pc' := 34) (w_iload_n X dX11_method_33 rfl 1 rfl) ?_
          refine g1 (pc' := 35) (w_aload_n X dX11_method_34 rfl 0 rfl) ?_
          refine g1 (pc' := 38) (gt_11_0 X hk0 mw_323 dX11_method_35) ?_
          refine g_gd (fun h6 => ?_)
          refine g1 (pc' := 41) (gt_9_1 X h6 mw_120 dX11_method_38) ?_
          refine g_if (pcT := 58) (pcF := 44) (w_icmp_ge (tgt := 58) X dX11_method_41 (by decide)) (fun h7 => ?_) (fun h7 => ?_)
          · refine g1 (pc' := 59) (w_iconst X (-1) dX11_method_58 (by decide)) ?_
            exact g_rI X dX11_method_59
          · refine g1 (pc' := 45) (w_aload_n X dX11_method_44 rfl 0 rfl) ?_
            refine g1 (pc' := 48) (gt_11_0 X hk0 mw_323 dX11_method_45) ?_
            refine g_gd (fun h8 => ?_)
            refine g1 (pc' := 49) (w_iload_n X dX11_method_48 rfl 1 rfl) ?_
            refine g_bd (pc' := 52) (fun r9 => [(0, .ref (xb x + o0)), (1, .int x1)]) (fun r9 => [.ref (xb x + r9)]) (fun r9 => M) (fun r9 h => k_X9_changeAt X hR hN Z h8 mw_542 (by decide) (Nat.le_of_ble_eq_true rfl) dX11_method_49 h) (fun r9 => ?_)
            show Gz x 2 52 [(0, .ref (xb x + o0)), (1, .int x1)] [.ref (xb x + r9)] KDF M _ _
            refine g_gd (fun h10 => ?_)
            refine g1 (pc' := 55) (gt_0_0 X h10 mw_99 dX11_method_52) ?_
            refine g1 (pc' := 59) (w_goto X dX11_method_55 (by decide)) ?_
            exact g_rI X dX11_method_59
  exact G _ h _ rfl
theorem k_X11_method {x : Cxt} {cc : ByteArray} {nL : Nat} {own : String} {ret : Option FieldType} (X : Ok x cc nL own ret) {d : Nat} (hR : Rm x d KDF) (hN : Nst x) (Z : xz x = 0) {pc : Nat} {lv : List (Nat × Value)} {rest : List Value} {M : Mm} {o0 : Nat} {x1 : Int32} (hk0 : KDF[o0]? = some (11, 0)) {idx : Nat} (hw : Cond.methodLink own idx yX11_method ∈ tbG) (hdd : 2 + 1 ≤ d) (hrm : (rest.map fun v => v.category).sum ≤ 8) (hd : decode cc pc = .ok (.invokevirtual idx, 3)) {r : Int32} (h : f_X11_method o0 x1 M = some r) : StpZ x nL pc lv (.int x1 :: .ref (xb x + o0) :: rest) KDF M (pc + 3) lv (.int r :: rest) KDF M :=
  w_callV (st := []) (As := [.int x1]) X hR hN (CtX0 Z (c_X11_method hk0 h)) ⟨Nat.le_refl _, Nat.le_refl _⟩ ⟨Nat.le_refl _, Nat.le_refl _⟩ hk0 (ci := 11) (fs := fs_11 o0) (fun _ _ _ => rfl) rfl hw mw_537 mw_538 mw_61 mw_539 (n := 1) (by decide +kernel) rfl hdd (by decide) hrm hd
def f_X11_bell (o0 : Nat) (x1 : Int32) (x2 : Int32) (M : Mm) : Option (Int32) :=
  Gd (KDF[(M o0 0).toNatClampNeg]? = some (9, 0)) ((if (f_X9_hasBell (M o0 0).toNatClampNeg x1 M) = 0 then some (-1000000001 : Int32) else (if x2 = (0 : Int32) then Gd (KDF[(M o0 0).toNatClampNeg]? = some (9, 0)) (Bd (f_X9_weightOf (M o0 0).toNatClampNeg x1 M) (fun r5 => some r5)) else (if x2 = (1 : Int32) then Gd (KDF[(M o0 0).toNatClampNeg]? = some (9, 0)) (Bd (f_X5_placeOf (M (37 + 1) 0) x1 (M (M o0 0).toNatClampNeg 0)) (fun r8 => some r8)) else (if x2 = (2 : Int32) then Gd (KDF[(M o0 0).toNatClampNeg]? = some (9, 0)) (Bd (f_X1_suitorOf 37 x1 (M o0 0).toNatClampNeg M) (fun r11 => some r11)) else some (-1000000002 : Int32))))))
set_option maxRecDepth 100000 in
set_option maxHeartbeats 4000000 in
theorem c_X11_bell {l : Launch} {D : va_G} {an : An} {b : Nat} {o0 : Nat} {x1 : Int32} {x2 : Int32} (hk0 : KDF[o0]? = some (11, 0)) {M : Mm} {r : Int32} (h : f_X11_bell o0 x1 x2 M = some r) : Ct l D an b 0 yX11_bell cX11_bell 3 (some .int) 3 [.ref (b + o0), .int x1, .int x2] KDF M (some (.int r)) KDF M := by
  refine CtX.mk (as := fun b => [.ref (b + o0), .int x1, .int x2]) (rv := fun b => (some (.int r))) (by decide) (fun b => Nat.le_of_ble_eq_true rfl) ⟨Nat.le_refl _, Nat.le_refl _⟩ (fun x X hR Z hN _ _ => ?_)
  have X : Ok x cX11_bell 3 RX11 (some .int) := X
  have G : Gz x 3 0 [(0, .ref (xb x + o0)), (1, .int x1), (2, .int x2)] [] KDF M (f_X11_bell o0 x1 x2 M) (PsI x KDF M) := by
    unfold f_X11_bell
    refine g1 (pc' := 1) (w_aload_n X dX11_bell_0 rfl 0 rfl) ?_
    refine g1 (pc' := 4) (gt_11_0 X hk0 mw_323 dX11_bell_1) ?_
    refine g_gd (fun h1 => ?_)
    refine g1 (pc' := 5) (w_iload_n X dX11_bell_4 rfl 1 rfl) ?_
    refine g1 (pc' := 8) (k_X9_hasBell X hR hN Z h1 mw_550 (by decide) (Nat.le_of_ble_eq_true rfl) dX11_bell_5) ?_
    refine g_if (pcT := 11) (pcF := 14) (w_if_ne (tgt := 14) X dX11_bell_8 (by decide)) (fun h2 => ?_) (fun h2 => ?_)
    · refine g1 (pc' := 13) (w_ldc (v := -1000000001) X dX11_bell_11 mw_554) ?_
      exact g_rI X dX11_bell_13
    · refine g1 (pc' := 15) (w_iload_n X dX11_bell_14 rfl 2 rfl) ?_
      refine g_by (fun h3 => ?_) (fun h3 => ?_)
      · refine g1 (pc' := 40) (w_tsIn (off := 25) X dX11_bell_15 (0) (by rw [h3]; rfl) (by decide) (by decide) rfl (by decide)) ?_
        refine g1 (pc' := 41) (w_aload_n X dX11_bell_40 rfl 0 rfl) ?_
        refine g1 (pc' := 44) (gt_11_0 X hk0 mw_323 dX11_bell_41) ?_
        refine g_gd (fun h4 => ?_)
        refine g1 (pc' := 45) (w_iload_n X dX11_bell_44 rfl 1 rfl) ?_
        refine g_bd (pc' := 48) (fun r5 => [(0, .ref (xb x + o0)), (1, .int x1), (2, .int x2)]) (fun r5 => [.int r5]) (fun r5 => M) (fun r5 h => k_X9_weightOf X hR hN Z h4 mw_555 (by decide) (Nat.le_of_ble_eq_true rfl) dX11_bell_45 h) (fun r5 => ?_)
        show Gz x 3 48 [(0, .ref (xb x + o0)), (1, .int x1), (2, .int x2)] [.int r5] KDF M _ _
        exact g_rI X dX11_bell_48
      · refine g_by (fun h6 => ?_) (fun h6 => ?_)
        · refine g1 (pc' := 49) (w_tsIn (off := 34) X dX11_bell_15 (1) (by rw [h6]; rfl) (by decide) (by decide) rfl (by decide)) ?_
          refine g1 (pc' := 50) (w_aload_n X dX11_bell_49 rfl 0 rfl) ?_
          refine g1 (pc' := 53) (gt_11_3 X hk0 mw_326 dX11_bell_50) ?_
          refine g1 (pc' := 56) (gt_1_0 X kd_37 mw_208 dX11_bell_53) ?_
          refine g1 (pc' := 59) (gt_10_0 X (kd_Ev1 kd_37) mw_194 dX11_bell_56) ?_
          refine g1 (pc' := 60) (w_iload_n X dX11_bell_59 rfl 1 rfl) ?_
          refine g1 (pc' := 61) (w_aload_n X dX11_bell_60 rfl 0 rfl) ?_
          refine g1 (pc' := 64) (gt_11_0 X hk0 mw_323 dX11_bell_61) ?_
          refine g_gd (fun h7 => ?_)
          refine g1 (pc' := 67) (gt_9_0 X h7 mw_114 dX11_bell_64) ?_
          refine g_bd (pc' := 70) (fun r8 => [(0, .ref (xb x + o0)), (1, .int x1), (2, .int x2)]) (fun r8 => [.int r8]) (fun r8 => M) (fun r8 h => k_X5_placeOf X hR hN Z  mw_560 (by decide) (Nat.le_of_ble_eq_true rfl) dX11_bell_67 h) (fun r8 => ?_)
          show Gz x 3 70 [(0, .ref (xb x + o0)), (1, .int x1), (2, .int x2)] [.int r8] KDF M _ _
          exact g_rI X dX11_bell_70
        · refine g_by (fun h9 => ?_) (fun h9 => ?_)
          · refine g1 (pc' := 71) (w_tsIn (off := 56) X dX11_bell_15 (2) (by rw [h9]; rfl) (by decide) (by decide) rfl (by decide)) ?_
            refine g1 (pc' := 72) (w_aload_n X dX11_bell_71 rfl 0 rfl) ?_
            refine g1 (pc' := 75) (gt_11_3 X hk0 mw_326 dX11_bell_72) ?_
            refine g1 (pc' := 76) (w_iload_n X dX11_bell_75 rfl 1 rfl) ?_
            refine g1 (pc' := 77) (w_aload_n X dX11_bell_76 rfl 0 rfl) ?_
            refine g1 (pc' := 80) (gt_11_0 X hk0 mw_323 dX11_bell_77) ?_
            refine g_gd (fun h10 => ?_)
            refine g_bd (pc' := 83) (fun r11 => [(0, .ref (xb x + o0)), (1, .int x1), (2, .int x2)]) (fun r11 => [.int r11]) (fun r11 => M) (fun r11 h => k_X1_suitorOf X hR hN Z kd_37 h10 mw_563 (by decide) (Nat.le_of_ble_eq_true rfl) dX11_bell_80 h) (fun r11 => ?_)
            show Gz x 3 83 [(0, .ref (xb x + o0)), (1, .int x1), (2, .int x2)] [.int r11] KDF M _ _
            exact g_rI X dX11_bell_83
          · refine g1 (pc' := 84) (w_tsOut X dX11_bell_15 (by have eh3 := ne_int h3 (n := 0) rfl; have eh6 := ne_int h6 (n := 1) rfl; have eh9 := ne_int h9 (n := 2) rfl; omega) (by decide)) ?_
            refine g1 (pc' := 86) (w_ldc (v := -1000000002) X dX11_bell_84 mw_376) ?_
            exact g_rI X dX11_bell_86
  exact G _ h _ rfl
theorem k_X11_bell {x : Cxt} {cc : ByteArray} {nL : Nat} {own : String} {ret : Option FieldType} (X : Ok x cc nL own ret) {d : Nat} (hR : Rm x d KDF) (hN : Nst x) (Z : xz x = 0) {pc : Nat} {lv : List (Nat × Value)} {rest : List Value} {M : Mm} {o0 : Nat} {x1 : Int32} {x2 : Int32} (hk0 : KDF[o0]? = some (11, 0)) {idx : Nat} (hw : Cond.methodLink own idx yX11_bell ∈ tbG) (hdd : 3 + 1 ≤ d) (hrm : (rest.map fun v => v.category).sum ≤ 8) (hd : decode cc pc = .ok (.invokevirtual idx, 3)) {r : Int32} (h : f_X11_bell o0 x1 x2 M = some r) : StpZ x nL pc lv (.int x2 :: .int x1 :: .ref (xb x + o0) :: rest) KDF M (pc + 3) lv (.int r :: rest) KDF M :=
  w_callV (st := []) (As := [.int x1, .int x2]) X hR hN (CtX0 Z (c_X11_bell hk0 h)) ⟨Nat.le_refl _, Nat.le_refl _⟩ ⟨Nat.le_refl _, Nat.le_refl _⟩ hk0 (ci := 11) (fs := fs_11 o0) (fun _ _ _ => rfl) rfl hw mw_547 mw_548 mw_61 mw_549 (n := 2) (by decide +kernel) rfl hdd (by decide) hrm hd
def f_X11_suitor (o0 : Nat) (x1 : Int32) (x2 : Int32) (M : Mm) : Option (Int32) :=
  Gd (KDF[(M o0 0).toNatClampNeg]? = some (9, 0)) ((if (f_X9_hasSuitor (M o0 0).toNatClampNeg x1 M) = 0 then some (-1000000001 : Int32) else (if x2 = (0 : Int32) then Gd (KDF[(M o0 0).toNatClampNeg]? = some (9, 0)) (Bd (f_X9_strengthOf (M o0 0).toNatClampNeg x1 M) (fun r5 => some r5)) else (if x2 = (1 : Int32) then Bd (f_X1_ropeOf 37 x1 M) (fun r7 => some r7) else (if x2 = (2 : Int32) then Bd (f_X1_tirednessOf 37 x1 M) (fun r9 => some r9) else (if x2 = (3 : Int32) then (if (f_X1_isOut 37 x1 M) = 0 then some (0 : Int32) else some (1 : Int32)) else some (-1000000002 : Int32)))))))
set_option maxRecDepth 100000 in
set_option maxHeartbeats 4000000 in
theorem c_X11_suitor {l : Launch} {D : va_G} {an : An} {b : Nat} {o0 : Nat} {x1 : Int32} {x2 : Int32} (hk0 : KDF[o0]? = some (11, 0)) {M : Mm} {r : Int32} (h : f_X11_suitor o0 x1 x2 M = some r) : Ct l D an b 0 yX11_suitor cX11_suitor 3 (some .int) 3 [.ref (b + o0), .int x1, .int x2] KDF M (some (.int r)) KDF M := by
  refine CtX.mk (as := fun b => [.ref (b + o0), .int x1, .int x2]) (rv := fun b => (some (.int r))) (by decide) (fun b => Nat.le_of_ble_eq_true rfl) ⟨Nat.le_refl _, Nat.le_refl _⟩ (fun x X hR Z hN _ _ => ?_)
  have X : Ok x cX11_suitor 3 RX11 (some .int) := X
  have G : Gz x 3 0 [(0, .ref (xb x + o0)), (1, .int x1), (2, .int x2)] [] KDF M (f_X11_suitor o0 x1 x2 M) (PsI x KDF M) := by
    unfold f_X11_suitor
    refine g1 (pc' := 1) (w_aload_n X dX11_suitor_0 rfl 0 rfl) ?_
    refine g1 (pc' := 4) (gt_11_0 X hk0 mw_323 dX11_suitor_1) ?_
    refine g_gd (fun h1 => ?_)
    refine g1 (pc' := 5) (w_iload_n X dX11_suitor_4 rfl 1 rfl) ?_
    refine g1 (pc' := 8) (k_X9_hasSuitor X hR hN Z h1 mw_575 (by decide) (Nat.le_of_ble_eq_true rfl) dX11_suitor_5) ?_
    refine g_if (pcT := 11) (pcF := 14) (w_if_ne (tgt := 14) X dX11_suitor_8 (by decide)) (fun h2 => ?_) (fun h2 => ?_)
    · refine g1 (pc' := 13) (w_ldc (v := -1000000001) X dX11_suitor_11 mw_554) ?_
      exact g_rI X dX11_suitor_13
    · refine g1 (pc' := 15) (w_iload_n X dX11_suitor_14 rfl 2 rfl) ?_
      refine g_by (fun h3 => ?_) (fun h3 => ?_)
      · refine g1 (pc' := 44) (w_tsIn (off := 29) X dX11_suitor_15 (0) (by rw [h3]; rfl) (by decide) (by decide) rfl (by decide)) ?_
        refine g1 (pc' := 45) (w_aload_n X dX11_suitor_44 rfl 0 rfl) ?_
        refine g1 (pc' := 48) (gt_11_0 X hk0 mw_323 dX11_suitor_45) ?_
        refine g_gd (fun h4 => ?_)
        refine g1 (pc' := 49) (w_iload_n X dX11_suitor_48 rfl 1 rfl) ?_
        refine g_bd (pc' := 52) (fun r5 => [(0, .ref (xb x + o0)), (1, .int x1), (2, .int x2)]) (fun r5 => [.int r5]) (fun r5 => M) (fun r5 h => k_X9_strengthOf X hR hN Z h4 mw_579 (by decide) (Nat.le_of_ble_eq_true rfl) dX11_suitor_49 h) (fun r5 => ?_)
        show Gz x 3 52 [(0, .ref (xb x + o0)), (1, .int x1), (2, .int x2)] [.int r5] KDF M _ _
        exact g_rI X dX11_suitor_52
      · refine g_by (fun h6 => ?_) (fun h6 => ?_)
        · refine g1 (pc' := 53) (w_tsIn (off := 38) X dX11_suitor_15 (1) (by rw [h6]; rfl) (by decide) (by decide) rfl (by decide)) ?_
          refine g1 (pc' := 54) (w_aload_n X dX11_suitor_53 rfl 0 rfl) ?_
          refine g1 (pc' := 57) (gt_11_3 X hk0 mw_326 dX11_suitor_54) ?_
          refine g1 (pc' := 58) (w_iload_n X dX11_suitor_57 rfl 1 rfl) ?_
          refine g_bd (pc' := 61) (fun r7 => [(0, .ref (xb x + o0)), (1, .int x1), (2, .int x2)]) (fun r7 => [.int r7]) (fun r7 => M) (fun r7 h => k_X1_ropeOf X hR hN Z kd_37 mw_584 (by decide) (Nat.le_of_ble_eq_true rfl) dX11_suitor_58 h) (fun r7 => ?_)
          show Gz x 3 61 [(0, .ref (xb x + o0)), (1, .int x1), (2, .int x2)] [.int r7] KDF M _ _
          exact g_rI X dX11_suitor_61
        · refine g_by (fun h8 => ?_) (fun h8 => ?_)
          · refine g1 (pc' := 62) (w_tsIn (off := 47) X dX11_suitor_15 (2) (by rw [h8]; rfl) (by decide) (by decide) rfl (by decide)) ?_
            refine g1 (pc' := 63) (w_aload_n X dX11_suitor_62 rfl 0 rfl) ?_
            refine g1 (pc' := 66) (gt_11_3 X hk0 mw_326 dX11_suitor_63) ?_
            refine g1 (pc' := 67) (w_iload_n X dX11_suitor_66 rfl 1 rfl) ?_
            refine g_bd (pc' := 70) (fun r9 => [(0, .ref (xb x + o0)), (1, .int x1), (2, .int x2)]) (fun r9 => [.int r9]) (fun r9 => M) (fun r9 h => k_X1_tirednessOf X hR hN Z kd_37 mw_585 (by decide) (Nat.le_of_ble_eq_true rfl) dX11_suitor_67 h) (fun r9 => ?_)
            show Gz x 3 70 [(0, .ref (xb x + o0)), (1, .int x1), (2, .int x2)] [.int r9] KDF M _ _
            exact g_rI X dX11_suitor_70
          · refine g_by (fun h10 => ?_) (fun h10 => ?_)
            · refine g1 (pc' := 71) (w_tsIn (off := 56) X dX11_suitor_15 (3) (by rw [h10]; rfl) (by decide) (by decide) rfl (by decide)) ?_
              refine g1 (pc' := 72) (w_aload_n X dX11_suitor_71 rfl 0 rfl) ?_
              refine g1 (pc' := 75) (gt_11_3 X hk0 mw_326 dX11_suitor_72) ?_
              refine g1 (pc' := 76) (w_iload_n X dX11_suitor_75 rfl 1 rfl) ?_
              refine g1 (pc' := 79) (k_X1_isOut X hR hN Z kd_37 mw_589 (by decide) (Nat.le_of_ble_eq_true rfl) dX11_suitor_76) ?_
              refine g_if (pcT := 86) (pcF := 82) (w_if_eq (tgt := 86) X dX11_suitor_79 (by decide)) (fun h11 => ?_) (fun h11 => ?_)
              · refine g1 (pc' := 87) (w_iconst X (0) dX11_suitor_86 (by decide)) ?_
                exact g_rI X dX11_suitor_87
              · refine g1 (pc' := 83) (w_iconst X (1) dX11_suitor_82 (by decide)) ?_
                refine g1 (pc' := 87) (w_goto X dX11_suitor_83 (by decide)) ?_
                exact g_rI X dX11_suitor_87
            · refine g1 (pc' := 88) (w_tsOut X dX11_suitor_15 (by have eh3 := ne_int h3 (n := 0) rfl; have eh6 := ne_int h6 (n := 1) rfl; have eh8 := ne_int h8 (n := 2) rfl; have eh10 := ne_int h10 (n := 3) rfl; omega) (by decide)) ?_
              refine g1 (pc' := 90) (w_ldc (v := -1000000002) X dX11_suitor_88 mw_376) ?_
              exact g_rI X dX11_suitor_90
  exact G _ h _ rfl
theorem k_X11_suitor {x : Cxt} {cc : ByteArray} {nL : Nat} {own : String} {ret : Option FieldType} (X : Ok x cc nL own ret) {d : Nat} (hR : Rm x d KDF) (hN : Nst x) (Z : xz x = 0) {pc : Nat} {lv : List (Nat × Value)} {rest : List Value} {M : Mm} {o0 : Nat} {x1 : Int32} {x2 : Int32} (hk0 : KDF[o0]? = some (11, 0)) {idx : Nat} (hw : Cond.methodLink own idx yX11_suitor ∈ tbG) (hdd : 3 + 1 ≤ d) (hrm : (rest.map fun v => v.category).sum ≤ 8) (hd : decode cc pc = .ok (.invokevirtual idx, 3)) {r : Int32} (h : f_X11_suitor o0 x1 x2 M = some r) : StpZ x nL pc lv (.int x2 :: .int x1 :: .ref (xb x + o0) :: rest) KDF M (pc + 3) lv (.int r :: rest) KDF M :=
  w_callV (st := []) (As := [.int x1, .int x2]) X hR hN (CtX0 Z (c_X11_suitor hk0 h)) ⟨Nat.le_refl _, Nat.le_refl _⟩ ⟨Nat.le_refl _, Nat.le_refl _⟩ hk0 (ci := 11) (fs := fs_11 o0) (fun _ _ _ => rfl) rfl hw mw_572 mw_573 mw_61 mw_574 (n := 2) (by decide +kernel) rfl hdd (by decide) hrm hd
def f_X11_refuseToRing (o0 : Nat) (x1 : Int32) (x2 : Int32) (M : Mm) : Option (Int32) :=
  (if x1 < (1 : Int32) then some (-1000000002 : Int32) else (if x1 ≤ x2 then Gd (KDF[(M o0 0).toNatClampNeg]? = some (9, 0)) ((if (f_X9_stands (M o0 0).toNatClampNeg M) = 0 then some (-1000000003 : Int32) else (if (M 37 1) ≤ (9000 : Int32) then some (0 : Int32) else some (-1000000004 : Int32)))) else some (-1000000002 : Int32)))
set_option maxRecDepth 100000 in
set_option maxHeartbeats 4000000 in
theorem c_X11_refuseToRing {l : Launch} {D : va_G} {an : An} {b : Nat} {o0 : Nat} {x1 : Int32} {x2 : Int32} (hk0 : KDF[o0]? = some (11, 0)) {M : Mm} {r : Int32} (h : f_X11_refuseToRing o0 x1 x2 M = some r) : Ct l D an b 0 yX11_refuseToRing cX11_refuseToRing 3 (some .int) 2 [.ref (b + o0), .int x1, .int x2] KDF M (some (.int r)) KDF M := by
  refine CtX.mk (as := fun b => [.ref (b + o0), .int x1, .int x2]) (rv := fun b => (some (.int r))) (by decide) (fun b => Nat.le_of_ble_eq_true rfl) ⟨Nat.le_refl _, Nat.le_refl _⟩ (fun x X hR Z hN _ _ => ?_)
  have X : Ok x cX11_refuseToRing 3 RX11 (some .int) := X
  have G : Gz x 3 0 [(0, .ref (xb x + o0)), (1, .int x1), (2, .int x2)] [] KDF M (f_X11_refuseToRing o0 x1 x2 M) (PsI x KDF M) := by
    unfold f_X11_refuseToRing
    refine g1 (pc' := 1) (w_iload_n X dX11_refuseToRing_0 rfl 1 rfl) ?_
    refine g1 (pc' := 2) (w_iconst X (1) dX11_refuseToRing_1 (by decide)) ?_
    refine g_if (pcT := 10) (pcF := 5) (w_icmp_lt (tgt := 10) X dX11_refuseToRing_2 (by decide)) (fun h1 => ?_) (fun h1 => ?_)
    · refine g1 (pc' := 12) (w_ldc (v := -1000000002) X dX11_refuseToRing_10 mw_376) ?_
      exact g_rI X dX11_refuseToRing_12
    · refine g1 (pc' := 6) (w_iload_n X dX11_refuseToRing_5 rfl 1 rfl) ?_
      refine g1 (pc' := 7) (w_iload_n X dX11_refuseToRing_6 rfl 2 rfl) ?_
      refine g_if (pcT := 13) (pcF := 10) (w_icmp_le (tgt := 13) X dX11_refuseToRing_7 (by decide)) (fun h2 => ?_) (fun h2 => ?_)
      · refine g1 (pc' := 14) (w_aload_n X dX11_refuseToRing_13 rfl 0 rfl) ?_
        refine g1 (pc' := 17) (gt_11_0 X hk0 mw_323 dX11_refuseToRing_14) ?_
        refine g_gd (fun h3 => ?_)
        refine g1 (pc' := 20) (k_X9_stands X hR hN Z h3 mw_540 (by decide) (Nat.le_of_ble_eq_true rfl) dX11_refuseToRing_17) ?_
        refine g_if (pcT := 23) (pcF := 26) (w_if_ne (tgt := 26) X dX11_refuseToRing_20 (by decide)) (fun h4 => ?_) (fun h4 => ?_)
        · refine g1 (pc' := 25) (w_ldc (v := -1000000003) X dX11_refuseToRing_23 mw_541) ?_
          exact g_rI X dX11_refuseToRing_25
        · refine g1 (pc' := 27) (w_aload_n X dX11_refuseToRing_26 rfl 0 rfl) ?_
          refine g1 (pc' := 30) (gt_11_3 X hk0 mw_326 dX11_refuseToRing_27) ?_
          refine g1 (pc' := 33) (gt_1_1 X kd_37 mw_210 dX11_refuseToRing_30) ?_
          refine g1 (pc' := 36) (w_sipush X (9000) dX11_refuseToRing_33 (by decide)) ?_
          refine g_if (pcT := 44) (pcF := 39) (w_icmp_le (tgt := 44) X dX11_refuseToRing_36 (by decide)) (fun h5 => ?_) (fun h5 => ?_)
          · refine g1 (pc' := 45) (w_iconst X (0) dX11_refuseToRing_44 (by decide)) ?_
            exact g_rI X dX11_refuseToRing_45
          · refine g1 (pc' := 41) (w_ldc (v := -1000000004) X dX11_refuseToRing_39 mw_381) ?_
            refine g1 (pc' := 45) (w_goto X dX11_refuseToRing_41 (by decide)) ?_
            exact g_rI X dX11_refuseToRing_45
      · refine g1 (pc' := 12) (w_ldc (v := -1000000002) X dX11_refuseToRing_10 mw_376) ?_
        exact g_rI X dX11_refuseToRing_12
  exact G _ h _ rfl
theorem k_X11_refuseToRing {x : Cxt} {cc : ByteArray} {nL : Nat} {own : String} {ret : Option FieldType} (X : Ok x cc nL own ret) {d : Nat} (hR : Rm x d KDF) (hN : Nst x) (Z : xz x = 0) {pc : Nat} {lv : List (Nat × Value)} {rest : List Value} {M : Mm} {o0 : Nat} {x1 : Int32} {x2 : Int32} (hk0 : KDF[o0]? = some (11, 0)) {idx : Nat} (hw : Cond.methodLink own idx yX11_refuseToRing ∈ tbG) (hdd : 2 + 1 ≤ d) (hrm : (rest.map fun v => v.category).sum ≤ 8) (hd : decode cc pc = .ok (.invokevirtual idx, 3)) {r : Int32} (h : f_X11_refuseToRing o0 x1 x2 M = some r) : StpZ x nL pc lv (.int x2 :: .int x1 :: .ref (xb x + o0) :: rest) KDF M (pc + 3) lv (.int r :: rest) KDF M :=
  w_callV (st := []) (As := [.int x1, .int x2]) X hR hN (CtX0 Z (c_X11_refuseToRing hk0 h)) ⟨Nat.le_refl _, Nat.le_refl _⟩ ⟨Nat.le_refl _, Nat.le_refl _⟩ hk0 (ci := 11) (fs := fs_11 o0) (fun _ _ _ => rfl) rfl hw mw_596 mw_8 mw_61 mw_597 (n := 2) (by decide +kernel) rfl hdd (by decide) hrm hd
def b_X11_ring_28 (o0 : Nat) (x1 : Int32) (s28 : Int32 × Mm) : Option ((Int32 × Mm) ⊕ (Mm)) :=
  (if x1 ≤ s28.1 then some (.inr s28.2) else Gd (KDF[(s28.2 o0 0).toNatClampNeg]? = some (9, 0)) (Bd (f_X1_ringNext 37 (s28.2 o0 0).toNatClampNeg s28.2) (fun r6 => Lt (s28.1 + (1 : Int32)) (fun v7 => some (.inl (v7, r6))))))
def f_X11_ring (o0 : Nat) (x1 : Int32) (M : Mm) : Option (Int32 × Mm) :=
  Bd (f_X11_refuseToRing o0 x1 (200 : Int32) M) (fun r1 => (if r1 = 0 then Bd (f_X3_remember 41 37 M) (fun r3 => Bd (Lp (b_X11_ring_28 o0 x1) 100000 ((0 : Int32), r3)) (fun e8 => Bd (f_X11_figuresNow o0 e8) (fun r9 => some (r9, e8)))) else some (r1, M)))
set_option maxRecDepth 100000 in
set_option maxHeartbeats 4000000 in
theorem c_X11_ring {l : Launch} {D : va_G} {an : An} {b : Nat} {o0 : Nat} {x1 : Int32} (hk0 : KDF[o0]? = some (11, 0)) {M : Mm} {r : Int32} {M' : Mm} (h : f_X11_ring o0 x1 M = some (r, M')) : Ct l D an b 0 yX11_ring cX11_ring 4 (some .int) 6 [.ref (b + o0), .int x1] KDF M (some (.int r)) KDF M' := by
  refine CtX.mk (as := fun b => [.ref (b + o0), .int x1]) (rv := fun b => (some (.int r))) (by decide) (fun b => Nat.le_of_ble_eq_true rfl) ⟨Nat.le_refl _, Nat.le_refl _⟩ (fun x X hR Z hN _ _ => ?_)
  have X : Ok x cX11_ring 4 RX11 (some .int) := X
  have G : Gz x 4 0 [(0, .ref (xb x + o0)), (1, .int x1)] [] KDF M (f_X11_ring o0 x1 M) (PsI2 x KDF) := by
    unfold f_X11_ring
    refine g1 (pc' := 1) (w_aload_n X dX11_ring_0 rfl 0 rfl) ?_
    refine g1 (pc' := 2) (w_iload_n X dX11_ring_1 rfl 1 rfl) ?_
    refine g1 (pc' := 5) (w_sipush X (200) dX11_ring_2 (by decide)) ?_
    refine g_bd (pc' := 8) (fun r1 => [(0, .ref (xb x + o0)), (1, .int x1)]) (fun r1 => [.int r1]) (fun r1 => M) (fun r1 h => k_X11_refuseToRing X hR hN Z hk0 mw_594 (by decide) (Nat.le_of_ble_eq_true rfl) dX11_ring_5 h) (fun r1 => ?_)
    show Gz x 4 8 [(0, .ref (xb x + o0)), (1, .int x1)] [.int r1] KDF M _ _
    refine g1 (pc' := 9) (lv' := [(2, .int r1), (0, .ref (xb x + o0)), (1, .int x1)]) (w_istore_n X dX11_ring_8 rfl (by decide) rfl) ?_
    refine g1 (pc' := 10) (w_iload_n X dX11_ring_9 rfl 0 rfl) ?_
    refine g_if (pcT := 15) (pcF := 13) (w_if_eq (tgt := 15) X dX11_ring_10 (by decide)) (fun h2 => ?_) (fun h2 => ?_)
    · refine g1 (pc' := 16) (w_aload_n X dX11_ring_15 rfl 1 rfl) ?_
      refine g1 (pc' := 19) (gt_11_4 X hk0 mw_327 dX11_ring_16) ?_
      refine g1 (pc' := 20) (w_aload_n X dX11_ring_19 rfl 1 rfl) ?_
      refine g1 (pc' := 23) (gt_11_3 X hk0 mw_326 dX11_ring_20) ?_
      refine g_bd (pc' := 26) (fun r3 => [(2, .int r1), (0, .ref (xb x + o0)), (1, .int x1)]) (fun r3 => []) (fun r3 => r3) (fun r3 h => k_X3_remember X hR hN Z kd_41 kd_37 mw_598 (by decide) (Nat.le_of_ble_eq_true rfl) dX11_ring_23 h) (fun r3 => ?_)
      show Gz x 4 26 [(2, .int r1), (0, .ref (xb x + o0)), (1, .int x1)] [] KDF r3 _ _
      refine g1 (pc' := 27) (w_iconst X (0) dX11_ring_26 (by decide)) ?_
      refine g1 (pc' := 28) (lv' := [(3, .int (0 : Int32)), (2, .int r1), (0, .ref (xb x + o0)), (1, .int x1)]) (w_istore_n X dX11_ring_27 rfl (by decide) rfl) ?_
      refine g_pick (lv' := [(0, .ref (xb x + o0)), (1, .int x1), (3, .int (0 : Int32))]) [2, 3, 0] rfl ?_
      refine g_bdJ (J := 50) (fun e8 => [(0, .ref (xb x + o0))]) (fun e8 => []) (fun e8 => e8) (g_lp (fun s28 => [(0, .ref (xb x + o0)), (1, .int x1), (3, .int s28.1)]) (fun s28 => s28.2) (fun s28 => ?_) 100000 ((0 : Int32), r3)) (fun e8 => ?_)
      · show Gz x 4 28 [(0, .ref (xb x + o0)), (1, .int x1), (3, .int s28.1)] [] KDF s28.2 (b_X11_ring_28 o0 x1 s28) _
        unfold b_X11_ring_28
        refine g1 (pc' := 29) (w_iload_n X dX11_ring_28 rfl 2 rfl) ?_
        refine g1 (pc' := 30) (w_iload_n X dX11_ring_29 rfl 1 rfl) ?_
        refine g_if (pcT := 50) (pcF := 33) (w_icmp_ge (tgt := 50) X dX11_ring_30 (by decide)) (fun h4 => ?_) (fun h4 => ?_)
        · refine g_inr ?_
          exact g_end [0] rfl rfl rfl
        · refine g1 (pc' := 34) (w_aload_n X dX11_ring_33 rfl 0 rfl) ?_
          refine g1 (pc' := 37) (gt_11_3 X hk0 mw_326 dX11_ring_34) ?_
          refine g1 (pc' := 38) (w_aload_n X dX11_ring_37 rfl 0 rfl) ?_
          refine g1 (pc' := 41) (gt_11_0 X hk0 mw_323 dX11_ring_38) ?_
          refine g_gd (fun h5 => ?_)
          refine g_bd (pc' := 44) (fun r6 => [(0, .ref (xb x + o0)), (1, .int x1), (3, .int s28.1)]) (fun r6 => []) (fun r6 => r6) (fun r6 h => k_X1_ringNext X hR hN Z kd_37 h5 mw_619 (by decide) (Nat.le_of_ble_eq_true rfl) dX11_ring_41 h) (fun r6 => ?_)
          show Gz x 4 44 [(0, .ref (xb x + o0)), (1, .int x1), (3, .int s28.1)] [] KDF r6 _ _
          refine g_lt (pc' := 47) (fun v7 => [(3, .int v7), (0, .ref (xb x + o0)), (1, .int x1)]) (fun v7 => []) (fun v7 => r6) (w_iinc X dX11_ring_44 2 rfl rfl (by decide) rfl) (fun v7 => ?_)
          show Gz x 4 47 [(3, .int v7), (0, .ref (xb x + o0)), (1, .int x1)] [] KDF r6 _ _
          refine g1 (pc' := 28) (w_goto X dX11_ring_47 (by decide)) ?_
          refine g_inl ?_
          exact g_end [1, 2, 0] rfl rfl rfl
      · show Gz x 4 50 [(0, .ref (xb x + o0))] [] KDF e8 _ _
        refine g1 (pc' := 51) (w_aload_n X dX11_ring_50 rfl 0 rfl) ?_
        refine g_bd (pc' := 54) (fun r9 => [(0, .ref (xb x + o0))]) (fun r9 => [.int r9]) (fun r9 => e8) (fun r9 h => k_X11_figuresNow X hR hN Z hk0 mw_508 (by decide) (Nat.le_of_ble_eq_true rfl) dX11_ring_51 h) (fun r9 => ?_)
        show Gz x 4 54 [(0, .ref (xb x + o0))] [.int r9] KDF e8 _ _
        exact g_rI2 X dX11_ring_54
    · refine g1 (pc' := 14) (w_iload_n X dX11_ring_13 rfl 0 rfl) ?_
      exact g_rI2 X dX11_ring_14
  exact G _ h _ rfl
theorem k_X11_ring {x : Cxt} {cc : ByteArray} {nL : Nat} {own : String} {ret : Option FieldType} (X : Ok x cc nL own ret) {d : Nat} (hR : Rm x d KDF) (hN : Nst x) (Z : xz x = 0) {pc : Nat} {lv : List (Nat × Value)} {rest : List Value} {M : Mm} {o0 : Nat} {x1 : Int32} (hk0 : KDF[o0]? = some (11, 0)) {idx : Nat} (hw : Cond.methodLink own idx yX11_ring ∈ tbG) (hdd : 6 + 1 ≤ d) (hrm : (rest.map fun v => v.category).sum ≤ 8) (hd : decode cc pc = .ok (.invokevirtual idx, 3)) {r : Int32} {M' : Mm} (h : f_X11_ring o0 x1 M = some (r, M')) : StpZ x nL pc lv (.int x1 :: .ref (xb x + o0) :: rest) KDF M (pc + 3) lv (.int r :: rest) KDF M' :=
  w_callV (st := []) (As := [.int x1]) X hR hN (CtX0 Z (c_X11_ring hk0 h)) ⟨Nat.le_refl _, Nat.le_refl _⟩ ⟨Nat.le_refl _, Nat.le_refl _⟩ hk0 (ci := 11) (fs := fs_11 o0) (fun _ _ _ => rfl) rfl hw mw_591 mw_592 mw_61 mw_593 (n := 1) (by decide +kernel) rfl hdd (by decide) hrm hd
def f_X11_call (o0 : Nat) (M : Mm) : Option (Int32 × Mm) :=
  Gd (KDF[(M o0 0).toNatClampNeg]? = some (9, 0)) ((if (f_X9_stands (M o0 0).toNatClampNeg M) = 0 then some ((-1000000003 : Int32), M) else (if (M (37 + 1) 2) = 0 then Bd (f_X3_remember 41 37 M) (fun r4 => Lt (st2 r4 (37 + 1) 2 (1 : Int32)) (fun M5 => some ((M5 (37 + 1) 1), M5))) else some ((-1000000003 : Int32), M))))
set_option maxRecDepth 100000 in
set_option maxHeartbeats 4000000 in
theorem c_X11_call {l : Launch} {D : va_G} {an : An} {b : Nat} {o0 : Nat} (hk0 : KDF[o0]? = some (11, 0)) {M : Mm} {r : Int32} {M' : Mm} (h : f_X11_call o0 M = some (r, M')) : Ct l D an b 0 yX11_call cX11_call 1 (some .int) 4 [.ref (b + o0)] KDF M (some (.int r)) KDF M' := by
  refine CtX.mk (as := fun b => [.ref (b + o0)]) (rv := fun b => (some (.int r))) (by decide) (fun b => Nat.le_of_ble_eq_true rfl) ⟨Nat.le_refl _, Nat.le_refl _⟩ (fun x X hR Z hN _ _ => ?_)
  have X : Ok x cX11_call 1 RX11 (some .int) := X
  have G : Gz x 1 0 [(0, .ref (xb x + o0))] [] KDF M (f_X11_call o0 M) (PsI2 x KDF) := by
    unfold f_X11_call
    refine g1 (pc' := 1) (w_aload_n X dX11_call_0 rfl 0 rfl) ?_
    refine g1 (pc' := 4) (gt_11_0 X hk0 mw_323 dX11_call_1) ?_
    refine g_gd (fun h1 => ?_)
    refine g1 (pc' := 7) (k_X9_stands X hR hN Z h1 mw_540 (by decide) (Nat.le_of_ble_eq_true rfl) dX11_call_4) ?_
    refine g_if (pcT := 23) (pcF := 10) (w_if_eq (tgt := 23) X dX11_call_7 (by decide)) (fun h2 => ?_) (fun h2 => ?_)
    · refine g1 (pc' := 25) (w_ldc (v := -1000000003) X dX11_call_23 mw_541) ?_
      exact g_rI2 X dX11_call_25
    · refine g1 (pc' := 11) (w_aload_n X dX11_call_10 rfl 0 rfl) ?_
      refine g1 (pc' := 14) (gt_11_3 X hk0 mw_326 dX11_call_11) ?_
      refine g1 (pc' := 17) (gt_1_0 X kd_37 mw_208 dX11_call_14) ?_
      refine g1 (pc' := 20) (gt_10_2 X (kd_Ev1 kd_37) mw_199 dX11_call_17) ?_
      refine g_if (pcT := 26) (pcF := 23) (w_if_eq (tgt := 26) X dX11_call_20 (by decide)) (fun h3 => ?_) (fun h3 => ?_)
      · refine g1 (pc' := 27) (w_aload_n X dX11_call_26 rfl 0 rfl) ?_
        refine g1 (pc' := 30) (gt_11_4 X hk0 mw_327 dX11_call_27) ?_
        refine g1 (pc' := 31) (w_aload_n X dX11_call_30 rfl 0 rfl) ?_
        refine g1 (pc' := 34) (gt_11_3 X hk0 mw_326 dX11_call_31) ?_
        refine g_bd (pc' := 37) (fun r4 => [(0, .ref (xb x + o0))]) (fun r4 => []) (fun r4 => r4) (fun r4 h => k_X3_remember X hR hN Z kd_41 kd_37 mw_598 (by decide) (Nat.le_of_ble_eq_true rfl) dX11_call_34 h) (fun r4 => ?_)
        show Gz x 1 37 [(0, .ref (xb x + o0))] [] KDF r4 _ _
        refine g1 (pc' := 38) (w_aload_n X dX11_call_37 rfl 0 rfl) ?_
        refine g1 (pc' := 41) (gt_11_3 X hk0 mw_326 dX11_call_38) ?_
        refine g1 (pc' := 44) (gt_1_0 X kd_37 mw_208 dX11_call_41) ?_
        refine g1 (pc' := 45) (w_iconst X (1) dX11_call_44 (by decide)) ?_
        refine g_lt (pc' := 48) (fun M5 => [(0, .ref (xb x + o0))]) (fun M5 => []) (fun M5 => M5) (pt_10_2 X Z (kd_Ev1 kd_37) zb1 mw_199 dX11_call_45) (fun M5 => ?_)
        show Gz x 1 48 [(0, .ref (xb x + o0))] [] KDF M5 _ _
        refine g1 (pc' := 49) (w_aload_n X dX11_call_48 rfl 0 rfl) ?_
        refine g1 (pc' := 52) (gt_11_3 X hk0 mw_326 dX11_call_49) ?_
        refine g1 (pc' := 55) (gt_1_0 X kd_37 mw_208 dX11_call_52) ?_
        refine g1 (pc' := 58) (gt_10_1 X (kd_Ev1 kd_37) mw_197 dX11_call_55) ?_
        exact g_rI2 X dX11_call_58
      · refine g1 (pc' := 25) (w_ldc (v := -1000000003) X dX11_call_23 mw_541) ?_
        exact g_rI2 X dX11_call_25
  exact G _ h _ rfl
theorem k_X11_call {x : Cxt} {cc : ByteArray} {nL : Nat} {own : String} {ret : Option FieldType} (X : Ok x cc nL own ret) {d : Nat} (hR : Rm x d KDF) (hN : Nst x) (Z : xz x = 0) {pc : Nat} {lv : List (Nat × Value)} {rest : List Value} {M : Mm} {o0 : Nat} (hk0 : KDF[o0]? = some (11, 0)) {idx : Nat} (hw : Cond.methodLink own idx yX11_call ∈ tbG) (hdd : 4 + 1 ≤ d) (hrm : (rest.map fun v => v.category).sum ≤ 8) (hd : decode cc pc = .ok (.invokevirtual idx, 3)) {r : Int32} {M' : Mm} (h : f_X11_call o0 M = some (r, M')) : StpZ x nL pc lv (.ref (xb x + o0) :: rest) KDF M (pc + 3) lv (.int r :: rest) KDF M' :=
  w_callV (st := []) (As := []) X hR hN (CtX0 Z (c_X11_call hk0 h)) ⟨Nat.le_refl _, Nat.le_refl _⟩ ⟨Nat.le_refl _, Nat.le_refl _⟩ hk0 (ci := 11) (fs := fs_11 o0) (fun _ _ _ => rfl) rfl hw mw_661 mw_662 mw_61 mw_663 (n := 0) (by decide +kernel) rfl hdd (by decide) hrm hd
def f_X11_swap (o0 : Nat) (x1 : Int32) (x2 : Int32) (M : Mm) : Option (Int32 × Mm) :=
  Gd (KDF[(M o0 0).toNatClampNeg]? = some (9, 0)) ((if (f_X9_hasSuitor (M o0 0).toNatClampNeg x1 M) = 0 then some ((-1000000001 : Int32), M) else Gd (KDF[(M o0 0).toNatClampNeg]? = some (9, 0)) ((if (f_X9_hasSuitor (M o0 0).toNatClampNeg x2 M) = 0 then some ((-1000000001 : Int32), M) else (if x1 = x2 then some ((-1000000001 : Int32), M) else Bd (f_X3_remember 41 37 M) (fun r6 => Bd (f_X1_changeRopes 37 x1 x2 r6) (fun r7 => Bd (f_X1_ropeOf 37 x1 r7) (fun r8 => some (r8, r7)))))))))
set_option maxRecDepth 100000 in
set_option maxHeartbeats 4000000 in
theorem c_X11_swap {l : Launch} {D : va_G} {an : An} {b : Nat} {o0 : Nat} {x1 : Int32} {x2 : Int32} (hk0 : KDF[o0]? = some (11, 0)) {M : Mm} {r : Int32} {M' : Mm} (h : f_X11_swap o0 x1 x2 M = some (r, M')) : Ct l D an b 0 yX11_swap cX11_swap 3 (some .int) 4 [.ref (b + o0), .int x1, .int x2] KDF M (some (.int r)) KDF M' := by
  refine CtX.mk (as := fun b => [.ref (b + o0), .int x1, .int x2]) (rv := fun b => (some (.int r))) (by decide) (fun b => Nat.le_of_ble_eq_true rfl) ⟨Nat.le_refl _, Nat.le_refl _⟩ (fun x X hR Z hN _ _ => ?_)
  have X : Ok x cX11_swap 3 RX11 (some .int) := X
  have G : Gz x 3 0 [(0, .ref (xb x + o0)), (1, .int x1), (2, .int x2)] [] KDF M (f_X11_swap o0 x1 x2 M) (PsI2 x KDF) := by
    unfold f_X11_swap
    refine g1 (pc' := 1) (w_aload_n X dX11_swap_0 rfl 0 rfl) ?_
    refine g1 (pc' := 4) (gt_11_0 X hk0 mw_323 dX11_swap_1) ?_
    refine g_gd (fun h1 => ?_)
    refine g1 (pc' := 5) (w_iload_n X dX11_swap_4 rfl 1 rfl) ?_
    refine g1 (pc' := 8) (k_X9_hasSuitor X hR hN Z h1 mw_575 (by decide) (Nat.le_of_ble_eq_true rfl) dX11_swap_5) ?_
    refine g_if (pcT := 27) (pcF := 11) (w_if_eq (tgt := 27) X dX11_swap_8 (by decide)) (fun h2 => ?_) (fun h2 => ?_)
    · refine g1 (pc' := 29) (w_ldc (v := -1000000001) X dX11_swap_27 mw_554) ?_
      exact g_rI2 X dX11_swap_29
    · refine g1 (pc' := 12) (w_aload_n X dX11_swap_11 rfl 0 rfl) ?_
      refine g1 (pc' := 15) (gt_11_0 X hk0 mw_323 dX11_swap_12) ?_
      refine g_gd (fun h3 => ?_)
      refine g1 (pc' := 16) (w_iload_n X dX11_swap_15 rfl 2 rfl) ?_
      refine g1 (pc' := 19) (k_X9_hasSuitor X hR hN Z h3 mw_575 (by decide) (Nat.le_of_ble_eq_true rfl) dX11_swap_16) ?_
      refine g_if (pcT := 27) (pcF := 22) (w_if_eq (tgt := 27) X dX11_swap_19 (by decide)) (fun h4 => ?_) (fun h4 => ?_)
      · refine g1 (pc' := 29) (w_ldc (v := -1000000001) X dX11_swap_27 mw_554) ?_
        exact g_rI2 X dX11_swap_29
      · refine g1 (pc' := 23) (w_iload_n X dX11_swap_22 rfl 1 rfl) ?_
        refine g1 (pc' := 24) (w_iload_n X dX11_swap_23 rfl 2 rfl) ?_
        refine g_if (pcT := 27) (pcF := 30) (w_icmp_ne (tgt := 30) X dX11_swap_24 (by decide)) (fun h5 => ?_) (fun h5 => ?_)
        · refine g1 (pc' := 29) (w_ldc (v := -1000000001) X dX11_swap_27 mw_554) ?_
          exact g_rI2 X dX11_swap_29
        · refine g1 (pc' := 31) (w_aload_n X dX11_swap_30 rfl 0 rfl) ?_
          refine g1 (pc' := 34) (gt_11_4 X hk0 mw_327 dX11_swap_31) ?_
          refine g1 (pc' := 35) (w_aload_n X dX11_swap_34 rfl 0 rfl) ?_
          refine g1 (pc' := 38) (gt_11_3 X hk0 mw_326 dX11_swap_35) ?_
          refine g_bd (pc' := 41) (fun r6 => [(0, .ref (xb x + o0)), (1, .int x1), (2, .int x2)]) (fun r6 => []) (fun r6 => r6) (fun r6 h => k_X3_remember X hR hN Z kd_41 kd_37 mw_598 (by decide) (Nat.le_of_ble_eq_true rfl) dX11_swap_38 h) (fun r6 => ?_)
          show Gz x 3 41 [(0, .ref (xb x + o0)), (1, .int x1), (2, .int x2)] [] KDF r6 _ _
          refine g1 (pc' := 42) (w_aload_n X dX11_swap_41 rfl 0 rfl) ?_
          refine g1 (pc' := 45) (gt_11_3 X hk0 mw_326 dX11_swap_42) ?_
          refine g1 (pc' := 46) (w_iload_n X dX11_swap_45 rfl 1 rfl) ?_
          refine g1 (pc' := 47) (w_iload_n X dX11_swap_46 rfl 2 rfl) ?_
          refine g_bd (pc' := 50) (fun r7 => [(0, .ref (xb x + o0)), (1, .int x1), (2, .int x2)]) (fun r7 => []) (fun r7 => r7) (fun r7 h => k_X1_changeRopes X hR hN Z kd_37 mw_668 (by decide) (Nat.le_of_ble_eq_true rfl) dX11_swap_47 h) (fun r7 => ?_)
          show Gz x 3 50 [(0, .ref (xb x + o0)), (1, .int x1), (2, .int x2)] [] KDF r7 _ _
          refine g1 (pc' := 51) (w_aload_n X dX11_swap_50 rfl 0 rfl) ?_
          refine g1 (pc' := 54) (gt_11_3 X hk0 mw_326 dX11_swap_51) ?_
          refine g1 (pc' := 55) (w_iload_n X dX11_swap_54 rfl 1 rfl) ?_
          refine g_bd (pc' := 58) (fun r8 => [(0, .ref (xb x + o0)), (1, .int x1), (2, .int x2)]) (fun r8 => [.int r8]) (fun r8 => r7) (fun r8 h => k_X1_ropeOf X hR hN Z kd_37 mw_584 (by decide) (Nat.le_of_ble_eq_true rfl) dX11_swap_55 h) (fun r8 => ?_)
          show Gz x 3 58 [(0, .ref (xb x + o0)), (1, .int x1), (2, .int x2)] [.int r8] KDF r7 _ _
          exact g_rI2 X dX11_swap_58
  exact G _ h _ rfl
theorem k_X11_swap {x : Cxt} {cc : ByteArray} {nL : Nat} {own : String} {ret : Option FieldType} (X : Ok x cc nL own ret) {d : Nat} (hR : Rm x d KDF) (hN : Nst x) (Z : xz x = 0) {pc : Nat} {lv : List (Nat × Value)} {rest : List Value} {M : Mm} {o0 : Nat} {x1 : Int32} {x2 : Int32} (hk0 : KDF[o0]? = some (11, 0)) {idx : Nat} (hw : Cond.methodLink own idx yX11_swap ∈ tbG) (hdd : 4 + 1 ≤ d) (hrm : (rest.map fun v => v.category).sum ≤ 8) (hd : decode cc pc = .ok (.invokevirtual idx, 3)) {r : Int32} {M' : Mm} (h : f_X11_swap o0 x1 x2 M = some (r, M')) : StpZ x nL pc lv (.int x2 :: .int x1 :: .ref (xb x + o0) :: rest) KDF M (pc + 3) lv (.int r :: rest) KDF M' :=
  w_callV (st := []) (As := [.int x1, .int x2]) X hR hN (CtX0 Z (c_X11_swap hk0 h)) ⟨Nat.le_refl _, Nat.le_refl _⟩ ⟨Nat.le_refl _, Nat.le_refl _⟩ hk0 (ci := 11) (fs := fs_11 o0) (fun _ _ _ => rfl) rfl hw mw_665 mw_666 mw_61 mw_667 (n := 2) (by decide +kernel) rfl hdd (by decide) hrm hd
def f_X11_stand (o0 : Nat) (M : Mm) : Option (Int32 × Mm) :=
  Gd (KDF[(M o0 0).toNatClampNeg]? = some (9, 0)) ((if (f_X9_stands (M o0 0).toNatClampNeg M) = 0 then some ((-1000000003 : Int32), M) else Bd (f_X11_figuresNow o0 M) (fun r3 => Bd (f_X3_remember 41 37 M) (fun r4 => Gd (KDF[(r4 o0 0).toNatClampNeg]? = some (9, 0)) (Bd (f_X1_standAgain 37 (r4 o0 0).toNatClampNeg r4) (fun r6 => some (r3, r6)))))))
set_option maxRecDepth 100000 in
set_option maxHeartbeats 4000000 in
theorem c_X11_stand {l : Launch} {D : va_G} {an : An} {b : Nat} {o0 : Nat} (hk0 : KDF[o0]? = some (11, 0)) {M : Mm} {r : Int32} {M' : Mm} (h : f_X11_stand o0 M = some (r, M')) : Ct l D an b 0 yX11_stand cX11_stand 2 (some .int) 4 [.ref (b + o0)] KDF M (some (.int r)) KDF M' := by
  refine CtX.mk (as := fun b => [.ref (b + o0)]) (rv := fun b => (some (.int r))) (by decide) (fun b => Nat.le_of_ble_eq_true rfl) ⟨Nat.le_refl _, Nat.le_refl _⟩ (fun x X hR Z hN _ _ => ?_)
  have X : Ok x cX11_stand 2 RX11 (some .int) := X
  have G : Gz x 2 0 [(0, .ref (xb x + o0))] [] KDF M (f_X11_stand o0 M) (PsI2 x KDF) := by
    unfold f_X11_stand
    refine g1 (pc' := 1) (w_aload_n X dX11_stand_0 rfl 0 rfl) ?_
    refine g1 (pc' := 4) (gt_11_0 X hk0 mw_323 dX11_stand_1) ?_
    refine g_gd (fun h1 => ?_)
    refine g1 (pc' := 7) (k_X9_stands X hR hN Z h1 mw_540 (by decide) (Nat.le_of_ble_eq_true rfl) dX11_stand_4) ?_
    refine g_if (pcT := 10) (pcF := 13) (w_if_ne (tgt := 13) X dX11_stand_7 (by decide)) (fun h2 => ?_) (fun h2 => ?_)
    · refine g1 (pc' := 12) (w_ldc (v := -1000000003) X dX11_stand_10 mw_541) ?_
      exact g_rI2 X dX11_stand_12
    · refine g1 (pc' := 14) (w_aload_n X dX11_stand_13 rfl 0 rfl) ?_
      refine g_bd (pc' := 17) (fun r3 => [(0, .ref (xb x + o0))]) (fun r3 => [.int r3]) (fun r3 => M) (fun r3 h => k_X11_figuresNow X hR hN Z hk0 mw_508 (by decide) (Nat.le_of_ble_eq_true rfl) dX11_stand_14 h) (fun r3 => ?_)
      show Gz x 2 17 [(0, .ref (xb x + o0))] [.int r3] KDF M _ _
      refine g1 (pc' := 18) (lv' := [(1, .int r3), (0, .ref (xb x + o0))]) (w_istore_n X dX11_stand_17 rfl (by decide) rfl) ?_
      refine g1 (pc' := 19) (w_aload_n X dX11_stand_18 rfl 1 rfl) ?_
      refine g1 (pc' := 22) (gt_11_4 X hk0 mw_327 dX11_stand_19) ?_
      refine g1 (pc' := 23) (w_aload_n X dX11_stand_22 rfl 1 rfl) ?_
      refine g1 (pc' := 26) (gt_11_3 X hk0 mw_326 dX11_stand_23) ?_
      refine g_bd (pc' := 29) (fun r4 => [(1, .int r3), (0, .ref (xb x + o0))]) (fun r4 => []) (fun r4 => r4) (fun r4 h => k_X3_remember X hR hN Z kd_41 kd_37 mw_598 (by decide) (Nat.le_of_ble_eq_true rfl) dX11_stand_26 h) (fun r4 => ?_)
      show Gz x 2 29 [(1, .int r3), (0, .ref (xb x + o0))] [] KDF r4 _ _
      refine g1 (pc' := 30) (w_aload_n X dX11_stand_29 rfl 1 rfl) ?_
      refine g1 (pc' := 33) (gt_11_3 X hk0 mw_326 dX11_stand_30) ?_
      refine g1 (pc' := 34) (w_aload_n X dX11_stand_33 rfl 1 rfl) ?_
      refine g1 (pc' := 37) (gt_11_0 X hk0 mw_323 dX11_stand_34) ?_
      refine g_gd (fun h5 => ?_)
      refine g_bd (pc' := 40) (fun r6 => [(1, .int r3), (0, .ref (xb x + o0))]) (fun r6 => []) (fun r6 => r6) (fun r6 h => k_X1_standAgain X hR hN Z kd_37 h5 mw_676 (by decide) (Nat.le_of_ble_eq_true rfl) dX11_stand_37 h) (fun r6 => ?_)
      show Gz x 2 40 [(1, .int r3), (0, .ref (xb x + o0))] [] KDF r6 _ _
      refine g1 (pc' := 41) (w_iload_n X dX11_stand_40 rfl 0 rfl) ?_
      exact g_rI2 X dX11_stand_41
  exact G _ h _ rfl
theorem k_X11_stand {x : Cxt} {cc : ByteArray} {nL : Nat} {own : String} {ret : Option FieldType} (X : Ok x cc nL own ret) {d : Nat} (hR : Rm x d KDF) (hN : Nst x) (Z : xz x = 0) {pc : Nat} {lv : List (Nat × Value)} {rest : List Value} {M : Mm} {o0 : Nat} (hk0 : KDF[o0]? = some (11, 0)) {idx : Nat} (hw : Cond.methodLink own idx yX11_stand ∈ tbG) (hdd : 4 + 1 ≤ d) (hrm : (rest.map fun v => v.category).sum ≤ 8) (hd : decode cc pc = .ok (.invokevirtual idx, 3)) {r : Int32} {M' : Mm} (h : f_X11_stand o0 M = some (r, M')) : StpZ x nL pc lv (.ref (xb x + o0) :: rest) KDF M (pc + 3) lv (.int r :: rest) KDF M' :=
  w_callV (st := []) (As := []) X hR hN (CtX0 Z (c_X11_stand hk0 h)) ⟨Nat.le_refl _, Nat.le_refl _⟩ ⟨Nat.le_refl _, Nat.le_refl _⟩ hk0 (ci := 11) (fs := fs_11 o0) (fun _ _ _ => rfl) rfl hw mw_673 mw_674 mw_61 mw_675 (n := 0) (by decide +kernel) rfl hdd (by decide) hrm hd
