def f_X7_letterHere (o0 : Nat) (M : Mm) : Option (Int32) :=
  (if (M o0 4) < 0 then some (-1 : Int32) else (if (M o0 0) ≤ (M o0 4) then some (-1 : Int32) else (if (240 : Int32) ≤ (M o0 4) then some (-1 : Int32) else Gd (ib (M o0 4) 240) (some (M 36 (ix (M o0 4)))))))
set_option maxRecDepth 100000 in
set_option maxHeartbeats 4000000 in
theorem c_X7_letterHere {l : Launch} {D : va_G} {an : An} {b : Nat} {o0 : Nat} (hk0 : KDF[o0]? = some (7, 0)) {M : Mm} {r : Int32} (h : f_X7_letterHere o0 M = some r) : Ct l D an b 0 yX7_letterHere cX7_letterHere 1 (some .int) 1 [.ref (b + o0)] KDF M (some (.int r)) KDF M := by
  refine CtX.mk (as := fun b => [.ref (b + o0)]) (rv := fun b => (some (.int r))) (by decide) (fun b => Nat.le_of_ble_eq_true rfl) ⟨Nat.le_refl _, Nat.le_refl _⟩ (fun x X hR Z hN _ _ => ?_)
  have X : Ok x cX7_letterHere 1 RX7 (some .int) := X
  have G : Gz x 1 0 [(0, .ref (xb x + o0))] [] KDF M (f_X7_letterHere o0 M) (PsI x KDF M) := by
    unfold f_X7_letterHere
    refine g1 (pc' := 1) (w_aload_n X dX7_letterHere_0 rfl 0 rfl) ?_
    refine g1 (pc' := 4) (gt_7_4 X hk0 mw_169 dX7_letterHere_1) ?_
    refine g_if (pcT := 40) (pcF := 7) (w_if_lt (tgt := 40) X dX7_letterHere_4 (by decide)) (fun h1 => ?_) (fun h1 => ?_)
    · refine g1 (pc' := 41) (w_iconst X (-1) dX7_letterHere_40 (by decide)) ?_
      exact g_rI X dX7_letterHere_41
    · refine g1 (pc' := 8) (w_aload_n X dX7_letterHere_7 rfl 0 rfl) ?_
      refine g1 (pc' := 11) (gt_7_4 X hk0 mw_169 dX7_letterHere_8) ?_
      refine g1 (pc' := 12) (w_aload_n X dX7_letterHere_11 rfl 0 rfl) ?_
      refine g1 (pc' := 15) (gt_7_0 X hk0 mw_163 dX7_letterHere_12) ?_
      refine g_if (pcT := 40) (pcF := 18) (w_icmp_ge (tgt := 40) X dX7_letterHere_15 (by decide)) (fun h2 => ?_) (fun h2 => ?_)
      · refine g1 (pc' := 41) (w_iconst X (-1) dX7_letterHere_40 (by decide)) ?_
        exact g_rI X dX7_letterHere_41
      · refine g1 (pc' := 19) (w_aload_n X dX7_letterHere_18 rfl 0 rfl) ?_
        refine g1 (pc' := 22) (gt_7_4 X hk0 mw_169 dX7_letterHere_19) ?_
        refine g1 (pc' := 25) (w_sipush X (240) dX7_letterHere_22 (by decide)) ?_
        refine g_if (pcT := 40) (pcF := 28) (w_icmp_ge (tgt := 40) X dX7_letterHere_25 (by decide)) (fun h3 => ?_) (fun h3 => ?_)
        · refine g1 (pc' := 41) (w_iconst X (-1) dX7_letterHere_40 (by decide)) ?_
          exact g_rI X dX7_letterHere_41
        · refine g1 (pc' := 29) (w_aload_n X dX7_letterHere_28 rfl 0 rfl) ?_
          refine g1 (pc' := 32) (gt_7_2 X hk0 mw_167 dX7_letterHere_29) ?_
          refine g1 (pc' := 33) (w_aload_n X dX7_letterHere_32 rfl 0 rfl) ?_
          refine g1 (pc' := 36) (gt_7_4 X hk0 mw_169 dX7_letterHere_33) ?_
          refine g_gd (fun h4 => ?_)
          refine g1 (pc' := 37) (w_iald X kd_36 h4 dX7_letterHere_36) ?_
          refine g1 (pc' := 41) (w_goto X dX7_letterHere_37 (by decide)) ?_
          exact g_rI X dX7_letterHere_41
  exact G _ h _ rfl
theorem k_X7_letterHere {x : Cxt} {cc : ByteArray} {nL : Nat} {own : String} {ret : Option FieldType} (X : Ok x cc nL own ret) {d : Nat} (hR : Rm x d KDF) (hN : Nst x) (Z : xz x = 0) {pc : Nat} {lv : List (Nat × Value)} {rest : List Value} {M : Mm} {o0 : Nat} (hk0 : KDF[o0]? = some (7, 0)) {idx : Nat} (hw : Cond.methodLink own idx yX7_letterHere ∈ tbG) (hdd : 1 + 1 ≤ d) (hrm : (rest.map fun v => v.category).sum ≤ 8) (hd : decode cc pc = .ok (.invokevirtual idx, 3)) {r : Int32} (h : f_X7_letterHere o0 M = some r) : StpZ x nL pc lv (.ref (xb x + o0) :: rest) KDF M (pc + 3) lv (.int r :: rest) KDF M :=
  w_callV (st := []) (As := []) X hR hN (CtX0 Z (c_X7_letterHere hk0 h)) ⟨Nat.le_refl _, Nat.le_refl _⟩ ⟨Nat.le_refl _, Nat.le_refl _⟩ hk0 (ci := 7) (fs := fs_7 o0) (fun _ _ _ => rfl) rfl hw mw_415 mw_1 mw_67 mw_416 (n := 0) (by decide +kernel) rfl hdd (by decide) hrm hd
def b_X7_skipBlanks_0 (o0 : Nat) (s0 : Mm) : Option ((Mm) ⊕ (Mm)) :=
  (if (s0 o0 0) ≤ (s0 o0 4) then some (.inr s0) else Bd (f_X7_letterHere o0 s0) (fun r2 => (if r2 = (32 : Int32) then Lt (st2 s0 o0 4 ((s0 o0 4) + (1 : Int32))) (fun M4 => some (.inl M4)) else some (.inr s0))))
def f_X7_skipBlanks (o0 : Nat) (M : Mm) : Option (Mm) :=
  Bd (Lp (b_X7_skipBlanks_0 o0) 100000 M) (fun e5 => some e5)
set_option maxRecDepth 100000 in
set_option maxHeartbeats 4000000 in
theorem c_X7_skipBlanks {l : Launch} {D : va_G} {an : An} {b : Nat} {o0 : Nat} (hk0 : KDF[o0]? = some (7, 0)) {M : Mm} {M' : Mm} (h : f_X7_skipBlanks o0 M = some M') : Ct l D an b 0 yX7_skipBlanks cX7_skipBlanks 1 none 2 [.ref (b + o0)] KDF M none KDF M' := by
  refine CtX.mk (as := fun b => [.ref (b + o0)]) (rv := fun b => none) (by decide) (fun b => Nat.le_of_ble_eq_true rfl) ⟨Nat.le_refl _, Nat.le_refl _⟩ (fun x X hR Z hN _ _ => ?_)
  have X : Ok x cX7_skipBlanks 1 RX7 none := X
  have G : Gz x 1 0 [(0, .ref (xb x + o0))] [] KDF M (f_X7_skipBlanks o0 M) (PsM x KDF) := by
    unfold f_X7_skipBlanks
    refine g_pick (lv' := [(0, .ref (xb x + o0))]) [0] rfl ?_
    refine g_bdJ (J := 33) (fun e5 => []) (fun e5 => []) (fun e5 => e5) (g_lp (fun s0 => [(0, .ref (xb x + o0))]) (fun s0 => s0) (fun s0 => ?_) 100000 M) (fun e5 => ?_)
    · show Gz x 1 0 [(0, .ref (xb x + o0))] [] KDF s0 (b_X7_skipBlanks_0 o0 s0) _
      unfold b_X7_skipBlanks_0
      refine g1 (pc' := 1) (w_aload_n X dX7_skipBlanks_0 rfl 0 rfl) ?_
      refine g1 (pc' := 4) (gt_7_4 X hk0 mw_169 dX7_skipBlanks_1) ?_
      refine g1 (pc' := 5) (w_aload_n X dX7_skipBlanks_4 rfl 0 rfl) ?_
      refine g1 (pc' := 8) (gt_7_0 X hk0 mw_163 dX7_skipBlanks_5) ?_
      refine g_if (pcT := 33) (pcF := 11) (w_icmp_ge (tgt := 33) X dX7_skipBlanks_8 (by decide)) (fun h1 => ?_) (fun h1 => ?_)
      · refine g_inr ?_
        exact g_end [] rfl rfl rfl
      · refine g1 (pc' := 12) (w_aload_n X dX7_skipBlanks_11 rfl 0 rfl) ?_
        refine g_bd (pc' := 15) (fun r2 => [(0, .ref (xb x + o0))]) (fun r2 => [.int r2]) (fun r2 => s0) (fun r2 h => k_X7_letterHere X hR hN Z hk0 mw_413 (by decide) (Nat.le_of_ble_eq_true rfl) dX7_skipBlanks_12 h) (fun r2 => ?_)
        show Gz x 1 15 [(0, .ref (xb x + o0))] [.int r2] KDF s0 _ _
        refine g1 (pc' := 17) (w_bipush X (32) dX7_skipBlanks_15 (by decide)) ?_
        refine g_if (pcT := 20) (pcF := 33) (w_icmp_ne (tgt := 33) X dX7_skipBlanks_17 (by decide)) (fun h3 => ?_) (fun h3 => ?_)
        · refine g1 (pc' := 21) (w_aload_n X dX7_skipBlanks_20 rfl 0 rfl) ?_
          refine g1 (pc' := 22) (w_dup X dX7_skipBlanks_21 rfl) ?_
          refine g1 (pc' := 25) (gt_7_4 X hk0 mw_169 dX7_skipBlanks_22) ?_
          refine g1 (pc' := 26) (w_iconst X (1) dX7_skipBlanks_25 (by decide)) ?_
          refine g1 (pc' := 27) (w_iadd X dX7_skipBlanks_26) ?_
          refine g_lt (pc' := 30) (fun M4 => [(0, .ref (xb x + o0))]) (fun M4 => []) (fun M4 => M4) (pt_7_4 X Z hk0 mw_169 dX7_skipBlanks_27) (fun M4 => ?_)
          show Gz x 1 30 [(0, .ref (xb x + o0))] [] KDF M4 _ _
          refine g1 (pc' := 0) (w_goto X dX7_skipBlanks_30 (by decide)) ?_
          refine g_inl ?_
          exact g_end [0] rfl rfl rfl
        · refine g_inr ?_
          exact g_end [] rfl rfl rfl
    · show Gz x 1 33 [] [] KDF e5 _ _
      exact g_rM X dX7_skipBlanks_33
  exact G _ h _ rfl
theorem k_X7_skipBlanks {x : Cxt} {cc : ByteArray} {nL : Nat} {own : String} {ret : Option FieldType} (X : Ok x cc nL own ret) {d : Nat} (hR : Rm x d KDF) (hN : Nst x) (Z : xz x = 0) {pc : Nat} {lv : List (Nat × Value)} {rest : List Value} {M : Mm} {o0 : Nat} (hk0 : KDF[o0]? = some (7, 0)) {idx : Nat} (hw : Cond.methodLink own idx yX7_skipBlanks ∈ tbG) (hdd : 2 + 1 ≤ d) (hrm : (rest.map fun v => v.category).sum ≤ 8) (hd : decode cc pc = .ok (.invokevirtual idx, 3)) {M' : Mm} (h : f_X7_skipBlanks o0 M = some M') : StpZ x nL pc lv (.ref (xb x + o0) :: rest) KDF M (pc + 3) lv (rest) KDF M' :=
  w_callV (st := []) (As := []) X hR hN (CtX0 Z (c_X7_skipBlanks hk0 h)) ⟨Nat.le_refl _, Nat.le_refl _⟩ ⟨Nat.le_refl _, Nat.le_refl _⟩ hk0 (ci := 7) (fs := fs_7 o0) (fun _ _ _ => rfl) rfl hw mw_411 mw_0 mw_67 mw_412 (n := 0) (by decide +kernel) rfl hdd (by decide) hrm hd
def f_X7_faultOfWord (o0 : Nat) (x1 : Int32) (M : Mm) : Option (Int32) :=
  Gd (KDF[(M o0 3).toNatClampNeg]? = some (9, 0)) ((if (f_X9_stands (M o0 3).toNatClampNeg M) = 0 then (if x1 = (98 : Int32) then some (0 : Int32) else some (1 : Int32)) else (if x1 = (98 : Int32) then some (3 : Int32) else (if x1 = (99 : Int32) then Gd (KDF[(M o0 3).toNatClampNeg]? = some (9, 0)) ((if (M (M o0 3).toNatClampNeg 3) = 0 then some (0 : Int32) else some (3 : Int32))) else (if x1 = (109 : Int32) then Gd (KDF[(M o0 3).toNatClampNeg]? = some (9, 0)) ((if (M (M o0 3).toNatClampNeg 1) ≤ 0 then some (0 : Int32) else some (3 : Int32))) else (if x1 = (114 : Int32) then Gd (KDF[(M o0 3).toNatClampNeg]? = some (9, 0)) (Gd (KDF[(M o0 3).toNatClampNeg]? = some (9, 0)) ((if (M (M o0 3).toNatClampNeg 0) ≤ (M (M o0 3).toNatClampNeg 2) then some (3 : Int32) else some (0 : Int32)))) else some (1 : Int32)))))))
set_option maxRecDepth 100000 in
set_option maxHeartbeats 4000000 in
theorem c_X7_faultOfWord {l : Launch} {D : va_G} {an : An} {b : Nat} {o0 : Nat} {x1 : Int32} (hk0 : KDF[o0]? = some (7, 0)) {M : Mm} {r : Int32} (h : f_X7_faultOfWord o0 x1 M = some r) : Ct l D an b 0 yX7_faultOfWord cX7_faultOfWord 2 (some .int) 2 [.ref (b + o0), .int x1] KDF M (some (.int r)) KDF M := by
  refine CtX.mk (as := fun b => [.ref (b + o0), .int x1]) (rv := fun b => (some (.int r))) (by decide) (fun b => Nat.le_of_ble_eq_true rfl) ⟨Nat.le_refl _, Nat.le_refl _⟩ (fun x X hR Z hN _ _ => ?_)
  have X : Ok x cX7_faultOfWord 2 RX7 (some .int) := X
  have G : Gz x 2 0 [(0, .ref (xb x + o0)), (1, .int x1)] [] KDF M (f_X7_faultOfWord o0 x1 M) (PsI x KDF M) := by
    unfold f_X7_faultOfWord
    refine g1 (pc' := 1) (w_aload_n X dX7_faultOfWord_0 rfl 0 rfl) ?_
    refine g1 (pc' := 4) (gt_7_3 X hk0 mw_168 dX7_faultOfWord_1) ?_
    refine g_gd (fun h1 => ?_)
    refine g1 (pc' := 7) (k_X9_stands X hR hN Z h1 mw_425 (by decide) (Nat.le_of_ble_eq_true rfl) dX7_faultOfWord_4) ?_
    refine g_if (pcT := 10) (pcF := 22) (w_if_ne (tgt := 22) X dX7_faultOfWord_7 (by decide)) (fun h2 => ?_) (fun h2 => ?_)
    · refine g1 (pc' := 11) (w_iload_n X dX7_faultOfWord_10 rfl 1 rfl) ?_
      refine g1 (pc' := 13) (w_bipush X (98) dX7_faultOfWord_11 (by decide)) ?_
      refine g_if (pcT := 16) (pcF := 20) (w_icmp_ne (tgt := 20) X dX7_faultOfWord_13 (by decide)) (fun h3 => ?_) (fun h3 => ?_)
      · refine g1 (pc' := 17) (w_iconst X (0) dX7_faultOfWord_16 (by decide)) ?_
        refine g1 (pc' := 21) (w_goto X dX7_faultOfWord_17 (by decide)) ?_
        exact g_rI X dX7_faultOfWord_21
      · refine g1 (pc' := 21) (w_iconst X (1) dX7_faultOfWord_20 (by decide)) ?_
        exact g_rI X dX7_faultOfWord_21
    · refine g1 (pc' := 23) (w_iload_n X dX7_faultOfWord_22 rfl 1 rfl) ?_
      refine g_by (fun h4 => ?_) (fun h4 => ?_)
      · refine g1 (pc' := 64) (w_lkup (off := 41) X dX7_faultOfWord_23 (by decide) (by rw [h4]; decide) (by decide)) ?_
        refine g1 (pc' := 65) (w_iconst X (3) dX7_faultOfWord_64 (by decide)) ?_
        exact g_rI X dX7_faultOfWord_65
      · refine g_by (fun h5 => ?_) (fun h5 => ?_)
        · refine g1 (pc' := 105) (w_lkup (off := 82) X dX7_faultOfWord_23 (by decide) (by rw [h5]; decide) (by decide)) ?_
          refine g1 (pc' := 106) (w_aload_n X dX7_faultOfWord_105 rfl 0 rfl) ?_
          refine g1 (pc' := 109) (gt_7_3 X hk0 mw_168 dX7_faultOfWord_106) ?_
          refine g_gd (fun h6 => ?_)
          refine g1 (pc' := 112) (gt_9_3 X h6 mw_131 dX7_faultOfWord_109) ?_
          refine g_if (pcT := 119) (pcF := 115) (w_if_eq (tgt := 119) X dX7_faultOfWord_112 (by decide)) (fun h7 => ?_) (fun h7 => ?_)
          · refine g1 (pc' := 120) (w_iconst X (0) dX7_faultOfWord_119 (by decide)) ?_
            exact g_rI X dX7_faultOfWord_120
          · refine g1 (pc' := 116) (w_iconst X (3) dX7_faultOfWord_115 (by decide)) ?_
            refine g1 (pc' := 120) (w_goto X dX7_faultOfWord_116 (by decide)) ?_
            exact g_rI X dX7_faultOfWord_120
        · refine g_by (fun h8 => ?_) (fun h8 => ?_)
          · refine g1 (pc' := 66) (w_lkup (off := 43) X dX7_faultOfWord_23 (by decide) (by rw [h8]; decide) (by decide)) ?_
            refine g1 (pc' := 67) (w_aload_n X dX7_faultOfWord_66 rfl 0 rfl) ?_
            refine g1 (pc' := 70) (gt_7_3 X hk0 mw_168 dX7_faultOfWord_67) ?_
            refine g_gd (fun h9 => ?_)
            refine g1 (pc' := 73) (gt_9_1 X h9 mw_124 dX7_faultOfWord_70) ?_
            refine g_if (pcT := 80) (pcF := 76) (w_if_le (tgt := 80) X dX7_faultOfWord_73 (by decide)) (fun h10 => ?_) (fun h10 => ?_)
            · refine g1 (pc' := 81) (w_iconst X (0) dX7_faultOfWord_80 (by decide)) ?_
              exact g_rI X dX7_faultOfWord_81
            · refine g1 (pc' := 77) (w_iconst X (3) dX7_faultOfWord_76 (by decide)) ?_
              refine g1 (pc' := 81) (w_goto X dX7_faultOfWord_77 (by decide)) ?_
              exact g_rI X dX7_faultOfWord_81
          · refine g_by (fun h11 => ?_) (fun h11 => ?_)
            · refine g1 (pc' := 82) (w_lkup (off := 59) X dX7_faultOfWord_23 (by decide) (by rw [h11]; decide) (by decide)) ?_
              refine g1 (pc' := 83) (w_aload_n X dX7_faultOfWord_82 rfl 0 rfl) ?_
              refine g1 (pc' := 86) (gt_7_3 X hk0 mw_168 dX7_faultOfWord_83) ?_
              refine g_gd (fun h12 => ?_)
              refine g1 (pc' := 89) (gt_9_2 X h12 mw_129 dX7_faultOfWord_86) ?_
              refine g1 (pc' := 90) (w_aload_n X dX7_faultOfWord_89 rfl 0 rfl) ?_
              refine g1 (pc' := 93) (gt_7_3 X hk0 mw_168 dX7_faultOfWord_90) ?_
              refine g_gd (fun h13 => ?_)
              refine g1 (pc' := 96) (gt_9_0 X h13 mw_118 dX7_faultOfWord_93) ?_
              refine g_if (pcT := 103) (pcF := 99) (w_icmp_ge (tgt := 103) X dX7_faultOfWord_96 (by decide)) (fun h14 => ?_) (fun h14 => ?_)
              · refine g1 (pc' := 104) (w_iconst X (3) dX7_faultOfWord_103 (by decide)) ?_
                exact g_rI X dX7_faultOfWord_104
              · refine g1 (pc' := 100) (w_iconst X (0) dX7_faultOfWord_99 (by decide)) ?_
                refine g1 (pc' := 104) (w_goto X dX7_faultOfWord_100 (by decide)) ?_
                exact g_rI X dX7_faultOfWord_104
            · refine g1 (pc' := 121) (w_lkup (off := 98) X dX7_faultOfWord_23 (by decide) (by rw [lv_osw h4 (by decide), lv_osw h5 (by decide), lv_osw h8 (by decide), lv_osw h11 (by decide)]; rfl) (by decide)) ?_
              refine g1 (pc' := 122) (w_iconst X (1) dX7_faultOfWord_121 (by decide)) ?_
              exact g_rI X dX7_faultOfWord_122
  exact G _ h _ rfl
theorem k_X7_faultOfWord {x : Cxt} {cc : ByteArray} {nL : Nat} {own : String} {ret : Option FieldType} (X : Ok x cc nL own ret) {d : Nat} (hR : Rm x d KDF) (hN : Nst x) (Z : xz x = 0) {pc : Nat} {lv : List (Nat × Value)} {rest : List Value} {M : Mm} {o0 : Nat} {x1 : Int32} (hk0 : KDF[o0]? = some (7, 0)) {idx : Nat} (hw : Cond.methodLink own idx yX7_faultOfWord ∈ tbG) (hdd : 2 + 1 ≤ d) (hrm : (rest.map fun v => v.category).sum ≤ 8) (hd : decode cc pc = .ok (.invokevirtual idx, 3)) {r : Int32} (h : f_X7_faultOfWord o0 x1 M = some r) : StpZ x nL pc lv (.int x1 :: .ref (xb x + o0) :: rest) KDF M (pc + 3) lv (.int r :: rest) KDF M :=
  w_callV (st := []) (As := [.int x1]) X hR hN (CtX0 Z (c_X7_faultOfWord hk0 h)) ⟨Nat.le_refl _, Nat.le_refl _⟩ ⟨Nat.le_refl _, Nat.le_refl _⟩ hk0 (ci := 7) (fs := fs_7 o0) (fun _ _ _ => rfl) rfl hw mw_423 mw_3 mw_67 mw_424 (n := 1) (by decide +kernel) rfl hdd (by decide) hrm hd
def f_X7_fail (o0 : Nat) (x1 : Int32) (x2 : Int32) (M : Mm) : Option (Mm) :=
  Lt (st2 M o0 6 x1) (fun M1 => Lt (st2 M1 o0 1 x2) (fun M2 => some M2))
set_option maxRecDepth 100000 in
set_option maxHeartbeats 4000000 in
theorem c_X7_fail {l : Launch} {D : va_G} {an : An} {b : Nat} {o0 : Nat} {x1 : Int32} {x2 : Int32} (hk0 : KDF[o0]? = some (7, 0)) {M : Mm} {M' : Mm} (h : f_X7_fail o0 x1 x2 M = some M') : Ct l D an b 0 yX7_fail cX7_fail 3 none 1 [.ref (b + o0), .int x1, .int x2] KDF M none KDF M' := by
  refine CtX.mk (as := fun b => [.ref (b + o0), .int x1, .int x2]) (rv := fun b => none) (by decide) (fun b => Nat.le_of_ble_eq_true rfl) ⟨Nat.le_refl _, Nat.le_refl _⟩ (fun x X hR Z hN _ _ => ?_)
  have X : Ok x cX7_fail 3 RX7 none := X
  have G : Gz x 3 0 [(0, .ref (xb x + o0)), (1, .int x1), (2, .int x2)] [] KDF M (f_X7_fail o0 x1 x2 M) (PsM x KDF) := by
    unfold f_X7_fail
    refine g1 (pc' := 1) (w_aload_n X dX7_fail_0 rfl 0 rfl) ?_
    refine g1 (pc' := 2) (w_iload_n X dX7_fail_1 rfl 1 rfl) ?_
    refine g_lt (pc' := 5) (fun M1 => [(0, .ref (xb x + o0)), (1, .int x1), (2, .int x2)]) (fun M1 => []) (fun M1 => M1) (pt_7_6 X Z hk0 mw_171 dX7_fail_2) (fun M1 => ?_)
    show Gz x 3 5 [(0, .ref (xb x + o0)), (1, .int x1), (2, .int x2)] [] KDF M1 _ _
    refine g1 (pc' := 6) (w_aload_n X dX7_fail_5 rfl 0 rfl) ?_
    refine g1 (pc' := 7) (w_iload_n X dX7_fail_6 rfl 2 rfl) ?_
    refine g_lt (pc' := 10) (fun M2 => [(0, .ref (xb x + o0)), (1, .int x1), (2, .int x2)]) (fun M2 => []) (fun M2 => M2) (pt_7_1 X Z hk0 mw_165 dX7_fail_7) (fun M2 => ?_)
    show Gz x 3 10 [(0, .ref (xb x + o0)), (1, .int x1), (2, .int x2)] [] KDF M2 _ _
    exact g_rM X dX7_fail_10
  exact G _ h _ rfl
theorem k_X7_fail {x : Cxt} {cc : ByteArray} {nL : Nat} {own : String} {ret : Option FieldType} (X : Ok x cc nL own ret) {d : Nat} (hR : Rm x d KDF) (hN : Nst x) (Z : xz x = 0) {pc : Nat} {lv : List (Nat × Value)} {rest : List Value} {M : Mm} {o0 : Nat} {x1 : Int32} {x2 : Int32} (hk0 : KDF[o0]? = some (7, 0)) {idx : Nat} (hw : Cond.methodLink own idx yX7_fail ∈ tbG) (hdd : 1 + 1 ≤ d) (hrm : (rest.map fun v => v.category).sum ≤ 8) (hd : decode cc pc = .ok (.invokevirtual idx, 3)) {M' : Mm} (h : f_X7_fail o0 x1 x2 M = some M') : StpZ x nL pc lv (.int x2 :: .int x1 :: .ref (xb x + o0) :: rest) KDF M (pc + 3) lv (rest) KDF M' :=
  w_callV (st := []) (As := [.int x1, .int x2]) X hR hN (CtX0 Z (c_X7_fail hk0 h)) ⟨Nat.le_refl _, Nat.le_refl _⟩ ⟨Nat.le_refl _, Nat.le_refl _⟩ hk0 (ci := 7) (fs := fs_7 o0) (fun _ _ _ => rfl) rfl hw mw_431 mw_4 mw_67 mw_432 (n := 2) (by decide +kernel) rfl hdd (by decide) hrm hd
def f_X7_mostNumbers (x0 : Int32) : Option (Int32) :=
  (if x0 = (98 : Int32) then some (6 : Int32) else (if x0 = (109 : Int32) then some (12 : Int32) else some (1 : Int32)))
set_option maxRecDepth 100000 in
set_option maxHeartbeats 4000000 in
theorem c_X7_mostNumbers {l : Launch} {D : va_G} {an : An} {b : Nat} {x0 : Int32}  {M : Mm} {r : Int32} (h : f_X7_mostNumbers x0 = some r) : Ct l D an b 0 yX7_mostNumbers cX7_mostNumbers 1 (some .int) 1 [.int x0] KDF M (some (.int r)) KDF M := by
  refine CtX.mk (as := fun b => [.int x0]) (rv := fun b => (some (.int r))) (by decide) (fun b => Nat.le_of_ble_eq_true rfl) ⟨Nat.le_refl _, Nat.le_refl _⟩ (fun x X hR Z hN _ _ => ?_)
  have X : Ok x cX7_mostNumbers 1 RX7 (some .int) := X
  have G : Gz x 1 0 [(0, .int x0)] [] KDF M (f_X7_mostNumbers x0) (PsI x KDF M) := by
    unfold f_X7_mostNumbers
    refine g1 (pc' := 1) (w_iload_n X dX7_mostNumbers_0 rfl 0 rfl) ?_
    refine g_by (fun h1 => ?_) (fun h1 => ?_)
    · refine g1 (pc' := 28) (w_lkup (off := 27) X dX7_mostNumbers_1 (by decide) (by rw [h1]; decide) (by decide)) ?_
      refine g1 (pc' := 30) (w_bipush X (6) dX7_mostNumbers_28 (by decide)) ?_
      exact g_rI X dX7_mostNumbers_30
    · refine g_by (fun h2 => ?_) (fun h2 => ?_)
      · refine g1 (pc' := 31) (w_lkup (off := 30) X dX7_mostNumbers_1 (by decide) (by rw [h2]; decide) (by decide)) ?_
        refine g1 (pc' := 33) (w_bipush X (12) dX7_mostNumbers_31 (by decide)) ?_
        exact g_rI X dX7_mostNumbers_33
      · refine g1 (pc' := 34) (w_lkup (off := 33) X dX7_mostNumbers_1 (by decide) (by rw [lv_osw h1 (by decide), lv_osw h2 (by decide)]; rfl) (by decide)) ?_
        refine g1 (pc' := 35) (w_iconst X (1) dX7_mostNumbers_34 (by decide)) ?_
        exact g_rI X dX7_mostNumbers_35
  exact G _ h _ rfl
theorem k_X7_mostNumbers {x : Cxt} {cc : ByteArray} {nL : Nat} {own : String} {ret : Option FieldType} (X : Ok x cc nL own ret) {d : Nat} (hR : Rm x d KDF) (hN : Nst x) (Z : xz x = 0) {pc : Nat} {lv : List (Nat × Value)} {rest : List Value} {M : Mm} {x0 : Int32}  {idx : Nat} (hw : Cond.methodLink own idx yX7_mostNumbers ∈ tbG) (hdd : 1 + 1 ≤ d) (hrm : (rest.map fun v => v.category).sum ≤ 8) (hd : decode cc pc = .ok (.invokestatic idx, 3)) {r : Int32} (h : f_X7_mostNumbers x0 = some r) : StpZ x nL pc lv (.int x0 :: rest) KDF M (pc + 3) lv (.int r :: rest) KDF M :=
  w_callS (st := []) (As := [.int x0]) X hR hN (CtX0 Z (c_X7_mostNumbers  h)) ⟨Nat.le_refl _, Nat.le_refl _⟩ ⟨Nat.le_refl _, Nat.le_refl _⟩ hw mw_434 mw_67 mw_435 (n := 1) (by decide +kernel) rfl hdd (by decide) hrm hd
def f_X7_isFigure (x0 : Int32) : Int32 :=
  (if x0 < (48 : Int32) then (0 : Int32) else (if (57 : Int32) < x0 then (0 : Int32) else (1 : Int32)))
theorem z_X7_isFigure {x0 : Int32} : zb (f_X7_isFigure x0) := by
  unfold f_X7_isFigure
  repeat' (first | exact zb0 | exact zb1 | apply zbi)
set_option maxRecDepth 100000 in
set_option maxHeartbeats 4000000 in
theorem c_X7_isFigure {l : Launch} {D : va_G} {an : An} {b : Nat} {x0 : Int32}  {M : Mm}  : Ct l D an b 0 yX7_isFigure cX7_isFigure 1 (some .boolean) 1 [.int x0] KDF M (some (.int (f_X7_isFigure x0))) KDF M := by
  refine CtX.mk (as := fun b => [.int x0]) (rv := fun b => (some (.int (f_X7_isFigure x0)))) (by decide) (fun b => Nat.le_of_ble_eq_true rfl) ⟨Nat.le_refl _, Nat.le_refl _⟩ (fun x X hR Z hN _ _ => ?_)
  have X : Ok x cX7_isFigure 1 RX7 (some .boolean) := X
  have G : Gz x 1 0 [(0, .int x0)] [] KDF M (some (f_X7_isFigure x0)) (PsI x KDF M) := by
    unfold f_X7_isFigure
    refine g1 (pc' := 1) (w_iload_n X dX7_isFigure_0 rfl 0 rfl) ?_
    refine g1 (pc' := 3) (w_bipush X (48) dX7_isFigure_1 (by decide)) ?_
    refine g_ifS (pcT := 16) (pcF := 6) (w_icmp_lt (tgt := 16) X dX7_isFigure_3 (by decide)) (fun h1 => ?_) (fun h1 => ?_)
    · refine g1 (pc' := 17) (w_iconst X (0) dX7_isFigure_16 (by decide)) ?_
      exact g_rZ X zb0 dX7_isFigure_17
    · refine g1 (pc' := 7) (w_iload_n X dX7_isFigure_6 rfl 0 rfl) ?_
      refine g1 (pc' := 9) (w_bipush X (57) dX7_isFigure_7 (by decide)) ?_
      refine g_ifS (pcT := 16) (pcF := 12) (w_icmp_gt (tgt := 16) X dX7_isFigure_9 (by decide)) (fun h2 => ?_) (fun h2 => ?_)
      · refine g1 (pc' := 17) (w_iconst X (0) dX7_isFigure_16 (by decide)) ?_
        exact g_rZ X zb0 dX7_isFigure_17
      · refine g1 (pc' := 13) (w_iconst X (1) dX7_isFigure_12 (by decide)) ?_
        refine g1 (pc' := 17) (w_goto X dX7_isFigure_13 (by decide)) ?_
        exact g_rZ X zb1 dX7_isFigure_17
  exact G _ rfl _ rfl
theorem k_X7_isFigure {x : Cxt} {cc : ByteArray} {nL : Nat} {own : String} {ret : Option FieldType} (X : Ok x cc nL own ret) {d : Nat} (hR : Rm x d KDF) (hN : Nst x) (Z : xz x = 0) {pc : Nat} {lv : List (Nat × Value)} {rest : List Value} {M : Mm} {x0 : Int32}  {idx : Nat} (hw : Cond.methodLink own idx yX7_isFigure ∈ tbG) (hdd : 1 + 1 ≤ d) (hrm : (rest.map fun v => v.category).sum ≤ 8) (hd : decode cc pc = .ok (.invokestatic idx, 3))  : StpZ x nL pc lv (.int x0 :: rest) KDF M (pc + 3) lv (.int (f_X7_isFigure x0) :: rest) KDF M :=
  w_callS (st := []) (As := [.int x0]) X hR hN (CtX0 Z (c_X7_isFigure  )) ⟨Nat.le_refl _, Nat.le_refl _⟩ ⟨Nat.le_refl _, Nat.le_refl _⟩ hw mw_441 mw_67 mw_442 (n := 1) (by decide +kernel) rfl hdd (by decide) hrm hd
def f_X7_withinBounds (o0 : Nat) (x1 : Int32) (x2 : Int32) (M : Mm) : Option (Int32) :=
  (if x1 = (98 : Int32) then (if x2 < (1 : Int32) then some (0 : Int32) else (if (20 : Int32) < x2 then some (0 : Int32) else some (1 : Int32))) else (if x1 = (114 : Int32) then (if x2 < (1 : Int32) then some (0 : Int32) else (if (20 : Int32) < x2 then some (0 : Int32) else some (1 : Int32))) else Gd (KDF[(M o0 3).toNatClampNeg]? = some (9, 0)) ((if (f_X9_allPlaces (M o0 3).toNatClampNeg M) < x2 then some (0 : Int32) else some (1 : Int32)))))
set_option maxRecDepth 100000 in
set_option maxHeartbeats 4000000 in
theorem c_X7_withinBounds {l : Launch} {D : va_G} {an : An} {b : Nat} {o0 : Nat} {x1 : Int32} {x2 : Int32} (hk0 : KDF[o0]? = some (7, 0)) {M : Mm} {r : Int32} (h : f_X7_withinBounds o0 x1 x2 M = some r) : Ct l D an b 0 yX7_withinBounds cX7_withinBounds 3 (some .boolean) 2 [.ref (b + o0), .int x1, .int x2] KDF M (some (.int r)) KDF M := by
  refine CtX.mk (as := fun b => [.ref (b + o0), .int x1, .int x2]) (rv := fun b => (some (.int r))) (by decide) (fun b => Nat.le_of_ble_eq_true rfl) ⟨Nat.le_refl _, Nat.le_refl _⟩ (fun x X hR Z hN _ _ => ?_)
  have X : Ok x cX7_withinBounds 3 RX7 (some .boolean) := X
  have G : Gz x 3 0 [(0, .ref (xb x + o0)), (1, .int x1), (2, .int x2)] [] KDF M (f_X7_withinBounds o0 x1 x2 M) (PsI x KDF M) := by
    unfold f_X7_withinBounds
    refine g1 (pc' := 1) (w_iload_n X dX7_withinBounds_0 rfl 1 rfl) ?_
    refine g1 (pc' := 3) (w_bipush X (98) dX7_withinBounds_1 (by decide)) ?_
    refine g_if (pcT := 12) (pcF := 6) (w_icmp_eq (tgt := 12) X dX7_withinBounds_3 (by decide)) (fun h1 => ?_) (fun h1 => ?_)
    · refine g1 (pc' := 13) (w_iload_n X dX7_withinBounds_12 rfl 2 rfl) ?_
      refine g1 (pc' := 14) (w_iconst X (1) dX7_withinBounds_13 (by decide)) ?_
      refine g_if (pcT := 27) (pcF := 17) (w_icmp_lt (tgt := 27) X dX7_withinBounds_14 (by decide)) (fun h2 => ?_) (fun h2 => ?_)
      · refine g1 (pc' := 28) (w_iconst X (0) dX7_withinBounds_27 (by decide)) ?_
        exact g_rZ X zb0 dX7_withinBounds_28
      · refine g1 (pc' := 18) (w_iload_n X dX7_withinBounds_17 rfl 2 rfl) ?_
        refine g1 (pc' := 20) (w_bipush X (20) dX7_withinBounds_18 (by decide)) ?_
        refine g_if (pcT := 27) (pcF := 23) (w_icmp_gt (tgt := 27) X dX7_withinBounds_20 (by decide)) (fun h3 => ?_) (fun h3 => ?_)
        · refine g1 (pc' := 28) (w_iconst X (0) dX7_withinBounds_27 (by decide)) ?_
          exact g_rZ X zb0 dX7_withinBounds_28
        · refine g1 (pc' := 24) (w_iconst X (1) dX7_withinBounds_23 (by decide)) ?_
          refine g1 (pc' := 28) (w_goto X dX7_withinBounds_24 (by decide)) ?_
          exact g_rZ X zb1 dX7_withinBounds_28
    · refine g1 (pc' := 7) (w_iload_n X dX7_withinBounds_6 rfl 1 rfl) ?_
      refine g1 (pc' := 9) (w_bipush X (114) dX7_withinBounds_7 (by decide)) ?_
      refine g_if (pcT := 12) (pcF := 29) (w_icmp_ne (tgt := 29) X dX7_withinBounds_9 (by decide)) (fun h4 => ?_) (fun h4 => ?_)
      · refine g1 (pc' := 13) (w_iload_n X dX7_withinBounds_12 rfl 2 rfl) ?_
        refine g1 (pc' := 14) (w_iconst X (1) dX7_withinBounds_13 (by decide)) ?_
        refine g_if (pcT := 27) (pcF := 17) (w_icmp_lt (tgt := 27) X dX7_withinBounds_14 (by decide)) (fun h5 => ?_) (fun h5 => ?_)
        · refine g1 (pc' := 28) (w_iconst X (0) dX7_withinBounds_27 (by decide)) ?_
          exact g_rZ X zb0 dX7_withinBounds_28
        · refine g1 (pc' := 18) (w_iload_n X dX7_withinBounds_17 rfl 2 rfl) ?_
          refine g1 (pc' := 20) (w_bipush X (20) dX7_withinBounds_18 (by decide)) ?_
          refine g_if (pcT := 27) (pcF := 23) (w_icmp_gt (tgt := 27) X dX7_withinBounds_20 (by decide)) (fun h6 => ?_) (fun h6 => ?_)
          · refine g1 (pc' := 28) (w_iconst X (0) dX7_withinBounds_27 (by decide)) ?_
            exact g_rZ X zb0 dX7_withinBounds_28
          · refine g1 (pc' := 24) (w_iconst X (1) dX7_withinBounds_23 (by decide)) ?_
            refine g1 (pc' := 28) (w_goto X dX7_withinBounds_24 (by decide)) ?_
            exact g_rZ X zb1 dX7_withinBounds_28
      · refine g1 (pc' := 30) (w_iload_n X dX7_withinBounds_29 rfl 2 rfl) ?_
        refine g1 (pc' := 31) (w_aload_n X dX7_withinBounds_30 rfl 0 rfl) ?_
        refine g1 (pc' := 34) (gt_7_3 X hk0 mw_168 dX7_withinBounds_31) ?_
        refine g_gd (fun h7 => ?_)
        refine g1 (pc' := 37) (k_X9_allPlaces X hR hN Z h7 mw_447 (by decide) (Nat.le_of_ble_eq_true rfl) dX7_withinBounds_34) ?_
        refine g_if (pcT := 44) (pcF := 40) (w_icmp_gt (tgt := 44) X dX7_withinBounds_37 (by decide)) (fun h8 => ?_) (fun h8 => ?_)
        · refine g1 (pc' := 45) (w_iconst X (0) dX7_withinBounds_44 (by decide)) ?_
          exact g_rZ X zb0 dX7_withinBounds_45
        · refine g1 (pc' := 41) (w_iconst X (1) dX7_withinBounds_40 (by decide)) ?_
          refine g1 (pc' := 45) (w_goto X dX7_withinBounds_41 (by decide)) ?_
          exact g_rZ X zb1 dX7_withinBounds_45
  exact G _ h _ rfl
theorem k_X7_withinBounds {x : Cxt} {cc : ByteArray} {nL : Nat} {own : String} {ret : Option FieldType} (X : Ok x cc nL own ret) {d : Nat} (hR : Rm x d KDF) (hN : Nst x) (Z : xz x = 0) {pc : Nat} {lv : List (Nat × Value)} {rest : List Value} {M : Mm} {o0 : Nat} {x1 : Int32} {x2 : Int32} (hk0 : KDF[o0]? = some (7, 0)) {idx : Nat} (hw : Cond.methodLink own idx yX7_withinBounds ∈ tbG) (hdd : 2 + 1 ≤ d) (hrm : (rest.map fun v => v.category).sum ≤ 8) (hd : decode cc pc = .ok (.invokevirtual idx, 3)) {r : Int32} (h : f_X7_withinBounds o0 x1 x2 M = some r) : StpZ x nL pc lv (.int x2 :: .int x1 :: .ref (xb x + o0) :: rest) KDF M (pc + 3) lv (.int r :: rest) KDF M :=
  w_callV (st := []) (As := [.int x1, .int x2]) X hR hN (CtX0 Z (c_X7_withinBounds hk0 h)) ⟨Nat.le_refl _, Nat.le_refl _⟩ ⟨Nat.le_refl _, Nat.le_refl _⟩ hk0 (ci := 7) (fs := fs_7 o0) (fun _ _ _ => rfl) rfl hw mw_445 mw_6 mw_67 mw_446 (n := 2) (by decide +kernel) rfl hdd (by decide) hrm hd
def b_X7_readNumber_14 (o0 : Nat) (s14 : Int32 × Mm) : Option ((Int32 × Mm) ⊕ (Int32 × Mm)) :=
  (if (s14.2 o0 0) ≤ (s14.2 o0 4) then some (.inr (s14.1, s14.2)) else Bd (f_X7_letterHere o0 s14.2) (fun r4 => (if (f_X7_isFigure r4) = 0 then some (.inr (s14.1, s14.2)) else Bd (((if (3 : Int32) ≤ ((s14.2 o0 4) - (s14.2 o0 5)) then some s14.1 else Bd (f_X7_letterHere o0 s14.2) (fun r9 => Lt (((s14.1 * (10 : Int32)) + r9) - (48 : Int32)) (fun v10 => some v10)))) : Option (Int32)) (fun j7 => Lt (st2 s14.2 o0 4 ((s14.2 o0 4) + (1 : Int32))) (fun M11 => some (.inl (j7, M11)))))))
def f_X7_readNumber (o0 : Nat) (x1 : Int32) (M : Mm) : Option (Int32 × Mm) :=
  Bd (f_X7_skipBlanks o0 M) (fun r1 => Lt (st2 r1 o0 5 (r1 o0 4)) (fun M2 => Bd (Lp (b_X7_readNumber_14 o0) 100000 ((0 : Int32), M2)) (fun e12 => Lt ((e12.2 o0 4) - (e12.2 o0 5)) (fun v13 => Bd (((if v13 = 0 then Bd (f_X7_fail o0 (1 : Int32) (e12.2 o0 4) e12.2) (fun r17 => some r17) else (if (3 : Int32) < v13 then Bd (f_X7_fail o0 (2 : Int32) (e12.2 o0 5) e12.2) (fun r19 => some r19) else Bd (f_X7_withinBounds o0 x1 e12.1 e12.2) (fun r20 => (if r20 = 0 then Bd (f_X7_fail o0 (2 : Int32) (e12.2 o0 5) e12.2) (fun r22 => some r22) else some e12.2))))) : Option (Mm)) (fun j15 => some (e12.1, j15))))))
set_option maxRecDepth 100000 in
set_option maxHeartbeats 4000000 in
theorem c_X7_readNumber {l : Launch} {D : va_G} {an : An} {b : Nat} {o0 : Nat} {x1 : Int32} (hk0 : KDF[o0]? = some (7, 0)) {M : Mm} {r : Int32} {M' : Mm} (h : f_X7_readNumber o0 x1 M = some (r, M')) : Ct l D an b 0 yX7_readNumber cX7_readNumber 4 (some .int) 3 [.ref (b + o0), .int x1] KDF M (some (.int r)) KDF M' := by
  refine CtX.mk (as := fun b => [.ref (b + o0), .int x1]) (rv := fun b => (some (.int r))) (by decide) (fun b => Nat.le_of_ble_eq_true rfl) ⟨Nat.le_refl _, Nat.le_refl _⟩ (fun x X hR Z hN _ _ => ?_)
  have X : Ok x cX7_readNumber 4 RX7 (some .int) := X
  have G : Gz x 4 0 [(0, .ref (xb x + o0)), (1, .int x1)] [] KDF M (f_X7_readNumber o0 x1 M) (PsI2 x KDF) := by
    unfold f_X7_readNumber
    refine g1 (pc' := 1) (w_aload_n X dX7_readNumber_0 rfl 0 rfl) ?_
    refine g_bd (pc' := 4) (fun r1 => [(0, .ref (xb x + o0)), (1, .int x1)]) (fun r1 => []) (fun r1 => r1) (fun r1 h => k_X7_skipBlanks X hR hN Z hk0 mw_409 (by decide) (Nat.le_of_ble_eq_true rfl) dX7_readNumber_1 h) (fun r1 => ?_)
    show Gz x 4 4 [(0, .ref (xb x + o0)), (1, .int x1)] [] KDF r1 _ _
    refine g1 (pc' := 5) (w_aload_n X dX7_readNumber_4 rfl 0 rfl) ?_
    refine g1 (pc' := 6) (w_aload_n X dX7_readNumber_5 rfl 0 rfl) ?_
    refine g1 (pc' := 9) (gt_7_4 X hk0 mw_169 dX7_readNumber_6) ?_
    refine g_lt (pc' := 12) (fun M2 => [(0, .ref (xb x + o0)), (1, .int x1)]) (fun M2 => []) (fun M2 => M2) (pt_7_5 X Z hk0 mw_170 dX7_readNumber_9) (fun M2 => ?_)
    show Gz x 4 12 [(0, .ref (xb x + o0)), (1, .int x1)] [] KDF M2 _ _
    refine g1 (pc' := 13) (w_iconst X (0) dX7_readNumber_12 (by decide)) ?_
    refine g1 (pc' := 14) (lv' := [(2, .int (0 : Int32)), (0, .ref (xb x + o0)), (1, .int x1)]) (w_istore_n X dX7_readNumber_13 rfl (by decide) rfl) ?_
    refine g_pick (lv' := [(0, .ref (xb x + o0)), (1, .int x1), (2, .int (0 : Int32))]) [1, 2, 0] rfl ?_
    refine g_bdJ (J := 74) (fun e12 => [(0, .ref (xb x + o0)), (1, .int x1), (2, .int e12.1)]) (fun e12 => []) (fun e12 => e12.2) (g_lp (fun s14 => [(0, .ref (xb x + o0)), (1, .int x1), (2, .int s14.1)]) (fun s14 => s14.2) (fun s14 => ?_) 100000 ((0 : Int32), M2)) (fun e12 => ?_)
    · show Gz x 4 14 [(0, .ref (xb x + o0)), (1, .int x1), (2, .int s14.1)] [] KDF s14.2 (b_X7_readNumber_14 o0 s14) _
      unfold b_X7_readNumber_14
      refine g1 (pc' := 15) (w_aload_n X dX7_readNumber_14 rfl 0 rfl) ?_
      refine g1 (pc' := 18) (gt_7_4 X hk0 mw_169 dX7_readNumber_15) ?_
      refine g1 (pc' := 19) (w_aload_n X dX7_readNumber_18 rfl 0 rfl) ?_
      refine g1 (pc' := 22) (gt_7_0 X hk0 mw_163 dX7_readNumber_19) ?_
      refine g_if (pcT := 74) (pcF := 25) (w_icmp_ge (tgt := 74) X dX7_readNumber_22 (by decide)) (fun h3 => ?_) (fun h3 => ?_)
      · refine g_inr ?_
        exact g_end [0, 1, 2] rfl rfl rfl
      · refine g1 (pc' := 26) (w_aload_n X dX7_readNumber_25 rfl 0 rfl) ?_
        refine g_bd (pc' := 29) (fun r4 => [(0, .ref (xb x + o0)), (1, .int x1), (2, .int s14.1)]) (fun r4 => [.int r4]) (fun r4 => s14.2) (fun r4 h => k_X7_letterHere X hR hN Z hk0 mw_413 (by decide) (Nat.le_of_ble_eq_true rfl) dX7_readNumber_26 h) (fun r4 => ?_)
        show Gz x 4 29 [(0, .ref (xb x + o0)), (1, .int x1), (2, .int s14.1)] [.int r4] KDF s14.2 _ _
        refine g1 (pc' := 32) (k_X7_isFigure X hR hN Z  mw_440 (by decide) (Nat.le_of_ble_eq_true rfl) dX7_readNumber_29) ?_
        refine g_if (pcT := 74) (pcF := 35) (w_if_eq (tgt := 74) X dX7_readNumber_32 (by decide)) (fun h5 => ?_) (fun h5 => ?_)
        · refine g_inr ?_
          exact g_end [0, 1, 2] rfl rfl rfl
        · refine g1 (pc' := 36) (w_aload_n X dX7_readNumber_35 rfl 0 rfl) ?_
          refine g1 (pc' := 39) (gt_7_4 X hk0 mw_169 dX7_readNumber_36) ?_
          refine g1 (pc' := 40) (w_aload_n X dX7_readNumber_39 rfl 0 rfl) ?_
          refine g1 (pc' := 43) (gt_7_5 X hk0 mw_170 dX7_readNumber_40) ?_
          refine g1 (pc' := 44) (w_isub X dX7_readNumber_43) ?_
          refine g1 (pc' := 45) (w_iconst X (3) dX7_readNumber_44 (by decide)) ?_
          refine g_bdJ (J := 61) (fun j7 => [(0, .ref (xb x + o0)), (1, .int x1), (2, .int j7)]) (fun j7 => []) (fun j7 => s14.2) ?_ (fun j7 => ?_)
          · refine g_if (pcT := 61) (pcF := 48) (w_icmp_ge (tgt := 61) X dX7_readNumber_45 (by decide)) (fun h8 => ?_) (fun h8 => ?_)
            · exact g_end [0, 1, 2] rfl rfl rfl
            · refine g1 (pc' := 49) (w_iload_n X dX7_readNumber_48 rfl 2 rfl) ?_
              refine g1 (pc' := 51) (w_bipush X (10) dX7_readNumber_49 (by decide)) ?_
              refine g1 (pc' := 52) (w_imul X dX7_readNumber_51) ?_
              refine g1 (pc' := 53) (w_aload_n X dX7_readNumber_52 rfl 0 rfl) ?_
              refine g_bd (pc' := 56) (fun r9 => [(0, .ref (xb x + o0)), (1, .int x1), (2, .int s14.1)]) (fun r9 => [.int r9, .int (s14.1 * (10 : Int32))]) (fun r9 => s14.2) (fun r9 h => k_X7_letterHere X hR hN Z hk0 mw_413 (by decide) (Nat.le_of_ble_eq_true rfl) dX7_readNumber_53 h) (fun r9 => ?_)
              show Gz x 4 56 [(0, .ref (xb x + o0)), (1, .int x1), (2, .int s14.1)] [.int r9, .int (s14.1 * (10 : Int32))] KDF s14.2 _ _
              refine g1 (pc' := 57) (w_iadd X dX7_readNumber_56) ?_
              refine g1 (pc' := 59) (w_bipush X (48) dX7_readNumber_57 (by decide)) ?_
              refine g1 (pc' := 60) (w_isub X dX7_readNumber_59) ?_
              refine g_lt (pc' := 61) (fun v10 => [(2, .int v10), (0, .ref (xb x + o0)), (1, .int x1)]) (fun v10 => []) (fun v10 => s14.2) (w_istore_n X dX7_readNumber_60 rfl (by decide) rfl) (fun v10 => ?_)
              show Gz x 4 61 [(2, .int v10), (0, .ref (xb x + o0)), (1, .int x1)] [] KDF s14.2 _ _
              exact g_end [1, 2, 0] rfl rfl rfl
          · show Gz x 4 61 [(0, .ref (xb x + o0)), (1, .int x1), (2, .int j7)] [] KDF s14.2 _ _
            refine g1 (pc' := 62) (w_aload_n X dX7_readNumber_61 rfl 0 rfl) ?_
            refine g1 (pc' := 63) (w_dup X dX7_readNumber_62 rfl) ?_
            refine g1 (pc' := 66) (gt_7_4 X hk0 mw_169 dX7_readNumber_63) ?_
            refine g1 (pc' := 67) (w_iconst X (1) dX7_readNumber_66 (by decide)) ?_
            refine g1 (pc' := 68) (w_iadd X dX7_readNumber_67) ?_
            refine g_lt (pc' := 71) (fun M11 => [(0, .ref (xb x + o0)), (1, .int x1), (2, .int j7)]) (fun M11 => []) (fun M11 => M11) (pt_7_4 X Z hk0 mw_169 dX7_readNumber_68) (fun M11 => ?_)
            show Gz x 4 71 [(0, .ref (xb x + o0)), (1, .int x1), (2, .int j7)] [] KDF M11 _ _
            refine g1 (pc' := 14) (w_goto X dX7_readNumber_71 (by decide)) ?_
            refine g_inl ?_
            exact g_end [0, 1, 2] rfl rfl rfl
    · show Gz x 4 74 [(0, .ref (xb x + o0)), (1, .int x1), (2, .int e12.1)] [] KDF e12.2 _ _
      refine g1 (pc' := 75) (w_aload_n X dX7_readNumber_74 rfl 0 rfl) ?_
      refine g1 (pc' := 78) (gt_7_4 X hk0 mw_169 dX7_readNumber_75) ?_
      refine g1 (pc' := 79) (w_aload_n X dX7_readNumber_78 rfl 0 rfl) ?_
      refine g1 (pc' := 82) (gt_7_5 X hk0 mw_170 dX7_readNumber_79) ?_
      refine g1 (pc' := 83) (w_isub X dX7_readNumber_82) ?_
      refine g_lt (pc' := 84) (fun v13 => [(3, .int v13), (0, .ref (xb x + o0)), (1, .int x1), (2, .int e12.1)]) (fun v13 => []) (fun v13 => e12.2) (w_istore_n X dX7_readNumber_83 rfl (by decide) rfl) (fun v13 => ?_)
      show Gz x 4 84 [(3, .int v13), (0, .ref (xb x + o0)), (1, .int x1), (2, .int e12.1)] [] KDF e12.2 _ _
      refine g1 (pc' := 85) (w_iload_n X dX7_readNumber_84 rfl 0 rfl) ?_
      refine g_bdJ (J := 123) (fun j15 => [(2, .int e12.1)]) (fun j15 => []) (fun j15 => j15) ?_ (fun j15 => ?_)
      · refine g_if (pcT := 88) (pcF := 100) (w_if_ne (tgt := 100) X dX7_readNumber_85 (by decide)) (fun h16 => ?_) (fun h16 => ?_)
        · refine g1 (pc' := 89) (w_aload_n X dX7_readNumber_88 rfl 1 rfl) ?_
          refine g1 (pc' := 90) (w_iconst X (1) dX7_readNumber_89 (by decide)) ?_
          refine g1 (pc' := 91) (w_aload_n X dX7_readNumber_90 rfl 1 rfl) ?_
          refine g1 (pc' := 94) (gt_7_4 X hk0 mw_169 dX7_readNumber_91) ?_
          refine g_bd (pc' := 97) (fun r17 => [(3, .int v13), (0, .ref (xb x + o0)), (1, .int x1), (2, .int e12.1)]) (fun r17 => []) (fun r17 => r17) (fun r17 h => k_X7_fail X hR hN Z hk0 mw_429 (by decide) (Nat.le_of_ble_eq_true rfl) dX7_readNumber_94 h) (fun r17 => ?_)
          show Gz x 4 97 [(3, .int v13), (0, .ref (xb x + o0)), (1, .int x1), (2, .int e12.1)] [] KDF r17 _ _
          refine g1 (pc' := 123) (w_goto X dX7_readNumber_97 (by decide)) ?_
          exact g_end [3] rfl rfl rfl
        · refine g1 (pc' := 101) (w_iload_n X dX7_readNumber_100 rfl 0 rfl) ?_
          refine g1 (pc' := 102) (w_iconst X (3) dX7_readNumber_101 (by decide)) ?_
          refine g_if (pcT := 114) (pcF := 105) (w_icmp_gt (tgt := 114) X dX7_readNumber_102 (by decide)) (fun h18 => ?_) (fun h18 => ?_)
          · refine g1 (pc' := 115) (w_aload_n X dX7_readNumber_114 rfl 1 rfl) ?_
            refine g1 (pc' := 116) (w_iconst X (2) dX7_readNumber_115 (by decide)) ?_
            refine g1 (pc' := 117) (w_aload_n X dX7_readNumber_116 rfl 1 rfl) ?_
            refine g1 (pc' := 120) (gt_7_5 X hk0 mw_170 dX7_readNumber_117) ?_
            refine g_bd (pc' := 123) (fun r19 => [(3, .int v13), (0, .ref (xb x + o0)), (1, .int x1), (2, .int e12.1)]) (fun r19 => []) (fun r19 => r19) (fun r19 h => k_X7_fail X hR hN Z hk0 mw_429 (by decide) (Nat.le_of_ble_eq_true rfl) dX7_readNumber_120 h) (fun r19 => ?_)
            show Gz x 4 123 [(3, .int v13), (0, .ref (xb x + o0)), (1, .int x1), (2, .int e12.1)] [] KDF r19 _ _
            exact g_end [3] rfl rfl rfl
          · refine g1 (pc' := 106) (w_aload_n X dX7_readNumber_105 rfl 1 rfl) ?_
            refine g1 (pc' := 107) (w_iload_n X dX7_readNumber_106 rfl 2 rfl) ?_
            refine g1 (pc' := 108) (w_iload_n X dX7_readNumber_107 rfl 3 rfl) ?_
            refine g_bd (pc' := 111) (fun r20 => [(3, .int v13), (0, .ref (xb x + o0)), (1, .int x1), (2, .int e12.1)]) (fun r20 => [.int r20]) (fun r20 => e12.2) (fun r20 h => k_X7_withinBounds X hR hN Z hk0 mw_443 (by decide) (Nat.le_of_ble_eq_true rfl) dX7_readNumber_108 h) (fun r20 => ?_)
            show Gz x 4 111 [(3, .int v13), (0, .ref (xb x + o0)), (1, .int x1), (2, .int e12.1)] [.int r20] KDF e12.2 _ _
            refine g_if (pcT := 114) (pcF := 123) (w_if_ne (tgt := 123) X dX7_readNumber_111 (by decide)) (fun h21 => ?_) (fun h21 => ?_)
            · refine g1 (pc' := 115) (w_aload_n X dX7_readNumber_114 rfl 1 rfl) ?_
              refine g1 (pc' := 116) (w_iconst X (2) dX7_readNumber_115 (by decide)) ?_
              refine g1 (pc' := 117) (w_aload_n X dX7_readNumber_116 rfl 1 rfl) ?_
              refine g1 (pc' := 120) (gt_7_5 X hk0 mw_170 dX7_readNumber_117) ?_
              refine g_bd (pc' := 123) (fun r22 => [(3, .int v13), (0, .ref (xb x + o0)), (1, .int x1), (2, .int e12.1)]) (fun r22 => []) (fun r22 => r22) (fun r22 h => k_X7_fail X hR hN Z hk0 mw_429 (by decide) (Nat.le_of_ble_eq_true rfl) dX7_readNumber_120 h) (fun r22 => ?_)
              show Gz x 4 123 [(3, .int v13), (0, .ref (xb x + o0)), (1, .int x1), (2, .int e12.1)] [] KDF r22 _ _
              exact g_end [3] rfl rfl rfl
            · exact g_end [3] rfl rfl rfl
      · show Gz x 4 123 [(2, .int e12.1)] [] KDF j15 _ _
        refine g1 (pc' := 124) (w_iload_n X dX7_readNumber_123 rfl 0 rfl) ?_
        exact g_rI2 X dX7_readNumber_124
  exact G _ h _ rfl
theorem k_X7_readNumber {x : Cxt} {cc : ByteArray} {nL : Nat} {own : String} {ret : Option FieldType} (X : Ok x cc nL own ret) {d : Nat} (hR : Rm x d KDF) (hN : Nst x) (Z : xz x = 0) {pc : Nat} {lv : List (Nat × Value)} {rest : List Value} {M : Mm} {o0 : Nat} {x1 : Int32} (hk0 : KDF[o0]? = some (7, 0)) {idx : Nat} (hw : Cond.methodLink own idx yX7_readNumber ∈ tbG) (hdd : 3 + 1 ≤ d) (hrm : (rest.map fun v => v.category).sum ≤ 8) (hd : decode cc pc = .ok (.invokevirtual idx, 3)) {r : Int32} {M' : Mm} (h : f_X7_readNumber o0 x1 M = some (r, M')) : StpZ x nL pc lv (.int x1 :: .ref (xb x + o0) :: rest) KDF M (pc + 3) lv (.int r :: rest) KDF M' :=
  w_callV (st := []) (As := [.int x1]) X hR hN (CtX0 Z (c_X7_readNumber hk0 h)) ⟨Nat.le_refl _, Nat.le_refl _⟩ ⟨Nat.le_refl _, Nat.le_refl _⟩ hk0 (ci := 7) (fs := fs_7 o0) (fun _ _ _ => rfl) rfl hw mw_438 mw_5 mw_67 mw_439 (n := 1) (by decide +kernel) rfl hdd (by decide) hrm hd
def f_X9_addBell (o0 : Nat) (x1 : Int32) (M : Mm) : Option (Mm) :=
  (if (6 : Int32) ≤ (M o0 0) then some M else Lt (st2 M o0 0 ((M o0 0) + (1 : Int32))) (fun M2 => Gd (ib (M o0 0) 6) (Lt (st2 M2 (o0 + 3) (ix (M o0 0)) x1) (fun M4 => some M4))))
set_option maxRecDepth 100000 in
set_option maxHeartbeats 4000000 in
theorem c_X9_addBell {l : Launch} {D : va_G} {an : An} {b : Nat} {o0 : Nat} {x1 : Int32} (hk0 : KDF[o0]? = some (9, 0)) {M : Mm} {M' : Mm} (h : f_X9_addBell o0 x1 M = some M') : Ct l D an b 0 yX9_addBell cX9_addBell 2 none 1 [.ref (b + o0), .int x1] KDF M none KDF M' := by
  refine CtX.mk (as := fun b => [.ref (b + o0), .int x1]) (rv := fun b => none) (by decide) (fun b => Nat.le_of_ble_eq_true rfl) ⟨Nat.le_refl _, Nat.le_refl _⟩ (fun x X hR Z hN _ _ => ?_)
  have X : Ok x cX9_addBell 2 RX9 none := X
  have G : Gz x 2 0 [(0, .ref (xb x + o0)), (1, .int x1)] [] KDF M (f_X9_addBell o0 x1 M) (PsM x KDF) := by
    unfold f_X9_addBell
    refine g1 (pc' := 1) (w_aload_n X dX9_addBell_0 rfl 0 rfl) ?_
    refine g1 (pc' := 4) (gt_9_0 X hk0 mw_113 dX9_addBell_1) ?_
    refine g1 (pc' := 6) (w_bipush X (6) dX9_addBell_4 (by decide)) ?_
    refine g_if (pcT := 26) (pcF := 9) (w_icmp_ge (tgt := 26) X dX9_addBell_6 (by decide)) (fun h1 => ?_) (fun h1 => ?_)
    · exact g_rM X dX9_addBell_26
    · refine g1 (pc' := 10) (w_aload_n X dX9_addBell_9 rfl 0 rfl) ?_
      refine g1 (pc' := 13) (gt_9_6 X hk0 mw_137 dX9_addBell_10) ?_
      refine g1 (pc' := 14) (w_aload_n X dX9_addBell_13 rfl 0 rfl) ?_
      refine g1 (pc' := 15) (w_dup X dX9_addBell_14 rfl) ?_
      refine g1 (pc' := 18) (gt_9_0 X hk0 mw_113 dX9_addBell_15) ?_
      refine g1 (pc' := 19) (w_dup_x1 X dX9_addBell_18 rfl rfl) ?_
      refine g1 (pc' := 20) (w_iconst X (1) dX9_addBell_19 (by decide)) ?_
      refine g1 (pc' := 21) (w_iadd X dX9_addBell_20) ?_
      refine g_lt (pc' := 24) (fun M2 => [(0, .ref (xb x + o0)), (1, .int x1)]) (fun M2 => [.int (M o0 0), .ref (xb x + (o0 + 3))]) (fun M2 => M2) (pt_9_0 X Z hk0 mw_113 dX9_addBell_21) (fun M2 => ?_)
      show Gz x 2 24 [(0, .ref (xb x + o0)), (1, .int x1)] [.int (M o0 0), .ref (xb x + (o0 + 3))] KDF M2 _ _
      refine g1 (pc' := 25) (w_iload_n X dX9_addBell_24 rfl 1 rfl) ?_
      refine g_gd (fun h3 => ?_)
      refine g_lt (pc' := 26) (fun M4 => [(0, .ref (xb x + o0)), (1, .int x1)]) (fun M4 => []) (fun M4 => M4) (w_iast X Z (kd_To3 hk0) h3 dX9_addBell_25) (fun M4 => ?_)
      show Gz x 2 26 [(0, .ref (xb x + o0)), (1, .int x1)] [] KDF M4 _ _
      exact g_rM X dX9_addBell_26
  exact G _ h _ rfl
theorem k_X9_addBell {x : Cxt} {cc : ByteArray} {nL : Nat} {own : String} {ret : Option FieldType} (X : Ok x cc nL own ret) {d : Nat} (hR : Rm x d KDF) (hN : Nst x) (Z : xz x = 0) {pc : Nat} {lv : List (Nat × Value)} {rest : List Value} {M : Mm} {o0 : Nat} {x1 : Int32} (hk0 : KDF[o0]? = some (9, 0)) {idx : Nat} (hw : Cond.methodLink own idx yX9_addBell ∈ tbG) (hdd : 1 + 1 ≤ d) (hrm : (rest.map fun v => v.category).sum ≤ 8) (hd : decode cc pc = .ok (.invokevirtual idx, 3)) {M' : Mm} (h : f_X9_addBell o0 x1 M = some M') : StpZ x nL pc lv (.int x1 :: .ref (xb x + o0) :: rest) KDF M (pc + 3) lv (rest) KDF M' :=
  w_callV (st := []) (As := [.int x1]) X hR hN (CtX0 Z (c_X9_addBell hk0 h)) ⟨Nat.le_refl _, Nat.le_refl _⟩ ⟨Nat.le_refl _, Nat.le_refl _⟩ hk0 (ci := 9) (fs := fs_9 o0) (fun _ _ _ => rfl) rfl hw mw_456 mw_457 mw_65 mw_458 (n := 1) (by decide +kernel) rfl hdd (by decide) hrm hd
def f_X9_addSuitor (o0 : Nat) (x1 : Int32) (M : Mm) : Option (Mm) :=
  (if (6 : Int32) ≤ (M o0 2) then some M else Lt (st2 M o0 2 ((M o0 2) + (1 : Int32))) (fun M2 => Gd (ib (M o0 2) 6) (Lt (st2 M2 (o0 + 4) (ix (M o0 2)) x1) (fun M4 => some M4))))
set_option maxRecDepth 100000 in
set_option maxHeartbeats 4000000 in
theorem c_X9_addSuitor {l : Launch} {D : va_G} {an : An} {b : Nat} {o0 : Nat} {x1 : Int32} (hk0 : KDF[o0]? = some (9, 0)) {M : Mm} {M' : Mm} (h : f_X9_addSuitor o0 x1 M = some M') : Ct l D an b 0 yX9_addSuitor cX9_addSuitor 2 none 1 [.ref (b + o0), .int x1] KDF M none KDF M' := by
  refine CtX.mk (as := fun b => [.ref (b + o0), .int x1]) (rv := fun b => none) (by decide) (fun b => Nat.le_of_ble_eq_true rfl) ⟨Nat.le_refl _, Nat.le_refl _⟩ (fun x X hR Z hN _ _ => ?_)
  have X : Ok x cX9_addSuitor 2 RX9 none := X
  have G : Gz x 2 0 [(0, .ref (xb x + o0)), (1, .int x1)] [] KDF M (f_X9_addSuitor o0 x1 M) (PsM x KDF) := by
    unfold f_X9_addSuitor
    refine g1 (pc' := 1) (w_aload_n X dX9_addSuitor_0 rfl 0 rfl) ?_
    refine g1 (pc' := 4) (gt_9_2 X hk0 mw_125 dX9_addSuitor_1) ?_
    refine g1 (pc' := 6) (w_bipush X (6) dX9_addSuitor_4 (by decide)) ?_
    refine g_if (pcT := 26) (pcF := 9) (w_icmp_ge (tgt := 26) X dX9_addSuitor_6 (by decide)) (fun h1 => ?_) (fun h1 => ?_)
    · exact g_rM X dX9_addSuitor_26
    · refine g1 (pc' := 10) (w_aload_n X dX9_addSuitor_9 rfl 0 rfl) ?_
      refine g1 (pc' := 13) (gt_9_7 X hk0 mw_138 dX9_addSuitor_10) ?_
      refine g1 (pc' := 14) (w_aload_n X dX9_addSuitor_13 rfl 0 rfl) ?_
      refine g1 (pc' := 15) (w_dup X dX9_addSuitor_14 rfl) ?_
      refine g1 (pc' := 18) (gt_9_2 X hk0 mw_125 dX9_addSuitor_15) ?_
      refine g1 (pc' := 19) (w_dup_x1 X dX9_addSuitor_18 rfl rfl) ?_
      refine g1 (pc' := 20) (w_iconst X (1) dX9_addSuitor_19 (by decide)) ?_
      refine g1 (pc' := 21) (w_iadd X dX9_addSuitor_20) ?_
      refine g_lt (pc' := 24) (fun M2 => [(0, .ref (xb x + o0)), (1, .int x1)]) (fun M2 => [.int (M o0 2), .ref (xb x + (o0 + 4))]) (fun M2 => M2) (pt_9_2 X Z hk0 mw_125 dX9_addSuitor_21) (fun M2 => ?_)
      show Gz x 2 24 [(0, .ref (xb x + o0)), (1, .int x1)] [.int (M o0 2), .ref (xb x + (o0 + 4))] KDF M2 _ _
      refine g1 (pc' := 25) (w_iload_n X dX9_addSuitor_24 rfl 1 rfl) ?_
      refine g_gd (fun h3 => ?_)
      refine g_lt (pc' := 26) (fun M4 => [(0, .ref (xb x + o0)), (1, .int x1)]) (fun M4 => []) (fun M4 => M4) (w_iast X Z (kd_To4 hk0) h3 dX9_addSuitor_25) (fun M4 => ?_)
      show Gz x 2 26 [(0, .ref (xb x + o0)), (1, .int x1)] [] KDF M4 _ _
      exact g_rM X dX9_addSuitor_26
  exact G _ h _ rfl
theorem k_X9_addSuitor {x : Cxt} {cc : ByteArray} {nL : Nat} {own : String} {ret : Option FieldType} (X : Ok x cc nL own ret) {d : Nat} (hR : Rm x d KDF) (hN : Nst x) (Z : xz x = 0) {pc : Nat} {lv : List (Nat × Value)} {rest : List Value} {M : Mm} {o0 : Nat} {x1 : Int32} (hk0 : KDF[o0]? = some (9, 0)) {idx : Nat} (hw : Cond.methodLink own idx yX9_addSuitor ∈ tbG) (hdd : 1 + 1 ≤ d) (hrm : (rest.map fun v => v.category).sum ≤ 8) (hd : decode cc pc = .ok (.invokevirtual idx, 3)) {M' : Mm} (h : f_X9_addSuitor o0 x1 M = some M') : StpZ x nL pc lv (.int x1 :: .ref (xb x + o0) :: rest) KDF M (pc + 3) lv (rest) KDF M' :=
  w_callV (st := []) (As := [.int x1]) X hR hN (CtX0 Z (c_X9_addSuitor hk0 h)) ⟨Nat.le_refl _, Nat.le_refl _⟩ ⟨Nat.le_refl _, Nat.le_refl _⟩ hk0 (ci := 9) (fs := fs_9 o0) (fun _ _ _ => rfl) rfl hw mw_460 mw_461 mw_65 mw_462 (n := 1) (by decide +kernel) rfl hdd (by decide) hrm hd
def f_X9_addChange (o0 : Nat) (x1 : Int32) (M : Mm) : Option (Int32 × Mm) :=
  (if (12 : Int32) ≤ (M o0 1) then some ((0 : Int32), M) else Gd (ib (M o0 1) 12) (Gd (KDF[((o0 + 2) + 3 + ix (M o0 1))]? = some (0, 0)) (Bd (f_X0_become ((o0 + 2) + 3 + ix (M o0 1)) x1 (M o0 0) M) (fun r4 => (if r4.1 = 0 then some ((0 : Int32), r4.2) else Lt (st2 r4.2 o0 1 ((r4.2 o0 1) + (1 : Int32))) (fun M6 => some ((1 : Int32), M6)))))))
set_option maxRecDepth 100000 in
set_option maxHeartbeats 4000000 in
theorem c_X9_addChange {l : Launch} {D : va_G} {an : An} {b : Nat} {o0 : Nat} {x1 : Int32} (hk0 : KDF[o0]? = some (9, 0)) {M : Mm} {r : Int32} {M' : Mm} (h : f_X9_addChange o0 x1 M = some (r, M')) : Ct l D an b 0 yX9_addChange cX9_addChange 2 (some .boolean) 3 [.ref (b + o0), .int x1] KDF M (some (.int r)) KDF M' := by
  refine CtX.mk (as := fun b => [.ref (b + o0), .int x1]) (rv := fun b => (some (.int r))) (by decide) (fun b => Nat.le_of_ble_eq_true rfl) ⟨Nat.le_refl _, Nat.le_refl _⟩ (fun x X hR Z hN _ _ => ?_)
  have X : Ok x cX9_addChange 2 RX9 (some .boolean) := X
  have G : Gz x 2 0 [(0, .ref (xb x + o0)), (1, .int x1)] [] KDF M (f_X9_addChange o0 x1 M) (PsI2 x KDF) := by
    unfold f_X9_addChange
    refine g1 (pc' := 1) (w_aload_n X dX9_addChange_0 rfl 0 rfl) ?_
    refine g1 (pc' := 4) (gt_9_1 X hk0 mw_120 dX9_addChange_1) ?_
    refine g1 (pc' := 6) (w_bipush X (12) dX9_addChange_4 (by decide)) ?_
    refine g_if (pcT := 29) (pcF := 9) (w_icmp_ge (tgt := 29) X dX9_addChange_6 (by decide)) (fun h1 => ?_) (fun h1 => ?_)
    · refine g1 (pc' := 30) (w_iconst X (0) dX9_addChange_29 (by decide)) ?_
      exact g_rZ2 X zb0 dX9_addChange_30
    · refine g1 (pc' := 10) (w_aload_n X dX9_addChange_9 rfl 0 rfl) ?_
      refine g1 (pc' := 13) (gt_9_5 X hk0 mw_136 dX9_addChange_10) ?_
      refine g1 (pc' := 14) (w_aload_n X dX9_addChange_13 rfl 0 rfl) ?_
      refine g1 (pc' := 17) (gt_9_1 X hk0 mw_120 dX9_addChange_14) ?_
      refine g_gd (fun h2 => ?_)
      refine g1 (pc' := 18) (w_aald15 X (kd_To2 hk0) h2 dX9_addChange_17) ?_
      refine g_gd (fun h3 => ?_)
      refine g1 (pc' := 19) (w_iload_n X dX9_addChange_18 rfl 1 rfl) ?_
      refine g1 (pc' := 20) (w_aload_n X dX9_addChange_19 rfl 0 rfl) ?_
      refine g1 (pc' := 23) (gt_9_0 X hk0 mw_113 dX9_addChange_20) ?_
      refine g_bd (pc' := 26) (fun r4 => [(0, .ref (xb x + o0)), (1, .int x1)]) (fun r4 => [.int r4.1]) (fun r4 => r4.2) (fun r4 h => k_X0_become X hR hN Z h3 mw_467 (by decide) (Nat.le_of_ble_eq_true rfl) dX9_addChange_23 h) (fun r4 => ?_)
      show Gz x 2 26 [(0, .ref (xb x + o0)), (1, .int x1)] [.int r4.1] KDF r4.2 _ _
      refine g_if (pcT := 29) (pcF := 31) (w_if_ne (tgt := 31) X dX9_addChange_26 (by decide)) (fun h5 => ?_) (fun h5 => ?_)
      · refine g1 (pc' := 30) (w_iconst X (0) dX9_addChange_29 (by decide)) ?_
        exact g_rZ2 X zb0 dX9_addChange_30
      · refine g1 (pc' := 32) (w_aload_n X dX9_addChange_31 rfl 0 rfl) ?_
        refine g1 (pc' := 33) (w_dup X dX9_addChange_32 rfl) ?_
        refine g1 (pc' := 36) (gt_9_1 X hk0 mw_120 dX9_addChange_33) ?_
        refine g1 (pc' := 37) (w_iconst X (1) dX9_addChange_36 (by decide)) ?_
        refine g1 (pc' := 38) (w_iadd X dX9_addChange_37) ?_
        refine g_lt (pc' := 41) (fun M6 => [(0, .ref (xb x + o0)), (1, .int x1)]) (fun M6 => []) (fun M6 => M6) (pt_9_1 X Z hk0 mw_120 dX9_addChange_38) (fun M6 => ?_)
        show Gz x 2 41 [(0, .ref (xb x + o0)), (1, .int x1)] [] KDF M6 _ _
        refine g1 (pc' := 42) (w_iconst X (1) dX9_addChange_41 (by decide)) ?_
        exact g_rZ2 X zb1 dX9_addChange_42
  exact G _ h _ rfl
theorem k_X9_addChange {x : Cxt} {cc : ByteArray} {nL : Nat} {own : String} {ret : Option FieldType} (X : Ok x cc nL own ret) {d : Nat} (hR : Rm x d KDF) (hN : Nst x) (Z : xz x = 0) {pc : Nat} {lv : List (Nat × Value)} {rest : List Value} {M : Mm} {o0 : Nat} {x1 : Int32} (hk0 : KDF[o0]? = some (9, 0)) {idx : Nat} (hw : Cond.methodLink own idx yX9_addChange ∈ tbG) (hdd : 3 + 1 ≤ d) (hrm : (rest.map fun v => v.category).sum ≤ 8) (hd : decode cc pc = .ok (.invokevirtual idx, 3)) {r : Int32} {M' : Mm} (h : f_X9_addChange o0 x1 M = some (r, M')) : StpZ x nL pc lv (.int x1 :: .ref (xb x + o0) :: rest) KDF M (pc + 3) lv (.int r :: rest) KDF M' :=
  w_callV (st := []) (As := [.int x1]) X hR hN (CtX0 Z (c_X9_addChange hk0 h)) ⟨Nat.le_refl _, Nat.le_refl _⟩ ⟨Nat.le_refl _, Nat.le_refl _⟩ hk0 (ci := 9) (fs := fs_9 o0) (fun _ _ _ => rfl) rfl hw mw_464 mw_465 mw_65 mw_466 (n := 1) (by decide +kernel) rfl hdd (by decide) hrm hd
def f_X9_tellCall (o0 : Nat) (x1 : Int32) (M : Mm) : Option (Int32 × Mm) :=
  Lt (st2 M o0 3 (1 : Int32)) (fun M1 => Bd (f_X0_become (o0 + 1) x1 (M1 o0 0) M1) (fun r2 => Gd (zb r2.1) (some (r2.1, r2.2))))
set_option maxRecDepth 100000 in
set_option maxHeartbeats 4000000 in
theorem c_X9_tellCall {l : Launch} {D : va_G} {an : An} {b : Nat} {o0 : Nat} {x1 : Int32} (hk0 : KDF[o0]? = some (9, 0)) {M : Mm} {r : Int32} {M' : Mm} (h : f_X9_tellCall o0 x1 M = some (r, M')) : Ct l D an b 0 yX9_tellCall cX9_tellCall 2 (some .boolean) 3 [.ref (b + o0), .int x1] KDF M (some (.int r)) KDF M' := by
  refine CtX.mk (as := fun b => [.ref (b + o0), .int x1]) (rv := fun b => (some (.int r))) (by decide) (fun b => Nat.le_of_ble_eq_true rfl) ⟨Nat.le_refl _, Nat.le_refl _⟩ (fun x X hR Z hN _ _ => ?_)
  have X : Ok x cX9_tellCall 2 RX9 (some .boolean) := X
  have G : Gz x 2 0 [(0, .ref (xb x + o0)), (1, .int x1)] [] KDF M (f_X9_tellCall o0 x1 M) (PsI2 x KDF) := by
    unfold f_X9_tellCall
    refine g1 (pc' := 1) (w_aload_n X dX9_tellCall_0 rfl 0 rfl) ?_
    refine g1 (pc' := 2) (w_iconst X (1) dX9_tellCall_1 (by decide)) ?_
    refine g_lt (pc' := 5) (fun M1 => [(0, .ref (xb x + o0)), (1, .int x1)]) (fun M1 => []) (fun M1 => M1) (pt_9_3 X Z hk0 zb1 mw_130 dX9_tellCall_2) (fun M1 => ?_)
    show Gz x 2 5 [(0, .ref (xb x + o0)), (1, .int x1)] [] KDF M1 _ _
    refine g1 (pc' := 6) (w_aload_n X dX9_tellCall_5 rfl 0 rfl) ?_
    refine g1 (pc' := 9) (gt_9_4 X hk0 mw_132 dX9_tellCall_6) ?_
    refine g1 (pc' := 10) (w_iload_n X dX9_tellCall_9 rfl 1 rfl) ?_
    refine g1 (pc' := 11) (w_aload_n X dX9_tellCall_10 rfl 0 rfl) ?_
    refine g1 (pc' := 14) (gt_9_0 X hk0 mw_113 dX9_tellCall_11) ?_
    refine g_bd (pc' := 17) (fun r2 => [(0, .ref (xb x + o0)), (1, .int x1)]) (fun r2 => [.int r2.1]) (fun r2 => r2.2) (fun r2 h => k_X0_become X hR hN Z (kd_To1 hk0) mw_467 (by decide) (Nat.le_of_ble_eq_true rfl) dX9_tellCall_14 h) (fun r2 => ?_)
    show Gz x 2 17 [(0, .ref (xb x + o0)), (1, .int x1)] [.int r2.1] KDF r2.2 _ _
    refine g_gd (fun h3 => ?_)
    exact g_rZ2 X h3 dX9_tellCall_17
  exact G _ h _ rfl
theorem k_X9_tellCall {x : Cxt} {cc : ByteArray} {nL : Nat} {own : String} {ret : Option FieldType} (X : Ok x cc nL own ret) {d : Nat} (hR : Rm x d KDF) (hN : Nst x) (Z : xz x = 0) {pc : Nat} {lv : List (Nat × Value)} {rest : List Value} {M : Mm} {o0 : Nat} {x1 : Int32} (hk0 : KDF[o0]? = some (9, 0)) {idx : Nat} (hw : Cond.methodLink own idx yX9_tellCall ∈ tbG) (hdd : 3 + 1 ≤ d) (hrm : (rest.map fun v => v.category).sum ≤ 8) (hd : decode cc pc = .ok (.invokevirtual idx, 3)) {r : Int32} {M' : Mm} (h : f_X9_tellCall o0 x1 M = some (r, M')) : StpZ x nL pc lv (.int x1 :: .ref (xb x + o0) :: rest) KDF M (pc + 3) lv (.int r :: rest) KDF M' :=
  w_callV (st := []) (As := [.int x1]) X hR hN (CtX0 Z (c_X9_tellCall hk0 h)) ⟨Nat.le_refl _, Nat.le_refl _⟩ ⟨Nat.le_refl _, Nat.le_refl _⟩ hk0 (ci := 9) (fs := fs_9 o0) (fun _ _ _ => rfl) rfl hw mw_475 mw_476 mw_65 mw_477 (n := 1) (by decide +kernel) rfl hdd (by decide) hrm hd
def f_X7_enter (o0 : Nat) (x1 : Int32) (x2 : Int32) (M : Mm) : Option (Int32 × Mm) :=
  (if x1 = (98 : Int32) then Gd (KDF[(M o0 3).toNatClampNeg]? = some (9, 0)) (Bd (f_X9_addBell (M o0 3).toNatClampNeg x2 M) (fun r3 => some ((1 : Int32), r3))) else (if x1 = (109 : Int32) then Gd (KDF[(M o0 3).toNatClampNeg]? = some (9, 0)) (Bd (f_X9_addChange (M o0 3).toNatClampNeg x2 M) (fun r6 => Gd (zb r6.1) (some (r6.1, r6.2)))) else (if x1 = (114 : Int32) then Gd (KDF[(M o0 3).toNatClampNeg]? = some (9, 0)) (Bd (f_X9_addSuitor (M o0 3).toNatClampNeg x2 M) (fun r10 => some ((1 : Int32), r10))) else Gd (KDF[(M o0 3).toNatClampNeg]? = some (9, 0)) (Bd (f_X9_tellCall (M o0 3).toNatClampNeg x2 M) (fun r12 => Gd (zb r12.1) (some (r12.1, r12.2)))))))
set_option maxRecDepth 100000 in
set_option maxHeartbeats 4000000 in
theorem c_X7_enter {l : Launch} {D : va_G} {an : An} {b : Nat} {o0 : Nat} {x1 : Int32} {x2 : Int32} (hk0 : KDF[o0]? = some (7, 0)) {M : Mm} {r : Int32} {M' : Mm} (h : f_X7_enter o0 x1 x2 M = some (r, M')) : Ct l D an b 0 yX7_enter cX7_enter 3 (some .boolean) 4 [.ref (b + o0), .int x1, .int x2] KDF M (some (.int r)) KDF M' := by
  refine CtX.mk (as := fun b => [.ref (b + o0), .int x1, .int x2]) (rv := fun b => (some (.int r))) (by decide) (fun b => Nat.le_of_ble_eq_true rfl) ⟨Nat.le_refl _, Nat.le_refl _⟩ (fun x X hR Z hN _ _ => ?_)
  have X : Ok x cX7_enter 3 RX7 (some .boolean) := X
  have G : Gz x 3 0 [(0, .ref (xb x + o0)), (1, .int x1), (2, .int x2)] [] KDF M (f_X7_enter o0 x1 x2 M) (PsI2 x KDF) := by
    unfold f_X7_enter
    refine g1 (pc' := 1) (w_iload_n X dX7_enter_0 rfl 1 rfl) ?_
    refine g_by (fun h1 => ?_) (fun h1 => ?_)
    · refine g1 (pc' := 36) (w_lkup (off := 35) X dX7_enter_1 (by decide) (by rw [h1]; decide) (by decide)) ?_
      refine g1 (pc' := 37) (w_aload_n X dX7_enter_36 rfl 0 rfl) ?_
      refine g1 (pc' := 40) (gt_7_3 X hk0 mw_168 dX7_enter_37) ?_
      refine g_gd (fun h2 => ?_)
      refine g1 (pc' := 41) (w_iload_n X dX7_enter_40 rfl 2 rfl) ?_
      refine g_bd (pc' := 44) (fun r3 => [(0, .ref (xb x + o0)), (1, .int x1), (2, .int x2)]) (fun r3 => []) (fun r3 => r3) (fun r3 h => k_X9_addBell X hR hN Z h2 mw_455 (by decide) (Nat.le_of_ble_eq_true rfl) dX7_enter_41 h) (fun r3 => ?_)
      show Gz x 3 44 [(0, .ref (xb x + o0)), (1, .int x1), (2, .int x2)] [] KDF r3 _ _
      refine g1 (pc' := 45) (w_iconst X (1) dX7_enter_44 (by decide)) ?_
      exact g_rZ2 X zb1 dX7_enter_45
    · refine g_by (fun h4 => ?_) (fun h4 => ?_)
      · refine g1 (pc' := 56) (w_lkup (off := 55) X dX7_enter_1 (by decide) (by rw [h4]; decide) (by decide)) ?_
        refine g1 (pc' := 57) (w_aload_n X dX7_enter_56 rfl 0 rfl) ?_
        refine g1 (pc' := 60) (gt_7_3 X hk0 mw_168 dX7_enter_57) ?_
        refine g_gd (fun h5 => ?_)
        refine g1 (pc' := 61) (w_iload_n X dX7_enter_60 rfl 2 rfl) ?_
        refine g_bd (pc' := 64) (fun r6 => [(0, .ref (xb x + o0)), (1, .int x1), (2, .int x2)]) (fun r6 => [.int r6.1]) (fun r6 => r6.2) (fun r6 h => k_X9_addChange X hR hN Z h5 mw_463 (by decide) (Nat.le_of_ble_eq_true rfl) dX7_enter_61 h) (fun r6 => ?_)
        show Gz x 3 64 [(0, .ref (xb x + o0)), (1, .int x1), (2, .int x2)] [.int r6.1] KDF r6.2 _ _
        refine g_gd (fun h7 => ?_)
        exact g_rZ2 X h7 dX7_enter_64
      · refine g_by (fun h8 => ?_) (fun h8 => ?_)
        · refine g1 (pc' := 46) (w_lkup (off := 45) X dX7_enter_1 (by decide) (by rw [h8]; decide) (by decide)) ?_
          refine g1 (pc' := 47) (w_aload_n X dX7_enter_46 rfl 0 rfl) ?_
          refine g1 (pc' := 50) (gt_7_3 X hk0 mw_168 dX7_enter_47) ?_
          refine g_gd (fun h9 => ?_)
          refine g1 (pc' := 51) (w_iload_n X dX7_enter_50 rfl 2 rfl) ?_
          refine g_bd (pc' := 54) (fun r10 => [(0, .ref (xb x + o0)), (1, .int x1), (2, .int x2)]) (fun r10 => []) (fun r10 => r10) (fun r10 h => k_X9_addSuitor X hR hN Z h9 mw_459 (by decide) (Nat.le_of_ble_eq_true rfl) dX7_enter_51 h) (fun r10 => ?_)
          show Gz x 3 54 [(0, .ref (xb x + o0)), (1, .int x1), (2, .int x2)] [] KDF r10 _ _
          refine g1 (pc' := 55) (w_iconst X (1) dX7_enter_54 (by decide)) ?_
          exact g_rZ2 X zb1 dX7_enter_55
        · refine g1 (pc' := 65) (w_lkup (off := 64) X dX7_enter_1 (by decide) (by rw [lv_osw h1 (by decide), lv_osw h4 (by decide), lv_osw h8 (by decide)]; rfl) (by decide)) ?_
          refine g1 (pc' := 66) (w_aload_n X dX7_enter_65 rfl 0 rfl) ?_
          refine g1 (pc' := 69) (gt_7_3 X hk0 mw_168 dX7_enter_66) ?_
          refine g_gd (fun h11 => ?_)
          refine g1 (pc' := 70) (w_iload_n X dX7_enter_69 rfl 2 rfl) ?_
          refine g_bd (pc' := 73) (fun r12 => [(0, .ref (xb x + o0)), (1, .int x1), (2, .int x2)]) (fun r12 => [.int r12.1]) (fun r12 => r12.2) (fun r12 h => k_X9_tellCall X hR hN Z h11 mw_474 (by decide) (Nat.le_of_ble_eq_true rfl) dX7_enter_70 h) (fun r12 => ?_)
          show Gz x 3 73 [(0, .ref (xb x + o0)), (1, .int x1), (2, .int x2)] [.int r12.1] KDF r12.2 _ _
          refine g_gd (fun h13 => ?_)
          exact g_rZ2 X h13 dX7_enter_73
  exact G _ h _ rfl
theorem k_X7_enter {x : Cxt} {cc : ByteArray} {nL : Nat} {own : String} {ret : Option FieldType} (X : Ok x cc nL own ret) {d : Nat} (hR : Rm x d KDF) (hN : Nst x) (Z : xz x = 0) {pc : Nat} {lv : List (Nat × Value)} {rest : List Value} {M : Mm} {o0 : Nat} {x1 : Int32} {x2 : Int32} (hk0 : KDF[o0]? = some (7, 0)) {idx : Nat} (hw : Cond.methodLink own idx yX7_enter ∈ tbG) (hdd : 4 + 1 ≤ d) (hrm : (rest.map fun v => v.category).sum ≤ 8) (hd : decode cc pc = .ok (.invokevirtual idx, 3)) {r : Int32} {M' : Mm} (h : f_X7_enter o0 x1 x2 M = some (r, M')) : StpZ x nL pc lv (.int x2 :: .int x1 :: .ref (xb x + o0) :: rest) KDF M (pc + 3) lv (.int r :: rest) KDF M' :=
  w_callV (st := []) (As := [.int x1, .int x2]) X hR hN (CtX0 Z (c_X7_enter hk0 h)) ⟨Nat.le_refl _, Nat.le_refl _⟩ ⟨Nat.le_refl _, Nat.le_refl _⟩ hk0 (ci := 7) (fs := fs_7 o0) (fun _ _ _ => rfl) rfl hw mw_453 mw_7 mw_67 mw_454 (n := 2) (by decide +kernel) rfl hdd (by decide) hrm hd
def f_X7_goesOn (o0 : Nat) (x1 : Int32) (x2 : Int32) (M : Mm) : Option (Int32 × Mm) :=
  Bd (f_X7_skipBlanks o0 M) (fun r1 => Lt (((if x1 = (98 : Int32) then (3 : Int32) else (1 : Int32))) : Int32) (fun j2 => Bd (f_X7_letterHere o0 r1) (fun r4 => Bd (((if r4 = (44 : Int32) then Bd (f_X7_mostNumbers x1) (fun r8 => (if r8 ≤ x2 then some (0 : Int32) else some (1 : Int32))) else some (0 : Int32))) : Option (Int32)) (fun j6 => Lt (((if r4 = (59 : Int32) then (if x2 < j2 then (0 : Int32) else (1 : Int32)) else (0 : Int32))) : Int32) (fun j10 => Bd (((if j6 = 0 then (if j10 = 0 then Bd (f_X7_fail o0 (1 : Int32) (r1 o0 4) r1) (fun r18 => some r18) else Lt (st2 r1 o0 4 ((r1 o0 4) + (1 : Int32))) (fun M19 => some M19)) else Lt (st2 r1 o0 4 ((r1 o0 4) + (1 : Int32))) (fun M20 => some M20))) : Option (Mm)) (fun j15 => Gd (zb j6) (some (j6, j15))))))))
set_option maxRecDepth 100000 in
set_option maxHeartbeats 4000000 in
theorem c_X7_goesOn {l : Launch} {D : va_G} {an : An} {b : Nat} {o0 : Nat} {x1 : Int32} {x2 : Int32} (hk0 : KDF[o0]? = some (7, 0)) {M : Mm} {r : Int32} {M' : Mm} (h : f_X7_goesOn o0 x1 x2 M = some (r, M')) : Ct l D an b 0 yX7_goesOn cX7_goesOn 7 (some .boolean) 3 [.ref (b + o0), .int x1, .int x2] KDF M (some (.int r)) KDF M' := by
  refine CtX.mk (as := fun b => [.ref (b + o0), .int x1, .int x2]) (rv := fun b => (some (.int r))) (by decide) (fun b => Nat.le_of_ble_eq_true rfl) ⟨Nat.le_refl _, Nat.le_refl _⟩ (fun x X hR Z hN _ _ => ?_)
  have X : Ok x cX7_goesOn 7 RX7 (some .boolean) := X
  have G : Gz x 7 0 [(0, .ref (xb x + o0)), (1, .int x1), (2, .int x2)] [] KDF M (f_X7_goesOn o0 x1 x2 M) (PsI2 x KDF) := by
    unfold f_X7_goesOn
    refine g1 (pc' := 1) (w_aload_n X dX7_goesOn_0 rfl 0 rfl) ?_
    refine g_bd (pc' := 4) (fun r1 => [(0, .ref (xb x + o0)), (1, .int x1), (2, .int x2)]) (fun r1 => []) (fun r1 => r1) (fun r1 h => k_X7_skipBlanks X hR hN Z hk0 mw_409 (by decide) (Nat.le_of_ble_eq_true rfl) dX7_goesOn_1 h) (fun r1 => ?_)
    show Gz x 7 4 [(0, .ref (xb x + o0)), (1, .int x1), (2, .int x2)] [] KDF r1 _ _
    refine g1 (pc' := 5) (w_iload_n X dX7_goesOn_4 rfl 1 rfl) ?_
    refine g1 (pc' := 7) (w_bipush X (98) dX7_goesOn_5 (by decide)) ?_
    refine g_ltJ (J := 15) (fun j2 => [(0, .ref (xb x + o0)), (1, .int x1), (2, .int x2)]) (fun j2 => [.int j2]) (fun j2 => r1) ?_ (fun j2 => ?_)
    · refine g_ifS (pcT := 10) (pcF := 14) (w_icmp_ne (tgt := 14) X dX7_goesOn_7 (by decide)) (fun h3 => ?_) (fun h3 => ?_)
      · refine g1 (pc' := 11) (w_iconst X (3) dX7_goesOn_10 (by decide)) ?_
        refine g1 (pc' := 15) (w_goto X dX7_goesOn_11 (by decide)) ?_
        exact g_end [0, 1, 2] rfl rfl rfl
      · refine g1 (pc' := 15) (w_iconst X (1) dX7_goesOn_14 (by decide)) ?_
        exact g_end [0, 1, 2] rfl rfl rfl
    · show Gz x 7 15 [(0, .ref (xb x + o0)), (1, .int x1), (2, .int x2)] [.int j2] KDF r1 _ _
      refine g1 (pc' := 16) (lv' := [(3, .int j2), (0, .ref (xb x + o0)), (1, .int x1), (2, .int x2)]) (w_istore_n X dX7_goesOn_15 rfl (by decide) rfl) ?_
      refine g1 (pc' := 17) (w_aload_n X dX7_goesOn_16 rfl 1 rfl) ?_
      refine g_bd (pc' := 20) (fun r4 => [(3, .int j2), (0, .ref (xb x + o0)), (1, .int x1), (2, .int x2)]) (fun r4 => [.int r4]) (fun r4 => r1) (fun r4 h => k_X7_letterHere X hR hN Z hk0 mw_413 (by decide) (Nat.le_of_ble_eq_true rfl) dX7_goesOn_17 h) (fun r4 => ?_)
      show Gz x 7 20 [(3, .int j2), (0, .ref (xb x + o0)), (1, .int x1), (2, .int x2)] [.int r4] KDF r1 _ _
      refine g1 (pc' := 22) (lv' := [(4, .int r4), (3, .int j2), (0, .ref (xb x + o0)), (1, .int x1), (2, .int x2)]) (w_istore X dX7_goesOn_20 (by decide) rfl) ?_
      refine g1 (pc' := 24) (w_iload X dX7_goesOn_22 0 rfl) ?_
      refine g1 (pc' := 26) (w_bipush X (44) dX7_goesOn_24 (by decide)) ?_
      refine g_bdJ (J := 42) (fun j6 => [(0, .ref (xb x + o0)), (2, .int x2), (3, .int j2), (4, .int r4)]) (fun j6 => [.int j6]) (fun j6 => r1) ?_ (fun j6 => ?_)
      · refine g_if (pcT := 29) (pcF := 41) (w_icmp_ne (tgt := 41) X dX7_goesOn_26 (by decide)) (fun h7 => ?_) (fun h7 => ?_)
        · refine g1 (pc' := 30) (w_iload_n X dX7_goesOn_29 rfl 4 rfl) ?_
          refine g1 (pc' := 31) (w_iload_n X dX7_goesOn_30 rfl 3 rfl) ?_
          refine g_bd (pc' := 34) (fun r8 => [(4, .int r4), (3, .int j2), (0, .ref (xb x + o0)), (1, .int x1), (2, .int x2)]) (fun r8 => [.int r8, .int x2]) (fun r8 => r1) (fun r8 h => k_X7_mostNumbers X hR hN Z  mw_433 (by decide) (Nat.le_of_ble_eq_true rfl) dX7_goesOn_31 h) (fun r8 => ?_)
          show Gz x 7 34 [(4, .int r4), (3, .int j2), (0, .ref (xb x + o0)), (1, .int x1), (2, .int x2)] [.int r8, .int x2] KDF r1 _ _
          refine g_if (pcT := 41) (pcF := 37) (w_icmp_ge (tgt := 41) X dX7_goesOn_34 (by decide)) (fun h9 => ?_) (fun h9 => ?_)
          · refine g1 (pc' := 42) (w_iconst X (0) dX7_goesOn_41 (by decide)) ?_
            exact g_end [2, 4, 1, 0] rfl rfl rfl
          · refine g1 (pc' := 38) (w_iconst X (1) dX7_goesOn_37 (by decide)) ?_
            refine g1 (pc' := 42) (w_goto X dX7_goesOn_38 (by decide)) ?_
            exact g_end [2, 4, 1, 0] rfl rfl rfl
        · refine g1 (pc' := 42) (w_iconst X (0) dX7_goesOn_41 (by decide)) ?_
          exact g_end [2, 4, 1, 0] rfl rfl rfl
      · show Gz x 7 42 [(0, .ref (xb x + o0)), (2, .int x2), (3, .int j2), (4, .int r4)] [.int j6] KDF r1 _ _
        refine g1 (pc' := 44) (lv' := [(5, .int j6), (0, .ref (xb x + o0)), (2, .int x2), (3, .int j2), (4, .int r4)]) (w_istore X dX7_goesOn_42 (by decide) rfl) ?_
        refine g1 (pc' := 46) (w_iload X dX7_goesOn_44 4 rfl) ?_
        refine g1 (pc' := 48) (w_bipush X (59) dX7_goesOn_46 (by decide)) ?_
        refine g_ltJ (J := 61) (fun j10 => [(0, .ref (xb x + o0)), (5, .int j6)]) (fun j10 => [.int j10]) (fun j10 => r1) ?_ (fun j10 => ?_)
        · refine g_ifS (pcT := 51) (pcF := 60) (w_icmp_ne (tgt := 60) X dX7_goesOn_48 (by decide)) (fun h11 => ?_) (fun h11 => ?_)
          · refine g1 (pc' := 52) (w_iload_n X dX7_goesOn_51 rfl 2 rfl) ?_
            refine g1 (pc' := 53) (w_iload_n X dX7_goesOn_52 rfl 3 rfl) ?_
            refine g_ifS (pcT := 60) (pcF := 56) (w_icmp_lt (tgt := 60) X dX7_goesOn_53 (by decide)) (fun h12 => ?_) (fun h12 => ?_)
            · refine g1 (pc' := 61) (w_iconst X (0) dX7_goesOn_60 (by decide)) ?_
              exact g_end [1, 0] rfl rfl rfl
            · refine g1 (pc' := 57) (w_iconst X (1) dX7_goesOn_56 (by decide)) ?_
              refine g1 (pc' := 61) (w_goto X dX7_goesOn_57 (by decide)) ?_
              exact g_end [1, 0] rfl rfl rfl
          · refine g1 (pc' := 61) (w_iconst X (0) dX7_goesOn_60 (by decide)) ?_
            exact g_end [1, 0] rfl rfl rfl
        · show Gz x 7 61 [(0, .ref (xb x + o0)), (5, .int j6)] [.int j10] KDF r1 _ _
          refine g1 (pc' := 63) (lv' := [(6, .int j10), (0, .ref (xb x + o0)), (5, .int j6)]) (w_istore X dX7_goesOn_61 (by decide) rfl) ?_
          refine g1 (pc' := 65) (w_iload X dX7_goesOn_63 2 rfl) ?_
          refine g_bdJ (J := 95) (fun j15 => [(5, .int j6)]) (fun j15 => []) (fun j15 => j15) ?_ (fun j15 => ?_)
          · refine g_if (pcT := 68) (pcF := 73) (w_if_ne (tgt := 73) X dX7_goesOn_65 (by decide)) (fun h16 => ?_) (fun h16 => ?_)
            · refine g1 (pc' := 70) (w_iload X dX7_goesOn_68 0 rfl) ?_
              refine g_if (pcT := 86) (pcF := 73) (w_if_eq (tgt := 86) X dX7_goesOn_70 (by decide)) (fun h17 => ?_) (fun h17 => ?_)
              · refine g1 (pc' := 87) (w_aload_n X dX7_goesOn_86 rfl 1 rfl) ?_
                refine g1 (pc' := 88) (w_iconst X (1) dX7_goesOn_87 (by decide)) ?_
                refine g1 (pc' := 89) (w_aload_n X dX7_goesOn_88 rfl 1 rfl) ?_
                refine g1 (pc' := 92) (gt_7_4 X hk0 mw_169 dX7_goesOn_89) ?_
                refine g_bd (pc' := 95) (fun r18 => [(6, .int j10), (0, .ref (xb x + o0)), (5, .int j6)]) (fun r18 => []) (fun r18 => r18) (fun r18 h => k_X7_fail X hR hN Z hk0 mw_429 (by decide) (Nat.le_of_ble_eq_true rfl) dX7_goesOn_92 h) (fun r18 => ?_)
                show Gz x 7 95 [(6, .int j10), (0, .ref (xb x + o0)), (5, .int j6)] [] KDF r18 _ _
                exact g_end [2] rfl rfl rfl
              · refine g1 (pc' := 74) (w_aload_n X dX7_goesOn_73 rfl 1 rfl) ?_
                refine g1 (pc' := 75) (w_dup X dX7_goesOn_74 rfl) ?_
                refine g1 (pc' := 78) (gt_7_4 X hk0 mw_169 dX7_goesOn_75) ?_
                refine g1 (pc' := 79) (w_iconst X (1) dX7_goesOn_78 (by decide)) ?_
                refine g1 (pc' := 80) (w_iadd X dX7_goesOn_79) ?_
                refine g_lt (pc' := 83) (fun M19 => [(6, .int j10), (0, .ref (xb x + o0)), (5, .int j6)]) (fun M19 => []) (fun M19 => M19) (pt_7_4 X Z hk0 mw_169 dX7_goesOn_80) (fun M19 => ?_)
                show Gz x 7 83 [(6, .int j10), (0, .ref (xb x + o0)), (5, .int j6)] [] KDF M19 _ _
                refine g1 (pc' := 95) (w_goto X dX7_goesOn_83 (by decide)) ?_
                exact g_end [2] rfl rfl rfl
            · refine g1 (pc' := 74) (w_aload_n X dX7_goesOn_73 rfl 1 rfl) ?_
              refine g1 (pc' := 75) (w_dup X dX7_goesOn_74 rfl) ?_
              refine g1 (pc' := 78) (gt_7_4 X hk0 mw_169 dX7_goesOn_75) ?_
              refine g1 (pc' := 79) (w_iconst X (1) dX7_goesOn_78 (by decide)) ?_
              refine g1 (pc' := 80) (w_iadd X dX7_goesOn_79) ?_
              refine g_lt (pc' := 83) (fun M20 => [(6, .int j10), (0, .ref (xb x + o0)), (5, .int j6)]) (fun M20 => []) (fun M20 => M20) (pt_7_4 X Z hk0 mw_169 dX7_goesOn_80) (fun M20 => ?_)
              show Gz x 7 83 [(6, .int j10), (0, .ref (xb x + o0)), (5, .int j6)] [] KDF M20 _ _
              refine g1 (pc' := 95) (w_goto X dX7_goesOn_83 (by decide)) ?_
              exact g_end [2] rfl rfl rfl
          · show Gz x 7 95 [(5, .int j6)] [] KDF j15 _ _
            refine g1 (pc' := 97) (w_iload X dX7_goesOn_95 0 rfl) ?_
            refine g_gd (fun h21 => ?_)
            exact g_rZ2 X h21 dX7_goesOn_97
  exact G _ h _ rfl
theorem k_X7_goesOn {x : Cxt} {cc : ByteArray} {nL : Nat} {own : String} {ret : Option FieldType} (X : Ok x cc nL own ret) {d : Nat} (hR : Rm x d KDF) (hN : Nst x) (Z : xz x = 0) {pc : Nat} {lv : List (Nat × Value)} {rest : List Value} {M : Mm} {o0 : Nat} {x1 : Int32} {x2 : Int32} (hk0 : KDF[o0]? = some (7, 0)) {idx : Nat} (hw : Cond.methodLink own idx yX7_goesOn ∈ tbG) (hdd : 3 + 1 ≤ d) (hrm : (rest.map fun v => v.category).sum ≤ 8) (hd : decode cc pc = .ok (.invokevirtual idx, 3)) {r : Int32} {M' : Mm} (h : f_X7_goesOn o0 x1 x2 M = some (r, M')) : StpZ x nL pc lv (.int x2 :: .int x1 :: .ref (xb x + o0) :: rest) KDF M (pc + 3) lv (.int r :: rest) KDF M' :=
  w_callV (st := []) (As := [.int x1, .int x2]) X hR hN (CtX0 Z (c_X7_goesOn hk0 h)) ⟨Nat.le_refl _, Nat.le_refl _⟩ ⟨Nat.le_refl _, Nat.le_refl _⟩ hk0 (ci := 7) (fs := fs_7 o0) (fun _ _ _ => rfl) rfl hw mw_480 mw_8 mw_67 mw_481 (n := 2) (by decide +kernel) rfl hdd (by decide) hrm hd
def b_X7_readClause_46 (o0 : Nat) (r1 : Int32) (r5 : Int32) (s46 : Int32 × Int32 × Mm) : Option ((Int32 × Int32 × Mm) ⊕ (Mm)) :=
  (if r5 < s46.2.1 then some (.inr s46.2.2) else (if s46.1 = 0 then some (.inr s46.2.2) else Bd (f_X7_readNumber o0 r1 s46.2.2) (fun r8 => Bd (((if (r8.2 o0 6) = 0 then Bd (f_X7_enter o0 r1 r8.1 r8.2) (fun r12 => (if r12.1 = 0 then Bd (f_X7_fail o0 (4 : Int32) (r12.2 o0 5) r12.2) (fun r14 => some r14) else some r12.2)) else some r8.2)) : Option (Mm)) (fun j10 => Bd (((if (j10 o0 6) = 0 then Bd (f_X7_goesOn o0 r1 s46.2.1 j10) (fun r18 => (if r18.1 = 0 then some ((0 : Int32), r18.2) else some ((1 : Int32), r18.2))) else some ((0 : Int32), j10))) : Option (Int32 × Mm)) (fun j16 => Lt (s46.2.1 + (1 : Int32)) (fun v20 => some (.inl (j16.1, v20, j16.2))))))))
def f_X7_readClause (o0 : Nat) (M : Mm) : Option (Mm) :=
  Bd (f_X7_letterHere o0 M) (fun r1 => Bd (f_X7_faultOfWord o0 r1 M) (fun r2 => (if r2 = 0 then Lt (st2 M o0 4 ((M o0 4) + (1 : Int32))) (fun M4 => Bd (f_X7_mostNumbers r1) (fun r5 => Bd (Lp (b_X7_readClause_46 o0 r1 r5) 100000 ((1 : Int32), (1 : Int32), M4)) (fun e21 => some e21))) else Bd (f_X7_fail o0 r2 (M o0 4) M) (fun r22 => some r22))))
set_option maxRecDepth 100000 in
set_option maxHeartbeats 4000000 in
theorem c_X7_readClause {l : Launch} {D : va_G} {an : An} {b : Nat} {o0 : Nat} (hk0 : KDF[o0]? = some (7, 0)) {M : Mm} {M' : Mm} (h : f_X7_readClause o0 M = some M') : Ct l D an b 0 yX7_readClause cX7_readClause 7 none 5 [.ref (b + o0)] KDF M none KDF M' := by
  refine CtX.mk (as := fun b => [.ref (b + o0)]) (rv := fun b => none) (by decide) (fun b => Nat.le_of_ble_eq_true rfl) ⟨Nat.le_refl _, Nat.le_refl _⟩ (fun x X hR Z hN _ _ => ?_)
  have X : Ok x cX7_readClause 7 RX7 none := X
  have G : Gz x 7 0 [(0, .ref (xb x + o0))] [] KDF M (f_X7_readClause o0 M) (PsM x KDF) := by
    unfold f_X7_readClause
    refine g1 (pc' := 1) (w_aload_n X dX7_readClause_0 rfl 0 rfl) ?_
    refine g_bd (pc' := 4) (fun r1 => [(0, .ref (xb x + o0))]) (fun r1 => [.int r1]) (fun r1 => M) (fun r1 h => k_X7_letterHere X hR hN Z hk0 mw_413 (by decide) (Nat.le_of_ble_eq_true rfl) dX7_readClause_1 h) (fun r1 => ?_)
    show Gz x 7 4 [(0, .ref (xb x + o0))] [.int r1] KDF M _ _
    refine g1 (pc' := 5) (lv' := [(1, .int r1), (0, .ref (xb x + o0))]) (w_istore_n X dX7_readClause_4 rfl (by decide) rfl) ?_
    refine g1 (pc' := 6) (w_aload_n X dX7_readClause_5 rfl 1 rfl) ?_
    refine g1 (pc' := 7) (w_iload_n X dX7_readClause_6 rfl 0 rfl) ?_
    refine g_bd (pc' := 10) (fun r2 => [(1, .int r1), (0, .ref (xb x + o0))]) (fun r2 => [.int r2]) (fun r2 => M) (fun r2 h => k_X7_faultOfWord X hR hN Z hk0 mw_421 (by decide) (Nat.le_of_ble_eq_true rfl) dX7_readClause_7 h) (fun r2 => ?_)
    show Gz x 7 10 [(1, .int r1), (0, .ref (xb x + o0))] [.int r2] KDF M _ _
    refine g1 (pc' := 11) (lv' := [(2, .int r2), (1, .int r1), (0, .ref (xb x + o0))]) (w_istore_n X dX7_readClause_10 rfl (by decide) rfl) ?_
    refine g1 (pc' := 12) (w_iload_n X dX7_readClause_11 rfl 0 rfl) ?_
    refine g_if (pcT := 25) (pcF := 15) (w_if_eq (tgt := 25) X dX7_readClause_12 (by decide)) (fun h3 => ?_) (fun h3 => ?_)
    · refine g1 (pc' := 26) (w_aload_n X dX7_readClause_25 rfl 2 rfl) ?_
      refine g1 (pc' := 27) (w_dup X dX7_readClause_26 rfl) ?_
      refine g1 (pc' := 30) (gt_7_4 X hk0 mw_169 dX7_readClause_27) ?_
      refine g1 (pc' := 31) (w_iconst X (1) dX7_readClause_30 (by decide)) ?_
      refine g1 (pc' := 32) (w_iadd X dX7_readClause_31) ?_
      refine g_lt (pc' := 35) (fun M4 => [(2, .int r2), (1, .int r1), (0, .ref (xb x + o0))]) (fun M4 => []) (fun M4 => M4) (pt_7_4 X Z hk0 mw_169 dX7_readClause_32) (fun M4 => ?_)
      show Gz x 7 35 [(2, .int r2), (1, .int r1), (0, .ref (xb x + o0))] [] KDF M4 _ _
      refine g1 (pc' := 36) (w_iload_n X dX7_readClause_35 rfl 1 rfl) ?_
      refine g_bd (pc' := 39) (fun r5 => [(2, .int r2), (1, .int r1), (0, .ref (xb x + o0))]) (fun r5 => [.int r5]) (fun r5 => M4) (fun r5 h => k_X7_mostNumbers X hR hN Z  mw_433 (by decide) (Nat.le_of_ble_eq_true rfl) dX7_readClause_36 h) (fun r5 => ?_)
      show Gz x 7 39 [(2, .int r2), (1, .int r1), (0, .ref (xb x + o0))] [.int r5] KDF M4 _ _
      refine g1 (pc' := 40) (lv' := [(3, .int r5), (2, .int r2), (1, .int r1), (0, .ref (xb x + o0))]) (w_istore_n X dX7_readClause_39 rfl (by decide) rfl) ?_
      refine g1 (pc' := 41) (w_iconst X (1) dX7_readClause_40 (by decide)) ?_
      refine g1 (pc' := 43) (lv' := [(4, .int (1 : Int32)), (3, .int r5), (2, .int r2), (1, .int r1), (0, .ref (xb x + o0))]) (w_istore X dX7_readClause_41 (by decide) rfl) ?_
      refine g1 (pc' := 44) (w_iconst X (1) dX7_readClause_43 (by decide)) ?_
      refine g1 (pc' := 46) (lv' := [(5, .int (1 : Int32)), (4, .int (1 : Int32)), (3, .int r5), (2, .int r2), (1, .int r1), (0, .ref (xb x + o0))]) (w_istore X dX7_readClause_44 (by decide) rfl) ?_
      refine g_pick (lv' := [(0, .ref (xb x + o0)), (1, .int r1), (3, .int r5), (4, .int (1 : Int32)), (5, .int (1 : Int32))]) [5, 4, 2, 1, 0] rfl ?_
      refine g_bdJ (J := 120) (fun e21 => []) (fun e21 => []) (fun e21 => e21) (g_lp (fun s46 => [(0, .ref (xb x + o0)), (1, .int r1), (3, .int r5), (4, .int s46.1), (5, .int s46.2.1)]) (fun s46 => s46.2.2) (fun s46 => ?_) 100000 ((1 : Int32), (1 : Int32), M4)) (fun e21 => ?_)
      · show Gz x 7 46 [(0, .ref (xb x + o0)), (1, .int r1), (3, .int r5), (4, .int s46.1), (5, .int s46.2.1)] [] KDF s46.2.2 (b_X7_readClause_46 o0 r1 r5 s46) _
        unfold b_X7_readClause_46
        refine g1 (pc' := 48) (w_iload X dX7_readClause_46 4 rfl) ?_
        refine g1 (pc' := 49) (w_iload_n X dX7_readClause_48 rfl 2 rfl) ?_
        refine g_if (pcT := 120) (pcF := 52) (w_icmp_gt (tgt := 120) X dX7_readClause_49 (by decide)) (fun h6 => ?_) (fun h6 => ?_)
        · refine g_inr ?_
          exact g_end [] rfl rfl rfl
        · refine g1 (pc' := 54) (w_iload X dX7_readClause_52 3 rfl) ?_
          refine g_if (pcT := 120) (pcF := 57) (w_if_eq (tgt := 120) X dX7_readClause_54 (by decide)) (fun h7 => ?_) (fun h7 => ?_)
          · refine g_inr ?_
            exact g_end [] rfl rfl rfl
          · refine g1 (pc' := 58) (w_aload_n X dX7_readClause_57 rfl 0 rfl) ?_
            refine g1 (pc' := 59) (w_iload_n X dX7_readClause_58 rfl 1 rfl) ?_
            refine g_bd (pc' := 62) (fun r8 => [(0, .ref (xb x + o0)), (1, .int r1), (3, .int r5), (4, .int s46.1), (5, .int s46.2.1)]) (fun r8 => [.int r8.1]) (fun r8 => r8.2) (fun r8 h => k_X7_readNumber X hR hN Z hk0 mw_436 (by decide) (Nat.le_of_ble_eq_true rfl) dX7_readClause_59 h) (fun r8 => ?_)
            show Gz x 7 62 [(0, .ref (xb x + o0)), (1, .int r1), (3, .int r5), (4, .int s46.1), (5, .int s46.2.1)] [.int r8.1] KDF r8.2 _ _
            refine g1 (pc' := 64) (lv' := [(6, .int r8.1), (0, .ref (xb x + o0)), (1, .int r1), (3, .int r5), (4, .int s46.1), (5, .int s46.2.1)]) (w_istore X dX7_readClause_62 (by decide) rfl) ?_
            refine g1 (pc' := 65) (w_aload_n X dX7_readClause_64 rfl 1 rfl) ?_
            refine g1 (pc' := 68) (gt_7_6 X hk0 mw_171 dX7_readClause_65) ?_
            refine g_bdJ (J := 90) (fun j10 => [(0, .ref (xb x + o0)), (1, .int r1), (3, .int r5), (5, .int s46.2.1)]) (fun j10 => []) (fun j10 => j10) ?_ (fun j10 => ?_)
            · refine g_if (pcT := 71) (pcF := 90) (w_if_ne (tgt := 90) X dX7_readClause_68 (by decide)) (fun h11 => ?_) (fun h11 => ?_)
              · refine g1 (pc' := 72) (w_aload_n X dX7_readClause_71 rfl 1 rfl) ?_
                refine g1 (pc' := 73) (w_iload_n X dX7_readClause_72 rfl 2 rfl) ?_
                refine g1 (pc' := 75) (w_iload X dX7_readClause_73 0 rfl) ?_
                refine g_bd (pc' := 78) (fun r12 => [(6, .int r8.1), (0, .ref (xb x + o0)), (1, .int r1), (3, .int r5), (4, .int s46.1), (5, .int s46.2.1)]) (fun r12 => [.int r12.1]) (fun r12 => r12.2) (fun r12 h => k_X7_enter X hR hN Z hk0 mw_451 (by decide) (Nat.le_of_ble_eq_true rfl) dX7_readClause_75 h) (fun r12 => ?_)
                show Gz x 7 78 [(6, .int r8.1), (0, .ref (xb x + o0)), (1, .int r1), (3, .int r5), (4, .int s46.1), (5, .int s46.2.1)] [.int r12.1] KDF r12.2 _ _
                refine g_if (pcT := 81) (pcF := 90) (w_if_ne (tgt := 90) X dX7_readClause_78 (by decide)) (fun h13 => ?_) (fun h13 => ?_)
                · refine g1 (pc' := 82) (w_aload_n X dX7_readClause_81 rfl 1 rfl) ?_
                  refine g1 (pc' := 83) (w_iconst X (4) dX7_readClause_82 (by decide)) ?_
                  refine g1 (pc' := 84) (w_aload_n X dX7_readClause_83 rfl 1 rfl) ?_
                  refine g1 (pc' := 87) (gt_7_5 X hk0 mw_170 dX7_readClause_84) ?_
                  refine g_bd (pc' := 90) (fun r14 => [(6, .int r8.1), (0, .ref (xb x + o0)), (1, .int r1), (3, .int r5), (4, .int s46.1), (5, .int s46.2.1)]) (fun r14 => []) (fun r14 => r14) (fun r14 h => k_X7_fail X hR hN Z hk0 mw_429 (by decide) (Nat.le_of_ble_eq_true rfl) dX7_readClause_87 h) (fun r14 => ?_)
                  show Gz x 7 90 [(6, .int r8.1), (0, .ref (xb x + o0)), (1, .int r1), (3, .int r5), (4, .int s46.1), (5, .int s46.2.1)] [] KDF r14 _ _
                  exact g_end [1, 2, 3, 5] rfl rfl rfl
                · exact g_end [1, 2, 3, 5] rfl rfl rfl
              · exact g_end [1, 2, 3, 5] rfl rfl rfl
            · show Gz x 7 90 [(0, .ref (xb x + o0)), (1, .int r1), (3, .int r5), (5, .int s46.2.1)] [] KDF j10 _ _
              refine g1 (pc' := 91) (w_aload_n X dX7_readClause_90 rfl 0 rfl) ?_
              refine g1 (pc' := 94) (gt_7_6 X hk0 mw_171 dX7_readClause_91) ?_
              refine g_bdJ (J := 112) (fun j16 => [(0, .ref (xb x + o0)), (1, .int r1), (3, .int r5), (5, .int s46.2.1)]) (fun j16 => [.int j16.1]) (fun j16 => j16.2) ?_ (fun j16 => ?_)
              · refine g_if (pcT := 97) (pcF := 111) (w_if_ne (tgt := 111) X dX7_readClause_94 (by decide)) (fun h17 => ?_) (fun h17 => ?_)
                · refine g1 (pc' := 98) (w_aload_n X dX7_readClause_97 rfl 0 rfl) ?_
                  refine g1 (pc' := 99) (w_iload_n X dX7_readClause_98 rfl 1 rfl) ?_
                  refine g1 (pc' := 101) (w_iload X dX7_readClause_99 3 rfl) ?_
                  refine g_bd (pc' := 104) (fun r18 => [(0, .ref (xb x + o0)), (1, .int r1), (3, .int r5), (5, .int s46.2.1)]) (fun r18 => [.int r18.1]) (fun r18 => r18.2) (fun r18 h => k_X7_goesOn X hR hN Z hk0 mw_478 (by decide) (Nat.le_of_ble_eq_true rfl) dX7_readClause_101 h) (fun r18 => ?_)
                  show Gz x 7 104 [(0, .ref (xb x + o0)), (1, .int r1), (3, .int r5), (5, .int s46.2.1)] [.int r18.1] KDF r18.2 _ _
                  refine g_if (pcT := 111) (pcF := 107) (w_if_eq (tgt := 111) X dX7_readClause_104 (by decide)) (fun h19 => ?_) (fun h19 => ?_)
                  · refine g1 (pc' := 112) (w_iconst X (0) dX7_readClause_111 (by decide)) ?_
                    exact g_end [0, 1, 2, 3] rfl rfl rfl
                  · refine g1 (pc' := 108) (w_iconst X (1) dX7_readClause_107 (by decide)) ?_
                    refine g1 (pc' := 112) (w_goto X dX7_readClause_108 (by decide)) ?_
                    exact g_end [0, 1, 2, 3] rfl rfl rfl
                · refine g1 (pc' := 112) (w_iconst X (0) dX7_readClause_111 (by decide)) ?_
                  exact g_end [0, 1, 2, 3] rfl rfl rfl
              · show Gz x 7 112 [(0, .ref (xb x + o0)), (1, .int r1), (3, .int r5), (5, .int s46.2.1)] [.int j16.1] KDF j16.2 _ _
                refine g1 (pc' := 114) (lv' := [(4, .int j16.1), (0, .ref (xb x + o0)), (1, .int r1), (3, .int r5), (5, .int s46.2.1)]) (w_istore X dX7_readClause_112 (by decide) rfl) ?_
                refine g_lt (pc' := 117) (fun v20 => [(5, .int v20), (4, .int j16.1), (0, .ref (xb x + o0)), (1, .int r1), (3, .int r5)]) (fun v20 => []) (fun v20 => j16.2) (w_iinc X dX7_readClause_114 4 rfl rfl (by decide) rfl) (fun v20 => ?_)
                show Gz x 7 117 [(5, .int v20), (4, .int j16.1), (0, .ref (xb x + o0)), (1, .int r1), (3, .int r5)] [] KDF j16.2 _ _
                refine g1 (pc' := 46) (w_goto X dX7_readClause_117 (by decide)) ?_
                refine g_inl ?_
                exact g_end [2, 3, 4, 1, 0] rfl rfl rfl
      · show Gz x 7 120 [] [] KDF e21 _ _
        exact g_rM X dX7_readClause_120
    · refine g1 (pc' := 16) (w_aload_n X dX7_readClause_15 rfl 2 rfl) ?_
      refine g1 (pc' := 17) (w_iload_n X dX7_readClause_16 rfl 0 rfl) ?_
      refine g1 (pc' := 18) (w_aload_n X dX7_readClause_17 rfl 2 rfl) ?_
      refine g1 (pc' := 21) (gt_7_4 X hk0 mw_169 dX7_readClause_18) ?_
      refine g_bd (pc' := 24) (fun r22 => [(2, .int r2), (1, .int r1), (0, .ref (xb x + o0))]) (fun r22 => []) (fun r22 => r22) (fun r22 h => k_X7_fail X hR hN Z hk0 mw_429 (by decide) (Nat.le_of_ble_eq_true rfl) dX7_readClause_21 h) (fun r22 => ?_)
      show Gz x 7 24 [(2, .int r2), (1, .int r1), (0, .ref (xb x + o0))] [] KDF r22 _ _
      exact g_rM X dX7_readClause_24
  exact G _ h _ rfl
theorem k_X7_readClause {x : Cxt} {cc : ByteArray} {nL : Nat} {own : String} {ret : Option FieldType} (X : Ok x cc nL own ret) {d : Nat} (hR : Rm x d KDF) (hN : Nst x) (Z : xz x = 0) {pc : Nat} {lv : List (Nat × Value)} {rest : List Value} {M : Mm} {o0 : Nat} (hk0 : KDF[o0]? = some (7, 0)) {idx : Nat} (hw : Cond.methodLink own idx yX7_readClause ∈ tbG) (hdd : 5 + 1 ≤ d) (hrm : (rest.map fun v => v.category).sum ≤ 8) (hd : decode cc pc = .ok (.invokevirtual idx, 3)) {M' : Mm} (h : f_X7_readClause o0 M = some M') : StpZ x nL pc lv (.ref (xb x + o0) :: rest) KDF M (pc + 3) lv (rest) KDF M' :=
  w_callV (st := []) (As := []) X hR hN (CtX0 Z (c_X7_readClause hk0 h)) ⟨Nat.le_refl _, Nat.le_refl _⟩ ⟨Nat.le_refl _, Nat.le_refl _⟩ hk0 (ci := 7) (fs := fs_7 o0) (fun _ _ _ => rfl) rfl hw mw_419 mw_2 mw_67 mw_420 (n := 0) (by decide +kernel) rfl hdd (by decide) hrm hd
def f_X9_complete (o0 : Nat) (M : Mm) : Option (Mm) :=
  Bd (((if (f_X9_stands o0 M) = 0 then some M else (if (M o0 1) = 0 then Bd (f_X9_addChange o0 (f_X9_allPlaces o0 M) M) (fun r6 => some r6.2) else some M))) : Option (Mm)) (fun j3 => (if (f_X9_stands o0 j3) = 0 then some j3 else (if (j3 o0 3) = 0 then Bd (f_X9_tellCall o0 (f_X9_allPlaces o0 j3) j3) (fun r9 => some r9.2) else some j3)))
set_option maxRecDepth 100000 in
set_option maxHeartbeats 4000000 in
theorem c_X9_complete {l : Launch} {D : va_G} {an : An} {b : Nat} {o0 : Nat} (hk0 : KDF[o0]? = some (9, 0)) {M : Mm} {M' : Mm} (h : f_X9_complete o0 M = some M') : Ct l D an b 0 yX9_complete cX9_complete 1 none 4 [.ref (b + o0)] KDF M none KDF M' := by
  refine CtX.mk (as := fun b => [.ref (b + o0)]) (rv := fun b => none) (by decide) (fun b => Nat.le_of_ble_eq_true rfl) ⟨Nat.le_refl _, Nat.le_refl _⟩ (fun x X hR Z hN _ _ => ?_)
  have X : Ok x cX9_complete 1 RX9 none := X
  have G : Gz x 1 0 [(0, .ref (xb x + o0))] [] KDF M (f_X9_complete o0 M) (PsM x KDF) := by
    unfold f_X9_complete
    refine g1 (pc' := 1) (w_aload_n X dX9_complete_0 rfl 0 rfl) ?_
    refine g1 (pc' := 4) (k_X9_stands X hR hN Z hk0 mw_486 (by decide) (Nat.le_of_ble_eq_true rfl) dX9_complete_1) ?_
    refine g_bdJ (J := 23) (fun j3 => [(0, .ref (xb x + o0))]) (fun j3 => []) (fun j3 => j3) ?_ (fun j3 => ?_)
    · refine g_if (pcT := 23) (pcF := 7) (w_if_eq (tgt := 23) X dX9_complete_4 (by decide)) (fun h4 => ?_) (fun h4 => ?_)
      · exact g_end [0] rfl rfl rfl
      · refine g1 (pc' := 8) (w_aload_n X dX9_complete_7 rfl 0 rfl) ?_
        refine g1 (pc' := 11) (gt_9_1 X hk0 mw_120 dX9_complete_8) ?_
        refine g_if (pcT := 14) (pcF := 23) (w_if_ne (tgt := 23) X dX9_complete_11 (by decide)) (fun h5 => ?_) (fun h5 => ?_)
        · refine g1 (pc' := 15) (w_aload_n X dX9_complete_14 rfl 0 rfl) ?_
          refine g1 (pc' := 16) (w_aload_n X dX9_complete_15 rfl 0 rfl) ?_
          refine g1 (pc' := 19) (k_X9_allPlaces X hR hN Z hk0 mw_487 (by decide) (Nat.le_of_ble_eq_true rfl) dX9_complete_16) ?_
          refine g_bd (pc' := 22) (fun r6 => [(0, .ref (xb x + o0))]) (fun r6 => [.int r6.1]) (fun r6 => r6.2) (fun r6 h => k_X9_addChange X hR hN Z hk0 mw_488 (by decide) (Nat.le_of_ble_eq_true rfl) dX9_complete_19 h) (fun r6 => ?_)
          show Gz x 1 22 [(0, .ref (xb x + o0))] [.int r6.1] KDF r6.2 _ _
          refine g1 (pc' := 23) (w_pop X dX9_complete_22 rfl) ?_
          exact g_end [0] rfl rfl rfl
        · exact g_end [0] rfl rfl rfl
    · show Gz x 1 23 [(0, .ref (xb x + o0))] [] KDF j3 _ _
      refine g1 (pc' := 24) (w_aload_n X dX9_complete_23 rfl 0 rfl) ?_
      refine g1 (pc' := 27) (k_X9_stands X hR hN Z hk0 mw_486 (by decide) (Nat.le_of_ble_eq_true rfl) dX9_complete_24) ?_
      refine g_if (pcT := 46) (pcF := 30) (w_if_eq (tgt := 46) X dX9_complete_27 (by decide)) (fun h7 => ?_) (fun h7 => ?_)
      · exact g_rM X dX9_complete_46
      · refine g1 (pc' := 31) (w_aload_n X dX9_complete_30 rfl 0 rfl) ?_
        refine g1 (pc' := 34) (gt_9_3 X hk0 mw_130 dX9_complete_31) ?_
        refine g_if (pcT := 37) (pcF := 46) (w_if_ne (tgt := 46) X dX9_complete_34 (by decide)) (fun h8 => ?_) (fun h8 => ?_)
        · refine g1 (pc' := 38) (w_aload_n X dX9_complete_37 rfl 0 rfl) ?_
          refine g1 (pc' := 39) (w_aload_n X dX9_complete_38 rfl 0 rfl) ?_
          refine g1 (pc' := 42) (k_X9_allPlaces X hR hN Z hk0 mw_487 (by decide) (Nat.le_of_ble_eq_true rfl) dX9_complete_39) ?_
          refine g_bd (pc' := 45) (fun r9 => [(0, .ref (xb x + o0))]) (fun r9 => [.int r9.1]) (fun r9 => r9.2) (fun r9 h => k_X9_tellCall X hR hN Z hk0 mw_489 (by decide) (Nat.le_of_ble_eq_true rfl) dX9_complete_42 h) (fun r9 => ?_)
          show Gz x 1 45 [(0, .ref (xb x + o0))] [.int r9.1] KDF r9.2 _ _
          refine g1 (pc' := 46) (w_pop X dX9_complete_45 rfl) ?_
          exact g_rM X dX9_complete_46
        · exact g_rM X dX9_complete_46
  exact G _ h _ rfl
theorem k_X9_complete {x : Cxt} {cc : ByteArray} {nL : Nat} {own : String} {ret : Option FieldType} (X : Ok x cc nL own ret) {d : Nat} (hR : Rm x d KDF) (hN : Nst x) (Z : xz x = 0) {pc : Nat} {lv : List (Nat × Value)} {rest : List Value} {M : Mm} {o0 : Nat} (hk0 : KDF[o0]? = some (9, 0)) {idx : Nat} (hw : Cond.methodLink own idx yX9_complete ∈ tbG) (hdd : 4 + 1 ≤ d) (hrm : (rest.map fun v => v.category).sum ≤ 8) (hd : decode cc pc = .ok (.invokevirtual idx, 3)) {M' : Mm} (h : f_X9_complete o0 M = some M') : StpZ x nL pc lv (.ref (xb x + o0) :: rest) KDF M (pc + 3) lv (rest) KDF M' :=
  w_callV (st := []) (As := []) X hR hN (CtX0 Z (c_X9_complete hk0 h)) ⟨Nat.le_refl _, Nat.le_refl _⟩ ⟨Nat.le_refl _, Nat.le_refl _⟩ hk0 (ci := 9) (fs := fs_9 o0) (fun _ _ _ => rfl) rfl hw mw_483 mw_484 mw_65 mw_485 (n := 0) (by decide +kernel) rfl hdd (by decide) hrm hd
