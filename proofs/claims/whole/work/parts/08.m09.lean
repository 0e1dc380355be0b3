def f_X12_told (o0 : Nat) (x1 : Int32) (M : Mm) : Option (Int32 × Mm) :=
  (if x1 = (0 : Int32) then some ((M o0 16), M) else (if x1 = (1 : Int32) then some ((M o0 17), M) else (if x1 = (2 : Int32) then some ((M o0 18), M) else (if x1 = (3 : Int32) then some ((M o0 0), M) else (if x1 = (4 : Int32) then some ((M 136 (ix (0 : Int32))), M) else (if x1 = (5 : Int32) then Bd (f_X12_figuresOf o0 136 M) (fun r7 => some (r7, M)) else (if x1 = (6 : Int32) then some ((M 136 (ix (4 : Int32))), M) else (if x1 = (7 : Int32) then Bd (f_X12_wedIn o0 136 M) (fun r10 => some (r10, M)) else (if x1 = (8 : Int32) then some ((M 136 (ix (2 : Int32))), M) else (if x1 = (9 : Int32) then some ((M 136 (ix (3 : Int32))), M) else (if x1 = (10 : Int32) then (if (M o0 17) = 0 then some ((0 : Int32), M) else Gd (¬ (M o0 17) = 0) (some ((rm (M 136 (ix (1 : Int32))) (M o0 17)), M))) else (if x1 = (11 : Int32) then some ((M o0 31), M) else (if x1 = (12 : Int32) then Bd (f_X12_lateOnes o0 M) (fun r18 => some (r18.1, r18.2)) else (if x1 = (13 : Int32) then some ((M o0 33), M) else (if x1 = (14 : Int32) then some ((M o0 26), M) else some ((-1000000002 : Int32), M))))))))))))))))
set_option maxRecDepth 100000 in
set_option maxHeartbeats 4000000 in
theorem c_X12_told {l : Launch} {D : va_G} {an : An} {b : Nat} {o0 : Nat} {x1 : Int32} (hk0 : KDF[o0]? = some (12, 0)) {M : Mm} {r : Int32} {M' : Mm} (h : f_X12_told o0 x1 M = some (r, M')) : Ct l D an b 0 yX12_told cX12_told 2 (some .int) 5 [.ref (b + o0), .int x1] KDF M (some (.int r)) KDF M' := by
  refine CtX.mk (as := fun b => [.ref (b + o0), .int x1]) (rv := fun b => (some (.int r))) (by decide) (fun b => Nat.le_of_ble_eq_true rfl) ⟨Nat.le_refl _, Nat.le_refl _⟩ (fun x X hR Z hN _ _ => ?_)
  have X : Ok x cX12_told 2 RX12 (some .int) := X
  have G : Gz x 2 0 [(0, .ref (xb x + o0)), (1, .int x1)] [] KDF M (f_X12_told o0 x1 M) (PsI2 x KDF) := by
    unfold f_X12_told
    refine g1 (pc' := 1) (w_iload_n X dX12_told_0 rfl 1 rfl) ?_
    refine g_by (fun h1 => ?_) (fun h1 => ?_)
    · refine g1 (pc' := 76) (w_tsIn (off := 75) X dX12_told_1 (0) (by rw [h1]; rfl) (by decide) (by decide) rfl (by decide)) ?_
      refine g1 (pc' := 77) (w_aload_n X dX12_told_76 rfl 0 rfl) ?_
      refine g1 (pc' := 80) (gt_12_16 X hk0 mw_945 dX12_told_77) ?_
      exact g_rI2 X dX12_told_80
    · refine g_by (fun h2 => ?_) (fun h2 => ?_)
      · refine g1 (pc' := 81) (w_tsIn (off := 80) X dX12_told_1 (1) (by rw [h2]; rfl) (by decide) (by decide) rfl (by decide)) ?_
        refine g1 (pc' := 82) (w_aload_n X dX12_told_81 rfl 0 rfl) ?_
        refine g1 (pc' := 85) (gt_12_17 X hk0 mw_946 dX12_told_82) ?_
        exact g_rI2 X dX12_told_85
      · refine g_by (fun h3 => ?_) (fun h3 => ?_)
        · refine g1 (pc' := 86) (w_tsIn (off := 85) X dX12_told_1 (2) (by rw [h3]; rfl) (by decide) (by decide) rfl (by decide)) ?_
          refine g1 (pc' := 87) (w_aload_n X dX12_told_86 rfl 0 rfl) ?_
          refine g1 (pc' := 90) (gt_12_18 X hk0 mw_947 dX12_told_87) ?_
          exact g_rI2 X dX12_told_90
        · refine g_by (fun h4 => ?_) (fun h4 => ?_)
          · refine g1 (pc' := 91) (w_tsIn (off := 90) X dX12_told_1 (3) (by rw [h4]; rfl) (by decide) (by decide) rfl (by decide)) ?_
            refine g1 (pc' := 92) (w_aload_n X dX12_told_91 rfl 0 rfl) ?_
            refine g1 (pc' := 95) (gt_12_0 X hk0 mw_929 dX12_told_92) ?_
            exact g_rI2 X dX12_told_95
          · refine g_by (fun h5 => ?_) (fun h5 => ?_)
            · refine g1 (pc' := 96) (w_tsIn (off := 95) X dX12_told_1 (4) (by rw [h5]; rfl) (by decide) (by decide) rfl (by decide)) ?_
              refine g1 (pc' := 97) (w_aload_n X dX12_told_96 rfl 0 rfl) ?_
              refine g1 (pc' := 100) (gt_12_23 X hk0 mw_952 dX12_told_97) ?_
              refine g1 (pc' := 101) (w_iconst X (0) dX12_told_100 (by decide)) ?_
              refine g1 (pc' := 102) (w_iald X kd_136 (ib_lit (by decide)) dX12_told_101) ?_
              exact g_rI2 X dX12_told_102
            · refine g_by (fun h6 => ?_) (fun h6 => ?_)
              · refine g1 (pc' := 103) (w_tsIn (off := 102) X dX12_told_1 (5) (by rw [h6]; rfl) (by decide) (by decide) rfl (by decide)) ?_
                refine g1 (pc' := 104) (w_aload_n X dX12_told_103 rfl 0 rfl) ?_
                refine g1 (pc' := 105) (w_aload_n X dX12_told_104 rfl 0 rfl) ?_
                refine g1 (pc' := 108) (gt_12_23 X hk0 mw_952 dX12_told_105) ?_
                refine g_bd (pc' := 111) (fun r7 => [(0, .ref (xb x + o0)), (1, .int x1)]) (fun r7 => [.int r7]) (fun r7 => M) (fun r7 h => k_X12_figuresOf X hR hN Z hk0 (kln_of kd_136) mw_1128 (by decide) (Nat.le_of_ble_eq_true rfl) dX12_told_108 h) (fun r7 => ?_)
                show Gz x 2 111 [(0, .ref (xb x + o0)), (1, .int x1)] [.int r7] KDF M _ _
                exact g_rI2 X dX12_told_111
              · refine g_by (fun h8 => ?_) (fun h8 => ?_)
                · refine g1 (pc' := 112) (w_tsIn (off := 111) X dX12_told_1 (6) (by rw [h8]; rfl) (by decide) (by decide) rfl (by decide)) ?_
                  refine g1 (pc' := 113) (w_aload_n X dX12_told_112 rfl 0 rfl) ?_
                  refine g1 (pc' := 116) (gt_12_23 X hk0 mw_952 dX12_told_113) ?_
                  refine g1 (pc' := 117) (w_iconst X (4) dX12_told_116 (by decide)) ?_
                  refine g1 (pc' := 118) (w_iald X kd_136 (ib_lit (by decide)) dX12_told_117) ?_
                  exact g_rI2 X dX12_told_118
                · refine g_by (fun h9 => ?_) (fun h9 => ?_)
                  · refine g1 (pc' := 119) (w_tsIn (off := 118) X dX12_told_1 (7) (by rw [h9]; rfl) (by decide) (by decide) rfl (by decide)) ?_
                    refine g1 (pc' := 120) (w_aload_n X dX12_told_119 rfl 0 rfl) ?_
                    refine g1 (pc' := 121) (w_aload_n X dX12_told_120 rfl 0 rfl) ?_
                    refine g1 (pc' := 124) (gt_12_23 X hk0 mw_952 dX12_told_121) ?_
                    refine g_bd (pc' := 127) (fun r10 => [(0, .ref (xb x + o0)), (1, .int x1)]) (fun r10 => [.int r10]) (fun r10 => M) (fun r10 h => k_X12_wedIn X hR hN Z hk0 (kln_of kd_136) mw_1132 (by decide) (Nat.le_of_ble_eq_true rfl) dX12_told_124 h) (fun r10 => ?_)
                    show Gz x 2 127 [(0, .ref (xb x + o0)), (1, .int x1)] [.int r10] KDF M _ _
                    exact g_rI2 X dX12_told_127
                  · refine g_by (fun h11 => ?_) (fun h11 => ?_)
                    · refine g1 (pc' := 128) (w_tsIn (off := 127) X dX12_told_1 (8) (by rw [h11]; rfl) (by decide) (by decide) rfl (by decide)) ?_
                      refine g1 (pc' := 129) (w_aload_n X dX12_told_128 rfl 0 rfl) ?_
                      refine g1 (pc' := 132) (gt_12_23 X hk0 mw_952 dX12_told_129) ?_
                      refine g1 (pc' := 133) (w_iconst X (2) dX12_told_132 (by decide)) ?_
                      refine g1 (pc' := 134) (w_iald X kd_136 (ib_lit (by decide)) dX12_told_133) ?_
                      exact g_rI2 X dX12_told_134
                    · refine g_by (fun h12 => ?_) (fun h12 => ?_)
                      · refine g1 (pc' := 135) (w_tsIn (off := 134) X dX12_told_1 (9) (by rw [h12]; rfl) (by decide) (by decide) rfl (by decide)) ?_
                        refine g1 (pc' := 136) (w_aload_n X dX12_told_135 rfl 0 rfl) ?_
                        refine g1 (pc' := 139) (gt_12_23 X hk0 mw_952 dX12_told_136) ?_
                        refine g1 (pc' := 140) (w_iconst X (3) dX12_told_139 (by decide)) ?_
                        refine g1 (pc' := 141) (w_iald X kd_136 (ib_lit (by decide)) dX12_told_140) ?_
                        exact g_rI2 X dX12_told_141
                      · refine g_by (fun h13 => ?_) (fun h13 => ?_)
                        · refine g1 (pc' := 142) (w_tsIn (off := 141) X dX12_told_1 (10) (by rw [h13]; rfl) (by decide) (by decide) rfl (by decide)) ?_
                          refine g1 (pc' := 143) (w_aload_n X dX12_told_142 rfl 0 rfl) ?_
                          refine g1 (pc' := 146) (gt_12_17 X hk0 mw_946 dX12_told_143) ?_
                          refine g_if (pcT := 149) (pcF := 153) (w_if_ne (tgt := 153) X dX12_told_146 (by decide)) (fun h14 => ?_) (fun h14 => ?_)
                          · refine g1 (pc' := 150) (w_iconst X (0) dX12_told_149 (by decide)) ?_
                            refine g1 (pc' := 164) (w_goto X dX12_told_150 (by decide)) ?_
                            exact g_rI2 X dX12_told_164
                          · refine g1 (pc' := 154) (w_aload_n X dX12_told_153 rfl 0 rfl) ?_
                            refine g1 (pc' := 157) (gt_12_23 X hk0 mw_952 dX12_told_154) ?_
                            refine g1 (pc' := 158) (w_iconst X (1) dX12_told_157 (by decide)) ?_
                            refine g1 (pc' := 159) (w_iald X kd_136 (ib_lit (by decide)) dX12_told_158) ?_
                            refine g1 (pc' := 160) (w_aload_n X dX12_told_159 rfl 0 rfl) ?_
                            refine g1 (pc' := 163) (gt_12_17 X hk0 mw_946 dX12_told_160) ?_
                            refine g_gd (fun h15 => ?_)
                            refine g1 (pc' := 164) (w_irem X dX12_told_163 h15) ?_
                            exact g_rI2 X dX12_told_164
                        · refine g_by (fun h16 => ?_) (fun h16 => ?_)
                          · refine g1 (pc' := 165) (w_tsIn (off := 164) X dX12_told_1 (11) (by rw [h16]; rfl) (by decide) (by decide) rfl (by decide)) ?_
                            refine g1 (pc' := 166) (w_aload_n X dX12_told_165 rfl 0 rfl) ?_
                            refine g1 (pc' := 169) (gt_12_31 X hk0 mw_960 dX12_told_166) ?_
                            exact g_rI2 X dX12_told_169
                          · refine g_by (fun h17 => ?_) (fun h17 => ?_)
                            · refine g1 (pc' := 170) (w_tsIn (off := 169) X dX12_told_1 (12) (by rw [h17]; rfl) (by decide) (by decide) rfl (by decide)) ?_
                              refine g1 (pc' := 171) (w_aload_n X dX12_told_170 rfl 0 rfl) ?_
                              refine g_bd (pc' := 174) (fun r18 => [(0, .ref (xb x + o0)), (1, .int x1)]) (fun r18 => [.int r18.1]) (fun r18 => r18.2) (fun r18 h => k_X12_lateOnes X hR hN Z hk0 mw_1136 (by decide) (Nat.le_of_ble_eq_true rfl) dX12_told_171 h) (fun r18 => ?_)
                              show Gz x 2 174 [(0, .ref (xb x + o0)), (1, .int x1)] [.int r18.1] KDF r18.2 _ _
                              exact g_rI2 X dX12_told_174
                            · refine g_by (fun h19 => ?_) (fun h19 => ?_)
                              · refine g1 (pc' := 175) (w_tsIn (off := 174) X dX12_told_1 (13) (by rw [h19]; rfl) (by decide) (by decide) rfl (by decide)) ?_
                                refine g1 (pc' := 176) (w_aload_n X dX12_told_175 rfl 0 rfl) ?_
                                refine g1 (pc' := 179) (gt_12_33 X hk0 mw_962 dX12_told_176) ?_
                                exact g_rI2 X dX12_told_179
                              · refine g_by (fun h20 => ?_) (fun h20 => ?_)
                                · refine g1 (pc' := 180) (w_tsIn (off := 179) X dX12_told_1 (14) (by rw [h20]; rfl) (by decide) (by decide) rfl (by decide)) ?_
                                  refine g1 (pc' := 181) (w_aload_n X dX12_told_180 rfl 0 rfl) ?_
                                  refine g1 (pc' := 184) (gt_12_26 X hk0 mw_955 dX12_told_181) ?_
                                  exact g_rI2 X dX12_told_184
                                · refine g1 (pc' := 185) (w_tsOut X dX12_told_1 (by have eh1 := ne_int h1 (n := 0) rfl; have eh2 := ne_int h2 (n := 1) rfl; have eh3 := ne_int h3 (n := 2) rfl; have eh4 := ne_int h4 (n := 3) rfl; have eh5 := ne_int h5 (n := 4) rfl; have eh6 := ne_int h6 (n := 5) rfl; have eh8 := ne_int h8 (n := 6) rfl; have eh9 := ne_int h9 (n := 7) rfl; have eh11 := ne_int h11 (n := 8) rfl; have eh12 := ne_int h12 (n := 9) rfl; have eh13 := ne_int h13 (n := 10) rfl; have eh16 := ne_int h16 (n := 11) rfl; have eh17 := ne_int h17 (n := 12) rfl; have eh19 := ne_int h19 (n := 13) rfl; have eh20 := ne_int h20 (n := 14) rfl; omega) (by decide)) ?_
                                  refine g1 (pc' := 187) (w_ldc (v := -1000000002) X dX12_told_185 mw_1058) ?_
                                  exact g_rI2 X dX12_told_187
  exact G _ h _ rfl
theorem k_X12_told {x : Cxt} {cc : ByteArray} {nL : Nat} {own : String} {ret : Option FieldType} (X : Ok x cc nL own ret) {d : Nat} (hR : Rm x d KDF) (hN : Nst x) (Z : xz x = 0) {pc : Nat} {lv : List (Nat × Value)} {rest : List Value} {M : Mm} {o0 : Nat} {x1 : Int32} (hk0 : KDF[o0]? = some (12, 0)) {idx : Nat} (hw : Cond.methodLink own idx yX12_told ∈ tbG) (hdd : 5 + 1 ≤ d) (hrm : (rest.map fun v => v.category).sum ≤ 8) (hd : decode cc pc = .ok (.invokevirtual idx, 3)) {r : Int32} {M' : Mm} (h : f_X12_told o0 x1 M = some (r, M')) : StpZ x nL pc lv (.int x1 :: .ref (xb x + o0) :: rest) KDF M (pc + 3) lv (.int r :: rest) KDF M' :=
  w_callV (st := []) (As := [.int x1]) X hR hN (CtX0 Z (c_X12_told hk0 h)) ⟨Nat.le_refl _, Nat.le_refl _⟩ ⟨Nat.le_refl _, Nat.le_refl _⟩ hk0 (ci := 12) (fs := fs_12 o0) (fun _ _ _ => rfl) rfl hw mw_1125 mw_1126 mw_72 mw_1127 (n := 1) (by decide +kernel) rfl hdd (by decide) hrm hd
def f_X12_method (o0 : Nat) (x1 : Int32) (M : Mm) : Option (Int32) :=
  (if (f_X12_isTower o0 M) = 0 then some (-1000000003 : Int32) else (if x1 = (-1 : Int32) then some (M o0 19) else (if (f_X12_in x1 (0 : Int32) ((M o0 17) - (1 : Int32))) = 0 then some (-1 : Int32) else Gd (ib x1 12) (some (M 134 (ix x1))))))
set_option maxRecDepth 100000 in
set_option maxHeartbeats 4000000 in
theorem c_X12_method {l : Launch} {D : va_G} {an : An} {b : Nat} {o0 : Nat} {x1 : Int32} (hk0 : KDF[o0]? = some (12, 0)) {M : Mm} {r : Int32} (h : f_X12_method o0 x1 M = some r) : Ct l D an b 0 yX12_method cX12_method 2 (some .int) 2 [.ref (b + o0), .int x1] KDF M (some (.int r)) KDF M := by
  refine CtX.mk (as := fun b => [.ref (b + o0), .int x1]) (rv := fun b => (some (.int r))) (by decide) (fun b => Nat.le_of_ble_eq_true rfl) ⟨Nat.le_refl _, Nat.le_refl _⟩ (fun x X hR Z hN _ _ => ?_)
  have X : Ok x cX12_method 2 RX12 (some .int) := X
  have G : Gz x 2 0 [(0, .ref (xb x + o0)), (1, .int x1)] [] KDF M (f_X12_method o0 x1 M) (PsI x KDF M) := by
    unfold f_X12_method
    refine g1 (pc' := 1) (w_aload_n X dX12_method_0 rfl 0 rfl) ?_
    refine g1 (pc' := 4) (k_X12_isTower X hR hN Z hk0 mw_1160 (by decide) (Nat.le_of_ble_eq_true rfl) dX12_method_1) ?_
    refine g_if (pcT := 7) (pcF := 10) (w_if_ne (tgt := 10) X dX12_method_4 (by decide)) (fun h1 => ?_) (fun h1 => ?_)
    · refine g1 (pc' := 9) (w_ldc (v := -1000000003) X dX12_method_7 mw_1164) ?_
      exact g_rI X dX12_method_9
    · refine g1 (pc' := 11) (w_iload_n X dX12_method_10 rfl 1 rfl) ?_
      refine g1 (pc' := 12) (w_iconst X (-1) dX12_method_11 (by decide)) ?_
      refine g_if (pcT := 15) (pcF := 22) (w_icmp_ne (tgt := 22) X dX12_method_12 (by decide)) (fun h2 => ?_) (fun h2 => ?_)
      · refine g1 (pc' := 16) (w_aload_n X dX12_method_15 rfl 0 rfl) ?_
        refine g1 (pc' := 19) (gt_12_19 X hk0 mw_948 dX12_method_16) ?_
        refine g1 (pc' := 46) (w_goto X dX12_method_19 (by decide)) ?_
        exact g_rI X dX12_method_46
      · refine g1 (pc' := 23) (w_iload_n X dX12_method_22 rfl 1 rfl) ?_
        refine g1 (pc' := 24) (w_iconst X (0) dX12_method_23 (by decide)) ?_
        refine g1 (pc' := 25) (w_aload_n X dX12_method_24 rfl 0 rfl) ?_
        refine g1 (pc' := 28) (gt_12_17 X hk0 mw_946 dX12_method_25) ?_
        refine g1 (pc' := 29) (w_iconst X (1) dX12_method_28 (by decide)) ?_
        refine g1 (pc' := 30) (w_isub X dX12_method_29) ?_
        refine g1 (pc' := 33) (k_X12_in X hR hN Z  mw_1055 (by decide) (Nat.le_of_ble_eq_true rfl) dX12_method_30) ?_
        refine g_if (pcT := 45) (pcF := 36) (w_if_eq (tgt := 45) X dX12_method_33 (by decide)) (fun h3 => ?_) (fun h3 => ?_)
        · refine g1 (pc' := 46) (w_iconst X (-1) dX12_method_45 (by decide)) ?_
          exact g_rI X dX12_method_46
        · refine g1 (pc' := 37) (w_aload_n X dX12_method_36 rfl 0 rfl) ?_
          refine g1 (pc' := 40) (gt_12_21 X hk0 mw_950 dX12_method_37) ?_
          refine g1 (pc' := 41) (w_iload_n X dX12_method_40 rfl 1 rfl) ?_
          refine g_gd (fun h4 => ?_)
          refine g1 (pc' := 42) (w_iald X kd_134 h4 dX12_method_41) ?_
          refine g1 (pc' := 46) (w_goto X dX12_method_42 (by decide)) ?_
          exact g_rI X dX12_method_46
  exact G _ h _ rfl
theorem k_X12_method {x : Cxt} {cc : ByteArray} {nL : Nat} {own : String} {ret : Option FieldType} (X : Ok x cc nL own ret) {d : Nat} (hR : Rm x d KDF) (hN : Nst x) (Z : xz x = 0) {pc : Nat} {lv : List (Nat × Value)} {rest : List Value} {M : Mm} {o0 : Nat} {x1 : Int32} (hk0 : KDF[o0]? = some (12, 0)) {idx : Nat} (hw : Cond.methodLink own idx yX12_method ∈ tbG) (hdd : 2 + 1 ≤ d) (hrm : (rest.map fun v => v.category).sum ≤ 8) (hd : decode cc pc = .ok (.invokevirtual idx, 3)) {r : Int32} (h : f_X12_method o0 x1 M = some r) : StpZ x nL pc lv (.int x1 :: .ref (xb x + o0) :: rest) KDF M (pc + 3) lv (.int r :: rest) KDF M :=
  w_callV (st := []) (As := [.int x1]) X hR hN (CtX0 Z (c_X12_method hk0 h)) ⟨Nat.le_refl _, Nat.le_refl _⟩ ⟨Nat.le_refl _, Nat.le_refl _⟩ hk0 (ci := 12) (fs := fs_12 o0) (fun _ _ _ => rfl) rfl hw mw_1157 mw_1158 mw_72 mw_1159 (n := 1) (by decide +kernel) rfl hdd (by decide) hrm hd
def b_X12_ringerOf_4 (o0 : Nat) (x1 : Int32) (M : Mm) (s4 : Int32 × Int32) : Option ((Int32 × Int32) ⊕ (Int32)) :=
  (if (M o0 18) ≤ s4.2 then some (.inr s4.1) else Gd (ib ((11 : Int32) + s4.2) 23) (Lt (((if (M 136 (ix ((11 : Int32) + s4.2))) = x1 then s4.2 else s4.1)) : Int32) (fun j3 => Lt (s4.2 + (1 : Int32)) (fun v5 => some (.inl (j3, v5))))))
def f_X12_ringerOf (o0 : Nat) (x1 : Int32) (M : Mm) : Option (Int32) :=
  Bd (Lp (b_X12_ringerOf_4 o0 x1 M) 100000 ((-1 : Int32), (0 : Int32))) (fun e6 => some e6)
set_option maxRecDepth 100000 in
set_option maxHeartbeats 4000000 in
theorem c_X12_ringerOf {l : Launch} {D : va_G} {an : An} {b : Nat} {o0 : Nat} {x1 : Int32} (hk0 : KDF[o0]? = some (12, 0)) {M : Mm} {r : Int32} (h : f_X12_ringerOf o0 x1 M = some r) : Ct l D an b 0 yX12_ringerOf cX12_ringerOf 4 (some .int) 1 [.ref (b + o0), .int x1] KDF M (some (.int r)) KDF M := by
  refine CtX.mk (as := fun b => [.ref (b + o0), .int x1]) (rv := fun b => (some (.int r))) (by decide) (fun b => Nat.le_of_ble_eq_true rfl) ⟨Nat.le_refl _, Nat.le_refl _⟩ (fun x X hR Z hN _ _ => ?_)
  have X : Ok x cX12_ringerOf 4 RX12 (some .int) := X
  have G : Gz x 4 0 [(0, .ref (xb x + o0)), (1, .int x1)] [] KDF M (f_X12_ringerOf o0 x1 M) (PsI x KDF M) := by
    unfold f_X12_ringerOf
    refine g1 (pc' := 1) (w_iconst X (-1) dX12_ringerOf_0 (by decide)) ?_
    refine g1 (pc' := 2) (lv' := [(2, .int (-1 : Int32)), (0, .ref (xb x + o0)), (1, .int x1)]) (w_istore_n X dX12_ringerOf_1 rfl (by decide) rfl) ?_
    refine g1 (pc' := 3) (w_iconst X (0) dX12_ringerOf_2 (by decide)) ?_
    refine g1 (pc' := 4) (lv' := [(3, .int (0 : Int32)), (2, .int (-1 : Int32)), (0, .ref (xb x + o0)), (1, .int x1)]) (w_istore_n X dX12_ringerOf_3 rfl (by decide) rfl) ?_
    refine g_pick (lv' := [(0, .ref (xb x + o0)), (1, .int x1), (2, .int (-1 : Int32)), (3, .int (0 : Int32))]) [2, 3, 1, 0] rfl ?_
    refine g_bdJ (J := 37) (fun e6 => [(2, .int e6)]) (fun e6 => []) (fun e6 => M) (g_lp (fun s4 => [(0, .ref (xb x + o0)), (1, .int x1), (2, .int s4.1), (3, .int s4.2)]) (fun s4 => M) (fun s4 => ?_) 100000 ((-1 : Int32), (0 : Int32))) (fun e6 => ?_)
    · show Gz x 4 4 [(0, .ref (xb x + o0)), (1, .int x1), (2, .int s4.1), (3, .int s4.2)] [] KDF M (b_X12_ringerOf_4 o0 x1 M s4) _
      unfold b_X12_ringerOf_4
      refine g1 (pc' := 5) (w_iload_n X dX12_ringerOf_4 rfl 3 rfl) ?_
      refine g1 (pc' := 6) (w_aload_n X dX12_ringerOf_5 rfl 0 rfl) ?_
      refine g1 (pc' := 9) (gt_12_18 X hk0 mw_947 dX12_ringerOf_6) ?_
      refine g_if (pcT := 37) (pcF := 12) (w_icmp_ge (tgt := 37) X dX12_ringerOf_9 (by decide)) (fun h1 => ?_) (fun h1 => ?_)
      · refine g_inr ?_
        exact g_end [2] rfl rfl rfl
      · refine g1 (pc' := 13) (w_aload_n X dX12_ringerOf_12 rfl 0 rfl) ?_
        refine g1 (pc' := 16) (gt_12_23 X hk0 mw_952 dX12_ringerOf_13) ?_
        refine g1 (pc' := 18) (w_bipush X (11) dX12_ringerOf_16 (by decide)) ?_
        refine g1 (pc' := 19) (w_iload_n X dX12_ringerOf_18 rfl 3 rfl) ?_
        refine g1 (pc' := 20) (w_iadd X dX12_ringerOf_19) ?_
        refine g_gd (fun h2 => ?_)
        refine g1 (pc' := 21) (w_iald X kd_136 h2 dX12_ringerOf_20) ?_
        refine g1 (pc' := 22) (w_iload_n X dX12_ringerOf_21 rfl 1 rfl) ?_
        refine g_ltJ (J := 30) (fun j3 => [(0, .ref (xb x + o0)), (1, .int x1), (3, .int s4.2)]) (fun j3 => [.int j3]) (fun j3 => M) ?_ (fun j3 => ?_)
        · refine g_ifS (pcT := 25) (pcF := 29) (w_icmp_ne (tgt := 29) X dX12_ringerOf_22 (by decide)) (fun h4 => ?_) (fun h4 => ?_)
          · refine g1 (pc' := 26) (w_iload_n X dX12_ringerOf_25 rfl 3 rfl) ?_
            refine g1 (pc' := 30) (w_goto X dX12_ringerOf_26 (by decide)) ?_
            exact g_end [0, 1, 3] rfl rfl rfl
          · refine g1 (pc' := 30) (w_iload_n X dX12_ringerOf_29 rfl 2 rfl) ?_
            exact g_end [0, 1, 3] rfl rfl rfl
        · show Gz x 4 30 [(0, .ref (xb x + o0)), (1, .int x1), (3, .int s4.2)] [.int j3] KDF M _ _
          refine g1 (pc' := 31) (lv' := [(2, .int j3), (0, .ref (xb x + o0)), (1, .int x1), (3, .int s4.2)]) (w_istore_n X dX12_ringerOf_30 rfl (by decide) rfl) ?_
          refine g_lt (pc' := 34) (fun v5 => [(3, .int v5), (2, .int j3), (0, .ref (xb x + o0)), (1, .int x1)]) (fun v5 => []) (fun v5 => M) (w_iinc X dX12_ringerOf_31 3 rfl rfl (by decide) rfl) (fun v5 => ?_)
          show Gz x 4 34 [(3, .int v5), (2, .int j3), (0, .ref (xb x + o0)), (1, .int x1)] [] KDF M _ _
          refine g1 (pc' := 4) (w_goto X dX12_ringerOf_34 (by decide)) ?_
          refine g_inl ?_
          exact g_end [2, 3, 1, 0] rfl rfl rfl
    · show Gz x 4 37 [(2, .int e6)] [] KDF M _ _
      refine g1 (pc' := 38) (w_iload_n X dX12_ringerOf_37 rfl 0 rfl) ?_
      exact g_rI X dX12_ringerOf_38
  exact G _ h _ rfl
theorem k_X12_ringerOf {x : Cxt} {cc : ByteArray} {nL : Nat} {own : String} {ret : Option FieldType} (X : Ok x cc nL own ret) {d : Nat} (hR : Rm x d KDF) (hN : Nst x) (Z : xz x = 0) {pc : Nat} {lv : List (Nat × Value)} {rest : List Value} {M : Mm} {o0 : Nat} {x1 : Int32} (hk0 : KDF[o0]? = some (12, 0)) {idx : Nat} (hw : Cond.methodLink own idx yX12_ringerOf ∈ tbG) (hdd : 1 + 1 ≤ d) (hrm : (rest.map fun v => v.category).sum ≤ 8) (hd : decode cc pc = .ok (.invokevirtual idx, 3)) {r : Int32} (h : f_X12_ringerOf o0 x1 M = some r) : StpZ x nL pc lv (.int x1 :: .ref (xb x + o0) :: rest) KDF M (pc + 3) lv (.int r :: rest) KDF M :=
  w_callV (st := []) (As := [.int x1]) X hR hN (CtX0 Z (c_X12_ringerOf hk0 h)) ⟨Nat.le_refl _, Nat.le_refl _⟩ ⟨Nat.le_refl _, Nat.le_refl _⟩ hk0 (ci := 12) (fs := fs_12 o0) (fun _ _ _ => rfl) rfl hw mw_1176 mw_43 mw_72 mw_1177 (n := 1) (by decide +kernel) rfl hdd (by decide) hrm hd
def f_X12_bell (o0 : Nat) (x1 : Int32) (x2 : Int32) (M : Mm) : Option (Int32) :=
  (if (f_X12_isBell o0 x1 M) = 0 then some (-1000000001 : Int32) else (if x2 = 0 then Gd (ib x1 6) (some (M 133 (ix x1))) else (if x2 = (1 : Int32) then Bd (f_X12_placeOf o0 136 x1 M) (fun r5 => some r5) else (if x2 = (2 : Int32) then Bd (f_X12_ringerOf o0 x1 M) (fun r7 => some r7) else some (-1000000002 : Int32)))))
set_option maxRecDepth 100000 in
set_option maxHeartbeats 4000000 in
theorem c_X12_bell {l : Launch} {D : va_G} {an : An} {b : Nat} {o0 : Nat} {x1 : Int32} {x2 : Int32} (hk0 : KDF[o0]? = some (12, 0)) {M : Mm} {r : Int32} (h : f_X12_bell o0 x1 x2 M = some r) : Ct l D an b 0 yX12_bell cX12_bell 3 (some .int) 3 [.ref (b + o0), .int x1, .int x2] KDF M (some (.int r)) KDF M := by
  refine CtX.mk (as := fun b => [.ref (b + o0), .int x1, .int x2]) (rv := fun b => (some (.int r))) (by decide) (fun b => Nat.le_of_ble_eq_true rfl) ⟨Nat.le_refl _, Nat.le_refl _⟩ (fun x X hR Z hN _ _ => ?_)
  have X : Ok x cX12_bell 3 RX12 (some .int) := X
  have G : Gz x 3 0 [(0, .ref (xb x + o0)), (1, .int x1), (2, .int x2)] [] KDF M (f_X12_bell o0 x1 x2 M) (PsI x KDF M) := by
    unfold f_X12_bell
    refine g1 (pc' := 1) (w_aload_n X dX12_bell_0 rfl 0 rfl) ?_
    refine g1 (pc' := 2) (w_iload_n X dX12_bell_1 rfl 1 rfl) ?_
    refine g1 (pc' := 5) (k_X12_isBell X hR hN Z hk0 mw_1169 (by decide) (Nat.le_of_ble_eq_true rfl) dX12_bell_2) ?_
    refine g_if (pcT := 8) (pcF := 11) (w_if_ne (tgt := 11) X dX12_bell_5 (by decide)) (fun h1 => ?_) (fun h1 => ?_)
    · refine g1 (pc' := 10) (w_ldc (v := -1000000001) X dX12_bell_8 mw_1173) ?_
      exact g_rI X dX12_bell_10
    · refine g1 (pc' := 12) (w_iload_n X dX12_bell_11 rfl 2 rfl) ?_
      refine g_if (pcT := 15) (pcF := 24) (w_if_ne (tgt := 24) X dX12_bell_12 (by decide)) (fun h2 => ?_) (fun h2 => ?_)
      · refine g1 (pc' := 16) (w_aload_n X dX12_bell_15 rfl 0 rfl) ?_
        refine g1 (pc' := 19) (gt_12_20 X hk0 mw_949 dX12_bell_16) ?_
        refine g1 (pc' := 20) (w_iload_n X dX12_bell_19 rfl 1 rfl) ?_
        refine g_gd (fun h3 => ?_)
        refine g1 (pc' := 21) (w_iald X kd_133 h3 dX12_bell_20) ?_
        refine g1 (pc' := 56) (w_goto X dX12_bell_21 (by decide)) ?_
        exact g_rI X dX12_bell_56
      · refine g1 (pc' := 25) (w_iload_n X dX12_bell_24 rfl 2 rfl) ?_
        refine g1 (pc' := 26) (w_iconst X (1) dX12_bell_25 (by decide)) ?_
        refine g_if (pcT := 29) (pcF := 41) (w_icmp_ne (tgt := 41) X dX12_bell_26 (by decide)) (fun h4 => ?_) (fun h4 => ?_)
        · refine g1 (pc' := 30) (w_aload_n X dX12_bell_29 rfl 0 rfl) ?_
          refine g1 (pc' := 31) (w_aload_n X dX12_bell_30 rfl 0 rfl) ?_
          refine g1 (pc' := 34) (gt_12_23 X hk0 mw_952 dX12_bell_31) ?_
          refine g1 (pc' := 35) (w_iload_n X dX12_bell_34 rfl 1 rfl) ?_
          refine g_bd (pc' := 38) (fun r5 => [(0, .ref (xb x + o0)), (1, .int x1), (2, .int x2)]) (fun r5 => [.int r5]) (fun r5 => M) (fun r5 h => k_X12_placeOf X hR hN Z hk0 (kln_of kd_136) mw_1152 (by decide) (Nat.le_of_ble_eq_true rfl) dX12_bell_35 h) (fun r5 => ?_)
          show Gz x 3 38 [(0, .ref (xb x + o0)), (1, .int x1), (2, .int x2)] [.int r5] KDF M _ _
          refine g1 (pc' := 56) (w_goto X dX12_bell_38 (by decide)) ?_
          exact g_rI X dX12_bell_56
        · refine g1 (pc' := 42) (w_iload_n X dX12_bell_41 rfl 2 rfl) ?_
          refine g1 (pc' := 43) (w_iconst X (2) dX12_bell_42 (by decide)) ?_
          refine g_if (pcT := 46) (pcF := 54) (w_icmp_ne (tgt := 54) X dX12_bell_43 (by decide)) (fun h6 => ?_) (fun h6 => ?_)
          · refine g1 (pc' := 47) (w_aload_n X dX12_bell_46 rfl 0 rfl) ?_
            refine g1 (pc' := 48) (w_iload_n X dX12_bell_47 rfl 1 rfl) ?_
            refine g_bd (pc' := 51) (fun r7 => [(0, .ref (xb x + o0)), (1, .int x1), (2, .int x2)]) (fun r7 => [.int r7]) (fun r7 => M) (fun r7 h => k_X12_ringerOf X hR hN Z hk0 mw_1174 (by decide) (Nat.le_of_ble_eq_true rfl) dX12_bell_48 h) (fun r7 => ?_)
            show Gz x 3 51 [(0, .ref (xb x + o0)), (1, .int x1), (2, .int x2)] [.int r7] KDF M _ _
            refine g1 (pc' := 56) (w_goto X dX12_bell_51 (by decide)) ?_
            exact g_rI X dX12_bell_56
          · refine g1 (pc' := 56) (w_ldc (v := -1000000002) X dX12_bell_54 mw_1058) ?_
            exact g_rI X dX12_bell_56
  exact G _ h _ rfl
theorem k_X12_bell {x : Cxt} {cc : ByteArray} {nL : Nat} {own : String} {ret : Option FieldType} (X : Ok x cc nL own ret) {d : Nat} (hR : Rm x d KDF) (hN : Nst x) (Z : xz x = 0) {pc : Nat} {lv : List (Nat × Value)} {rest : List Value} {M : Mm} {o0 : Nat} {x1 : Int32} {x2 : Int32} (hk0 : KDF[o0]? = some (12, 0)) {idx : Nat} (hw : Cond.methodLink own idx yX12_bell ∈ tbG) (hdd : 3 + 1 ≤ d) (hrm : (rest.map fun v => v.category).sum ≤ 8) (hd : decode cc pc = .ok (.invokevirtual idx, 3)) {r : Int32} (h : f_X12_bell o0 x1 x2 M = some r) : StpZ x nL pc lv (.int x2 :: .int x1 :: .ref (xb x + o0) :: rest) KDF M (pc + 3) lv (.int r :: rest) KDF M :=
  w_callV (st := []) (As := [.int x1, .int x2]) X hR hN (CtX0 Z (c_X12_bell hk0 h)) ⟨Nat.le_refl _, Nat.le_refl _⟩ ⟨Nat.le_refl _, Nat.le_refl _⟩ hk0 (ci := 12) (fs := fs_12 o0) (fun _ _ _ => rfl) rfl hw mw_1166 mw_1167 mw_72 mw_1168 (n := 2) (by decide +kernel) rfl hdd (by decide) hrm hd
def f_X12_suitor (o0 : Nat) (x1 : Int32) (x2 : Int32) (M : Mm) : Option (Int32) :=
  (if (f_X12_isSuitor o0 x1 M) = 0 then some (-1000000001 : Int32) else (if x2 = (0 : Int32) then Gd (ib x1 6) (some (M 135 (ix x1))) else (if x2 = (1 : Int32) then Gd (ib ((11 : Int32) + x1) 23) (some (M 136 (ix ((11 : Int32) + x1)))) else (if x2 = (2 : Int32) then Gd (ib ((17 : Int32) + x1) 23) (some (M 136 (ix ((17 : Int32) + x1)))) else (if x2 = (3 : Int32) then some ((sr (M 136 (ix (4 : Int32))) x1) &&& (1 : Int32)) else some (-1000000002 : Int32))))))
set_option maxRecDepth 100000 in
set_option maxHeartbeats 4000000 in
theorem c_X12_suitor {l : Launch} {D : va_G} {an : An} {b : Nat} {o0 : Nat} {x1 : Int32} {x2 : Int32} (hk0 : KDF[o0]? = some (12, 0)) {M : Mm} {r : Int32} (h : f_X12_suitor o0 x1 x2 M = some r) : Ct l D an b 0 yX12_suitor cX12_suitor 3 (some .int) 3 [.ref (b + o0), .int x1, .int x2] KDF M (some (.int r)) KDF M := by
  refine CtX.mk (as := fun b => [.ref (b + o0), .int x1, .int x2]) (rv := fun b => (some (.int r))) (by decide) (fun b => Nat.le_of_ble_eq_true rfl) ⟨Nat.le_refl _, Nat.le_refl _⟩ (fun x X hR Z hN _ _ => ?_)
  have X : Ok x cX12_suitor 3 RX12 (some .int) := X
  have G : Gz x 3 0 [(0, .ref (xb x + o0)), (1, .int x1), (2, .int x2)] [] KDF M (f_X12_suitor o0 x1 x2 M) (PsI x KDF M) := by
    unfold f_X12_suitor
    refine g1 (pc' := 1) (w_aload_n X dX12_suitor_0 rfl 0 rfl) ?_
    refine g1 (pc' := 2) (w_iload_n X dX12_suitor_1 rfl 1 rfl) ?_
    refine g1 (pc' := 5) (k_X12_isSuitor X hR hN Z hk0 mw_1182 (by decide) (Nat.le_of_ble_eq_true rfl) dX12_suitor_2) ?_
    refine g_if (pcT := 8) (pcF := 11) (w_if_ne (tgt := 11) X dX12_suitor_5 (by decide)) (fun h1 => ?_) (fun h1 => ?_)
    · refine g1 (pc' := 10) (w_ldc (v := -1000000001) X dX12_suitor_8 mw_1173) ?_
      exact g_rI X dX12_suitor_10
    · refine g1 (pc' := 12) (w_iload_n X dX12_suitor_11 rfl 2 rfl) ?_
      refine g_by (fun h2 => ?_) (fun h2 => ?_)
      · refine g1 (pc' := 44) (w_tsIn (off := 32) X dX12_suitor_12 (0) (by rw [h2]; rfl) (by decide) (by decide) rfl (by decide)) ?_
        refine g1 (pc' := 45) (w_aload_n X dX12_suitor_44 rfl 0 rfl) ?_
        refine g1 (pc' := 48) (gt_12_22 X hk0 mw_951 dX12_suitor_45) ?_
        refine g1 (pc' := 49) (w_iload_n X dX12_suitor_48 rfl 1 rfl) ?_
        refine g_gd (fun h3 => ?_)
        refine g1 (pc' := 50) (w_iald X kd_135 h3 dX12_suitor_49) ?_
        exact g_rI X dX12_suitor_50
      · refine g_by (fun h4 => ?_) (fun h4 => ?_)
        · refine g1 (pc' := 51) (w_tsIn (off := 39) X dX12_suitor_12 (1) (by rw [h4]; rfl) (by decide) (by decide) rfl (by decide)) ?_
          refine g1 (pc' := 52) (w_aload_n X dX12_suitor_51 rfl 0 rfl) ?_
          refine g1 (pc' := 55) (gt_12_23 X hk0 mw_952 dX12_suitor_52) ?_
          refine g1 (pc' := 57) (w_bipush X (11) dX12_suitor_55 (by decide)) ?_
          refine g1 (pc' := 58) (w_iload_n X dX12_suitor_57 rfl 1 rfl) ?_
          refine g1 (pc' := 59) (w_iadd X dX12_suitor_58) ?_
          refine g_gd (fun h5 => ?_)
          refine g1 (pc' := 60) (w_iald X kd_136 h5 dX12_suitor_59) ?_
          exact g_rI X dX12_suitor_60
        · refine g_by (fun h6 => ?_) (fun h6 => ?_)
          · refine g1 (pc' := 61) (w_tsIn (off := 49) X dX12_suitor_12 (2) (by rw [h6]; rfl) (by decide) (by decide) rfl (by decide)) ?_
            refine g1 (pc' := 62) (w_aload_n X dX12_suitor_61 rfl 0 rfl) ?_
            refine g1 (pc' := 65) (gt_12_23 X hk0 mw_952 dX12_suitor_62) ?_
            refine g1 (pc' := 67) (w_bipush X (17) dX12_suitor_65 (by decide)) ?_
            refine g1 (pc' := 68) (w_iload_n X dX12_suitor_67 rfl 1 rfl) ?_
            refine g1 (pc' := 69) (w_iadd X dX12_suitor_68) ?_
            refine g_gd (fun h7 => ?_)
            refine g1 (pc' := 70) (w_iald X kd_136 h7 dX12_suitor_69) ?_
            exact g_rI X dX12_suitor_70
          · refine g_by (fun h8 => ?_) (fun h8 => ?_)
            · refine g1 (pc' := 71) (w_tsIn (off := 59) X dX12_suitor_12 (3) (by rw [h8]; rfl) (by decide) (by decide) rfl (by decide)) ?_
              refine g1 (pc' := 72) (w_aload_n X dX12_suitor_71 rfl 0 rfl) ?_
              refine g1 (pc' := 75) (gt_12_23 X hk0 mw_952 dX12_suitor_72) ?_
              refine g1 (pc' := 76) (w_iconst X (4) dX12_suitor_75 (by decide)) ?_
              refine g1 (pc' := 77) (w_iald X kd_136 (ib_lit (by decide)) dX12_suitor_76) ?_
              refine g1 (pc' := 78) (w_iload_n X dX12_suitor_77 rfl 1 rfl) ?_
              refine g1 (pc' := 79) (w_ishr X dX12_suitor_78) ?_
              refine g1 (pc' := 80) (w_iconst X (1) dX12_suitor_79 (by decide)) ?_
              refine g1 (pc' := 81) (w_iand X dX12_suitor_80) ?_
              exact g_rI X dX12_suitor_81
            · refine g1 (pc' := 82) (w_tsOut X dX12_suitor_12 (by have eh2 := ne_int h2 (n := 0) rfl; have eh4 := ne_int h4 (n := 1) rfl; have eh6 := ne_int h6 (n := 2) rfl; have eh8 := ne_int h8 (n := 3) rfl; omega) (by decide)) ?_
              refine g1 (pc' := 84) (w_ldc (v := -1000000002) X dX12_suitor_82 mw_1058) ?_
              exact g_rI X dX12_suitor_84
  exact G _ h _ rfl
theorem k_X12_suitor {x : Cxt} {cc : ByteArray} {nL : Nat} {own : String} {ret : Option FieldType} (X : Ok x cc nL own ret) {d : Nat} (hR : Rm x d KDF) (hN : Nst x) (Z : xz x = 0) {pc : Nat} {lv : List (Nat × Value)} {rest : List Value} {M : Mm} {o0 : Nat} {x1 : Int32} {x2 : Int32} (hk0 : KDF[o0]? = some (12, 0)) {idx : Nat} (hw : Cond.methodLink own idx yX12_suitor ∈ tbG) (hdd : 3 + 1 ≤ d) (hrm : (rest.map fun v => v.category).sum ≤ 8) (hd : decode cc pc = .ok (.invokevirtual idx, 3)) {r : Int32} (h : f_X12_suitor o0 x1 x2 M = some r) : StpZ x nL pc lv (.int x2 :: .int x1 :: .ref (xb x + o0) :: rest) KDF M (pc + 3) lv (.int r :: rest) KDF M :=
  w_callV (st := []) (As := [.int x1, .int x2]) X hR hN (CtX0 Z (c_X12_suitor hk0 h)) ⟨Nat.le_refl _, Nat.le_refl _⟩ ⟨Nat.le_refl _, Nat.le_refl _⟩ hk0 (ci := 12) (fs := fs_12 o0) (fun _ _ _ => rfl) rfl hw mw_1179 mw_1180 mw_72 mw_1181 (n := 2) (by decide +kernel) rfl hdd (by decide) hrm hd
def f_X12_note (o0 : Nat) (M : Mm) : Option (Mm) :=
  Bd (((if (M o0 26) = (16 : Int32) then Bd (f_X12_bring 138 (23 : Int32) 138 (0 : Int32) (345 : Int32) M) (fun r4 => Lt (st2 r4 o0 26 ((r4 o0 26) - (1 : Int32))) (fun M5 => some M5)) else some M)) : Option (Mm)) (fun j2 => Bd (f_X12_bring 136 (0 : Int32) 138 ((23 : Int32) * (j2 o0 26)) (23 : Int32) j2) (fun r6 => Lt (st2 r6 o0 26 ((r6 o0 26) + (1 : Int32))) (fun M7 => some M7)))
set_option maxRecDepth 100000 in
set_option maxHeartbeats 4000000 in
theorem c_X12_note {l : Launch} {D : va_G} {an : An} {b : Nat} {o0 : Nat} (hk0 : KDF[o0]? = some (12, 0)) {M : Mm} {M' : Mm} (h : f_X12_note o0 M = some M') : Ct l D an b 0 yX12_note cX12_note 1 none 2 [.ref (b + o0)] KDF M none KDF M' := by
  refine CtX.mk (as := fun b => [.ref (b + o0)]) (rv := fun b => none) (by decide) (fun b => Nat.le_of_ble_eq_true rfl) ⟨Nat.le_refl _, Nat.le_refl _⟩ (fun x X hR Z hN _ _ => ?_)
  have X : Ok x cX12_note 1 RX12 none := X
  have G : Gz x 1 0 [(0, .ref (xb x + o0))] [] KDF M (f_X12_note o0 M) (PsM x KDF) := by
    unfold f_X12_note
    refine g1 (pc' := 1) (w_aload_n X dX12_note_0 rfl 0 rfl) ?_
    refine g1 (pc' := 4) (gt_12_26 X hk0 mw_955 dX12_note_1) ?_
    refine g1 (pc' := 6) (w_bipush X (16) dX12_note_4 (by decide)) ?_
    refine g_bdJ (J := 36) (fun j2 => [(0, .ref (xb x + o0))]) (fun j2 => []) (fun j2 => j2) ?_ (fun j2 => ?_)
    · refine g_if (pcT := 9) (pcF := 36) (w_icmp_ne (tgt := 36) X dX12_note_6 (by decide)) (fun h3 => ?_) (fun h3 => ?_)
      · refine g1 (pc' := 10) (w_aload_n X dX12_note_9 rfl 0 rfl) ?_
        refine g1 (pc' := 13) (gt_12_25 X hk0 mw_954 dX12_note_10) ?_
        refine g1 (pc' := 15) (w_bipush X (23) dX12_note_13 (by decide)) ?_
        refine g1 (pc' := 16) (w_aload_n X dX12_note_15 rfl 0 rfl) ?_
        refine g1 (pc' := 19) (gt_12_25 X hk0 mw_954 dX12_note_16) ?_
        refine g1 (pc' := 20) (w_iconst X (0) dX12_note_19 (by decide)) ?_
        refine g1 (pc' := 23) (w_sipush X (345) dX12_note_20 (by decide)) ?_
        refine g_bd (pc' := 26) (fun r4 => [(0, .ref (xb x + o0))]) (fun r4 => []) (fun r4 => r4) (fun r4 h => k_X12_bring X hR hN Z (kln_of kd_138) (kln_of kd_138) mw_1114 (by decide) (Nat.le_of_ble_eq_true rfl) dX12_note_23 h) (fun r4 => ?_)
        show Gz x 1 26 [(0, .ref (xb x + o0))] [] KDF r4 _ _
        refine g1 (pc' := 27) (w_aload_n X dX12_note_26 rfl 0 rfl) ?_
        refine g1 (pc' := 28) (w_dup X dX12_note_27 rfl) ?_
        refine g1 (pc' := 31) (gt_12_26 X hk0 mw_955 dX12_note_28) ?_
        refine g1 (pc' := 32) (w_iconst X (1) dX12_note_31 (by decide)) ?_
        refine g1 (pc' := 33) (w_isub X dX12_note_32) ?_
        refine g_lt (pc' := 36) (fun M5 => [(0, .ref (xb x + o0))]) (fun M5 => []) (fun M5 => M5) (pt_12_26 X Z hk0 mw_955 dX12_note_33) (fun M5 => ?_)
        show Gz x 1 36 [(0, .ref (xb x + o0))] [] KDF M5 _ _
        exact g_end [0] rfl rfl rfl
      · exact g_end [0] rfl rfl rfl
    · show Gz x 1 36 [(0, .ref (xb x + o0))] [] KDF j2 _ _
      refine g1 (pc' := 37) (w_aload_n X dX12_note_36 rfl 0 rfl) ?_
      refine g1 (pc' := 40) (gt_12_23 X hk0 mw_952 dX12_note_37) ?_
      refine g1 (pc' := 41) (w_iconst X (0) dX12_note_40 (by decide)) ?_
      refine g1 (pc' := 42) (w_aload_n X dX12_note_41 rfl 0 rfl) ?_
      refine g1 (pc' := 45) (gt_12_25 X hk0 mw_954 dX12_note_42) ?_
      refine g1 (pc' := 47) (w_bipush X (23) dX12_note_45 (by decide)) ?_
      refine g1 (pc' := 48) (w_aload_n X dX12_note_47 rfl 0 rfl) ?_
      refine g1 (pc' := 51) (gt_12_26 X hk0 mw_955 dX12_note_48) ?_
      refine g1 (pc' := 52) (w_imul X dX12_note_51) ?_
      refine g1 (pc' := 54) (w_bipush X (23) dX12_note_52 (by decide)) ?_
      refine g_bd (pc' := 57) (fun r6 => [(0, .ref (xb x + o0))]) (fun r6 => []) (fun r6 => r6) (fun r6 h => k_X12_bring X hR hN Z (kln_of kd_136) (kln_of kd_138) mw_1114 (by decide) (Nat.le_of_ble_eq_true rfl) dX12_note_54 h) (fun r6 => ?_)
      show Gz x 1 57 [(0, .ref (xb x + o0))] [] KDF r6 _ _
      refine g1 (pc' := 58) (w_aload_n X dX12_note_57 rfl 0 rfl) ?_
      refine g1 (pc' := 59) (w_dup X dX12_note_58 rfl) ?_
      refine g1 (pc' := 62) (gt_12_26 X hk0 mw_955 dX12_note_59) ?_
      refine g1 (pc' := 63) (w_iconst X (1) dX12_note_62 (by decide)) ?_
      refine g1 (pc' := 64) (w_iadd X dX12_note_63) ?_
      refine g_lt (pc' := 67) (fun M7 => [(0, .ref (xb x + o0))]) (fun M7 => []) (fun M7 => M7) (pt_12_26 X Z hk0 mw_955 dX12_note_64) (fun M7 => ?_)
      show Gz x 1 67 [(0, .ref (xb x + o0))] [] KDF M7 _ _
      exact g_rM X dX12_note_67
  exact G _ h _ rfl
theorem k_X12_note {x : Cxt} {cc : ByteArray} {nL : Nat} {own : String} {ret : Option FieldType} (X : Ok x cc nL own ret) {d : Nat} (hR : Rm x d KDF) (hN : Nst x) (Z : xz x = 0) {pc : Nat} {lv : List (Nat × Value)} {rest : List Value} {M : Mm} {o0 : Nat} (hk0 : KDF[o0]? = some (12, 0)) {idx : Nat} (hw : Cond.methodLink own idx yX12_note ∈ tbG) (hdd : 2 + 1 ≤ d) (hrm : (rest.map fun v => v.category).sum ≤ 8) (hd : decode cc pc = .ok (.invokevirtual idx, 3)) {M' : Mm} (h : f_X12_note o0 M = some M') : StpZ x nL pc lv (.ref (xb x + o0) :: rest) KDF M (pc + 3) lv (rest) KDF M' :=
  w_callV (st := []) (As := []) X hR hN (CtX0 Z (c_X12_note hk0 h)) ⟨Nat.le_refl _, Nat.le_refl _⟩ ⟨Nat.le_refl _, Nat.le_refl _⟩ hk0 (ci := 12) (fs := fs_12 o0) (fun _ _ _ => rfl) rfl hw mw_1196 mw_46 mw_72 mw_1197 (n := 0) (by decide +kernel) rfl hdd (by decide) hrm hd
def b_X12_goesOut_7 (o0 : Nat) (o1 : Nat) (M : Mm) (s7 : Int32 × Int32 × Int32) : Option ((Int32 × Int32 × Int32) ⊕ (Int32 × Int32)) :=
  (if (M o0 18) ≤ s7.2.2 then some (.inr (s7.1, s7.2.1)) else Gd (ib (4 : Int32) (kln o1)) (Lt (((if (f_X12_has (M o1 (ix (4 : Int32))) s7.2.2) = 0 then (1 : Int32) else (0 : Int32))) : Int32) (fun j3 => Lt (s7.1 + j3) (fun v5 => Gd (ib ((11 : Int32) + s7.2.2) (kln o1)) (Gd (ib (((5 : Int32) + (M o0 16)) - (1 : Int32)) (kln o1)) (Lt (((if (M o1 (ix ((11 : Int32) + s7.2.2))) = (M o1 (ix (((5 : Int32) + (M o0 16)) - (1 : Int32)))) then s7.2.2 else s7.2.1)) : Int32) (fun j8 => Lt (s7.2.2 + (1 : Int32)) (fun v10 => some (.inl (v5, j8, v10))))))))))
def f_X12_goesOut (o0 : Nat) (o1 : Nat) (M : Mm) : Option (Mm) :=
  Bd (Lp (b_X12_goesOut_7 o0 o1 M) 100000 ((0 : Int32), (-1 : Int32), (0 : Int32))) (fun e11 => Bd (((if e11.1 ≤ (1 : Int32) then Gd (ib (4 : Int32) (kln o1)) (some (M o1 (ix (4 : Int32)))) else (if e11.2 = (-1 : Int32) then Gd (ib (4 : Int32) (kln o1)) (some (M o1 (ix (4 : Int32)))) else Gd (ib (4 : Int32) (kln o1)) (some ((M o1 (ix (4 : Int32))) ||| (sl (1 : Int32) e11.2)))))) : Option (Int32)) (fun j13 => Gd (ib (4 : Int32) (kln o1)) (Lt (st2 M o1 (ix (4 : Int32)) j13) (fun M20 => some M20))))
set_option maxRecDepth 100000 in
set_option maxHeartbeats 4000000 in
theorem c_X12_goesOut {l : Launch} {D : va_G} {an : An} {b : Nat} {o0 : Nat} {o1 : Nat} (hk0 : KDF[o0]? = some (12, 0)) (hk1 : KDF[o1]? = some (13, kln o1)) {M : Mm} {M' : Mm} (h : f_X12_goesOut o0 o1 M = some M') : Ct l D an b 0 yX12_goesOut cX12_goesOut 5 none 2 [.ref (b + o0), .ref (b + o1)] KDF M none KDF M' := by
  refine CtX.mk (as := fun b => [.ref (b + o0), .ref (b + o1)]) (rv := fun b => none) (by decide) (fun b => Nat.le_of_ble_eq_true rfl) ⟨Nat.le_refl _, Nat.le_refl _⟩ (fun x X hR Z hN _ _ => ?_)
  have X : Ok x cX12_goesOut 5 RX12 none := X
  have G : Gz x 5 0 [(0, .ref (xb x + o0)), (1, .ref (xb x + o1))] [] KDF M (f_X12_goesOut o0 o1 M) (PsM x KDF) := by
    unfold f_X12_goesOut
    refine g1 (pc' := 1) (w_iconst X (0) dX12_goesOut_0 (by decide)) ?_
    refine g1 (pc' := 2) (lv' := [(2, .int (0 : Int32)), (0, .ref (xb x + o0)), (1, .ref (xb x + o1))]) (w_istore_n X dX12_goesOut_1 rfl (by decide) rfl) ?_
    refine g1 (pc' := 3) (w_iconst X (-1) dX12_goesOut_2 (by decide)) ?_
    refine g1 (pc' := 4) (lv' := [(3, .int (-1 : Int32)), (2, .int (0 : Int32)), (0, .ref (xb x + o0)), (1, .ref (xb x + o1))]) (w_istore_n X dX12_goesOut_3 rfl (by decide) rfl) ?_
    refine g1 (pc' := 5) (w_iconst X (0) dX12_goesOut_4 (by decide)) ?_
    refine g1 (pc' := 7) (lv' := [(4, .int (0 : Int32)), (3, .int (-1 : Int32)), (2, .int (0 : Int32)), (0, .ref (xb x + o0)), (1, .ref (xb x + o1))]) (w_istore X dX12_goesOut_5 (by decide) rfl) ?_
    refine g_pick (lv' := [(0, .ref (xb x + o0)), (1, .ref (xb x + o1)), (2, .int (0 : Int32)), (3, .int (-1 : Int32)), (4, .int (0 : Int32))]) [3, 4, 2, 1, 0] rfl ?_
    refine g_bdJ (J := 68) (fun e11 => [(1, .ref (xb x + o1)), (2, .int e11.1), (3, .int e11.2)]) (fun e11 => []) (fun e11 => M) (g_lp (fun s7 => [(0, .ref (xb x + o0)), (1, .ref (xb x + o1)), (2, .int s7.1), (3, .int s7.2.1), (4, .int s7.2.2)]) (fun s7 => M) (fun s7 => ?_) 100000 ((0 : Int32), (-1 : Int32), (0 : Int32))) (fun e11 => ?_)
    · show Gz x 5 7 [(0, .ref (xb x + o0)), (1, .ref (xb x + o1)), (2, .int s7.1), (3, .int s7.2.1), (4, .int s7.2.2)] [] KDF M (b_X12_goesOut_7 o0 o1 M s7) _
      unfold b_X12_goesOut_7
      refine g1 (pc' := 9) (w_iload X dX12_goesOut_7 4 rfl) ?_
      refine g1 (pc' := 10) (w_aload_n X dX12_goesOut_9 rfl 0 rfl) ?_
      refine g1 (pc' := 13) (gt_12_18 X hk0 mw_947 dX12_goesOut_10) ?_
      refine g_if (pcT := 68) (pcF := 16) (w_icmp_ge (tgt := 68) X dX12_goesOut_13 (by decide)) (fun h1 => ?_) (fun h1 => ?_)
      · refine g_inr ?_
        exact g_end [1, 2, 3] rfl rfl rfl
      · refine g1 (pc' := 17) (w_iload_n X dX12_goesOut_16 rfl 2 rfl) ?_
        refine g1 (pc' := 18) (w_aload_n X dX12_goesOut_17 rfl 1 rfl) ?_
        refine g1 (pc' := 19) (w_iconst X (4) dX12_goesOut_18 (by decide)) ?_
        refine g_gd (fun h2 => ?_)
        refine g1 (pc' := 20) (w_iald X hk1 h2 dX12_goesOut_19) ?_
        refine g1 (pc' := 22) (w_iload X dX12_goesOut_20 4 rfl) ?_
        refine g1 (pc' := 25) (k_X12_has X hR hN Z  mw_1099 (by decide) (Nat.le_of_ble_eq_true rfl) dX12_goesOut_22) ?_
        refine g_ltJ (J := 33) (fun j3 => [(0, .ref (xb x + o0)), (1, .ref (xb x + o1)), (3, .int s7.2.1), (4, .int s7.2.2)]) (fun j3 => [.int j3, .int s7.1]) (fun j3 => M) ?_ (fun j3 => ?_)
        · refine g_ifS (pcT := 32) (pcF := 28) (w_if_eq (tgt := 32) X dX12_goesOut_25 (by decide)) (fun h4 => ?_) (fun h4 => ?_)
          · refine g1 (pc' := 33) (w_iconst X (1) dX12_goesOut_32 (by decide)) ?_
            exact g_end [0, 1, 3, 4] rfl rfl rfl
          · refine g1 (pc' := 29) (w_iconst X (0) dX12_goesOut_28 (by decide)) ?_
            refine g1 (pc' := 33) (w_goto X dX12_goesOut_29 (by decide)) ?_
            exact g_end [0, 1, 3, 4] rfl rfl rfl
        · show Gz x 5 33 [(0, .ref (xb x + o0)), (1, .ref (xb x + o1)), (3, .int s7.2.1), (4, .int s7.2.2)] [.int j3, .int s7.1] KDF M _ _
          refine g1 (pc' := 34) (w_iadd X dX12_goesOut_33) ?_
          refine g_lt (pc' := 35) (fun v5 => [(2, .int v5), (0, .ref (xb x + o0)), (1, .ref (xb x + o1)), (3, .int s7.2.1), (4, .int s7.2.2)]) (fun v5 => []) (fun v5 => M) (w_istore_n X dX12_goesOut_34 rfl (by decide) rfl) (fun v5 => ?_)
          show Gz x 5 35 [(2, .int v5), (0, .ref (xb x + o0)), (1, .ref (xb x + o1)), (3, .int s7.2.1), (4, .int s7.2.2)] [] KDF M _ _
          refine g1 (pc' := 36) (w_aload_n X dX12_goesOut_35 rfl 2 rfl) ?_
          refine g1 (pc' := 38) (w_bipush X (11) dX12_goesOut_36 (by decide)) ?_
          refine g1 (pc' := 40) (w_iload X dX12_goesOut_38 4 rfl) ?_
          refine g1 (pc' := 41) (w_iadd X dX12_goesOut_40) ?_
          refine g_gd (fun h6 => ?_)
          refine g1 (pc' := 42) (w_iald X hk1 h6 dX12_goesOut_41) ?_
          refine g1 (pc' := 43) (w_aload_n X dX12_goesOut_42 rfl 2 rfl) ?_
          refine g1 (pc' := 44) (w_iconst X (5) dX12_goesOut_43 (by decide)) ?_
          refine g1 (pc' := 45) (w_aload_n X dX12_goesOut_44 rfl 1 rfl) ?_
          refine g1 (pc' := 48) (gt_12_16 X hk0 mw_945 dX12_goesOut_45) ?_
          refine g1 (pc' := 49) (w_iadd X dX12_goesOut_48) ?_
          refine g1 (pc' := 50) (w_iconst X (1) dX12_goesOut_49 (by decide)) ?_
          refine g1 (pc' := 51) (w_isub X dX12_goesOut_50) ?_
          refine g_gd (fun h7 => ?_)
          refine g1 (pc' := 52) (w_iald X hk1 h7 dX12_goesOut_51) ?_
          refine g_ltJ (J := 61) (fun j8 => [(0, .ref (xb x + o0)), (1, .ref (xb x + o1)), (2, .int v5), (4, .int s7.2.2)]) (fun j8 => [.int j8]) (fun j8 => M) ?_ (fun j8 => ?_)
          · refine g_ifS (pcT := 55) (pcF := 60) (w_icmp_ne (tgt := 60) X dX12_goesOut_52 (by decide)) (fun h9 => ?_) (fun h9 => ?_)
            · refine g1 (pc' := 57) (w_iload X dX12_goesOut_55 4 rfl) ?_
              refine g1 (pc' := 61) (w_goto X dX12_goesOut_57 (by decide)) ?_
              exact g_end [1, 2, 0, 4] rfl rfl rfl
            · refine g1 (pc' := 61) (w_iload_n X dX12_goesOut_60 rfl 3 rfl) ?_
              exact g_end [1, 2, 0, 4] rfl rfl rfl
          · show Gz x 5 61 [(0, .ref (xb x + o0)), (1, .ref (xb x + o1)), (2, .int v5), (4, .int s7.2.2)] [.int j8] KDF M _ _
            refine g1 (pc' := 62) (lv' := [(3, .int j8), (0, .ref (xb x + o0)), (1, .ref (xb x + o1)), (2, .int v5), (4, .int s7.2.2)]) (w_istore_n X dX12_goesOut_61 rfl (by decide) rfl) ?_
            refine g_lt (pc' := 65) (fun v10 => [(4, .int v10), (3, .int j8), (0, .ref (xb x + o0)), (1, .ref (xb x + o1)), (2, .int v5)]) (fun v10 => []) (fun v10 => M) (w_iinc X dX12_goesOut_62 4 rfl rfl (by decide) rfl) (fun v10 => ?_)
            show Gz x 5 65 [(4, .int v10), (3, .int j8), (0, .ref (xb x + o0)), (1, .ref (xb x + o1)), (2, .int v5)] [] KDF M _ _
            refine g1 (pc' := 7) (w_goto X dX12_goesOut_65 (by decide)) ?_
            refine g_inl ?_
            exact g_end [2, 3, 4, 1, 0] rfl rfl rfl
    · show Gz x 5 68 [(1, .ref (xb x + o1)), (2, .int e11.1), (3, .int e11.2)] [] KDF M _ _
      refine g1 (pc' := 69) (w_aload_n X dX12_goesOut_68 rfl 0 rfl) ?_
      refine g1 (pc' := 70) (w_iconst X (4) dX12_goesOut_69 (by decide)) ?_
      refine g1 (pc' := 71) (w_iload_n X dX12_goesOut_70 rfl 1 rfl) ?_
      refine g1 (pc' := 72) (w_iconst X (1) dX12_goesOut_71 (by decide)) ?_
      refine g_bdJ (J := 93) (fun j13 => []) (fun j13 => [.int j13, .int (4 : Int32), .ref (xb x + o1)]) (fun j13 => M) ?_ (fun j13 => ?_)
      · refine g_if (pcT := 90) (pcF := 75) (w_icmp_le (tgt := 90) X dX12_goesOut_72 (by decide)) (fun h14 => ?_) (fun h14 => ?_)
        · refine g1 (pc' := 91) (w_aload_n X dX12_goesOut_90 rfl 0 rfl) ?_
          refine g1 (pc' := 92) (w_iconst X (4) dX12_goesOut_91 (by decide)) ?_
          refine g_gd (fun h15 => ?_)
          refine g1 (pc' := 93) (w_iald X hk1 h15 dX12_goesOut_92) ?_
          exact g_end [] rfl rfl rfl
        · refine g1 (pc' := 76) (w_iload_n X dX12_goesOut_75 rfl 2 rfl) ?_
          refine g1 (pc' := 77) (w_iconst X (-1) dX12_goesOut_76 (by decide)) ?_
          refine g_if (pcT := 90) (pcF := 80) (w_icmp_eq (tgt := 90) X dX12_goesOut_77 (by decide)) (fun h16 => ?_) (fun h16 => ?_)
          · refine g1 (pc' := 91) (w_aload_n X dX12_goesOut_90 rfl 0 rfl) ?_
            refine g1 (pc' := 92) (w_iconst X (4) dX12_goesOut_91 (by decide)) ?_
            refine g_gd (fun h17 => ?_)
            refine g1 (pc' := 93) (w_iald X hk1 h17 dX12_goesOut_92) ?_
            exact g_end [] rfl rfl rfl
          · refine g1 (pc' := 81) (w_aload_n X dX12_goesOut_80 rfl 0 rfl) ?_
            refine g1 (pc' := 82) (w_iconst X (4) dX12_goesOut_81 (by decide)) ?_
            refine g_gd (fun h18 => ?_)
            refine g1 (pc' := 83) (w_iald X hk1 h18 dX12_goesOut_82) ?_
            refine g1 (pc' := 84) (w_iconst X (1) dX12_goesOut_83 (by decide)) ?_
            refine g1 (pc' := 85) (w_iload_n X dX12_goesOut_84 rfl 2 rfl) ?_
            refine g1 (pc' := 86) (w_ishl X dX12_goesOut_85) ?_
            refine g1 (pc' := 87) (w_ior X dX12_goesOut_86) ?_
            refine g1 (pc' := 93) (w_goto X dX12_goesOut_87 (by decide)) ?_
            exact g_end [] rfl rfl rfl
      · show Gz x 5 93 [] [.int j13, .int (4 : Int32), .ref (xb x + o1)] KDF M _ _
        refine g_gd (fun h19 => ?_)
        refine g_lt (pc' := 94) (fun M20 => []) (fun M20 => []) (fun M20 => M20) (w_iast X Z hk1 h19 dX12_goesOut_93) (fun M20 => ?_)
        show Gz x 5 94 [] [] KDF M20 _ _
        exact g_rM X dX12_goesOut_94
  exact G _ h _ rfl
theorem k_X12_goesOut {x : Cxt} {cc : ByteArray} {nL : Nat} {own : String} {ret : Option FieldType} (X : Ok x cc nL own ret) {d : Nat} (hR : Rm x d KDF) (hN : Nst x) (Z : xz x = 0) {pc : Nat} {lv : List (Nat × Value)} {rest : List Value} {M : Mm} {o0 : Nat} {o1 : Nat} (hk0 : KDF[o0]? = some (12, 0)) (hk1 : KDF[o1]? = some (13, kln o1)) {idx : Nat} (hw : Cond.methodLink own idx yX12_goesOut ∈ tbG) (hdd : 2 + 1 ≤ d) (hrm : (rest.map fun v => v.category).sum ≤ 8) (hd : decode cc pc = .ok (.invokevirtual idx, 3)) {M' : Mm} (h : f_X12_goesOut o0 o1 M = some M') : StpZ x nL pc lv (.ref (xb x + o1) :: .ref (xb x + o0) :: rest) KDF M (pc + 3) lv (rest) KDF M' :=
  w_callV (st := []) (As := [.ref (xb x + o1)]) X hR hN (CtX0 Z (c_X12_goesOut hk0 hk1 h)) ⟨Nat.le_refl _, Nat.le_refl _⟩ ⟨Nat.le_refl _, Nat.le_refl _⟩ hk0 (ci := 12) (fs := fs_12 o0) (fun _ _ _ => rfl) rfl hw mw_1204 mw_48 mw_72 mw_1205 (n := 1) (by decide +kernel) rfl hdd (by decide) hrm hd
def b_X12_rings_54 (o0 : Nat) (o1 : Nat) (s54 : Int32 × Mm) : Option ((Int32 × Mm) ⊕ (Mm)) :=
  (if (s54.2 o0 18) ≤ s54.1 then some (.inr s54.2) else Gd (ib ((11 : Int32) + s54.1) (kln o1)) (Gd (ib (s54.2 o1 (ix ((11 : Int32) + s54.1))) 6) (Gd (ib s54.1 6) (Lt ((s54.2 133 (ix (s54.2 o1 (ix ((11 : Int32) + s54.1))))) - (s54.2 135 (ix s54.1))) (fun v22 => Gd (ib ((17 : Int32) + s54.1) (kln o1)) (Lt (((if v22 ≤ 0 then (0 : Int32) else v22)) : Int32) (fun j24 => Gd (ib (3 : Int32) (kln o1)) (Lt (((s54.2 o1 (ix ((17 : Int32) + s54.1))) + j24) + (s54.2 o1 (ix (3 : Int32)))) (fun v27 => Gd (ib (4 : Int32) (kln o1)) (Bd (((if (f_X12_has (s54.2 o1 (ix (4 : Int32))) s54.1) = 0 then some v27 else Gd (ib ((17 : Int32) + s54.1) (kln o1)) (some (s54.2 o1 (ix ((17 : Int32) + s54.1)))))) : Option (Int32)) (fun j30 => Lt (((if j30 ≤ (9999 : Int32) then j30 else (9999 : Int32))) : Int32) (fun j33 => Gd (ib ((17 : Int32) + s54.1) (kln o1)) (Lt (st2 s54.2 o1 (ix ((17 : Int32) + s54.1)) j33) (fun M36 => Lt (s54.1 + (1 : Int32)) (fun v37 => some (.inl (v37, M36)))))))))))))))))
def f_X12_rings (o0 : Nat) (o1 : Nat) (M : Mm) : Option (Mm) :=
  Gd (ib (1 : Int32) (kln o1)) (Gd (¬ (M o0 17) = 0) (Lt (rm (M o1 (ix (1 : Int32))) (M o0 17)) (fun v3 => Gd (ib (2 : Int32) (kln o1)) (Bd (((if (M o1 (ix (2 : Int32))) = (1 : Int32) then some (M o0 19) else Gd (ib v3 12) (some (M 134 (ix v3))))) : Option (Int32)) (fun j6 => Bd (f_X12_changes o0 o1 j6 M) (fun r9 => Gd (ib (2 : Int32) (kln o1)) (Lt (st2 r9 o1 (ix (2 : Int32)) (0 : Int32)) (fun M11 => Gd (ib (1 : Int32) (kln o1)) (Gd (ib (1 : Int32) (kln o1)) (Lt (st2 M11 o1 (ix (1 : Int32)) ((M11 o1 (ix (1 : Int32))) + (1 : Int32))) (fun M14 => Gd (ib (0 : Int32) (kln o1)) (Gd (ib (0 : Int32) (kln o1)) (Lt (st2 M14 o1 (ix (0 : Int32)) ((M14 o1 (ix (0 : Int32))) + (1 : Int32))) (fun M17 => Bd (Lp (b_X12_rings_54 o0 o1) 100000 ((0 : Int32), M17)) (fun e38 => (if v3 = ((e38 o0 17) - (1 : Int32)) then Bd (f_X12_goesOut o0 o1 e38) (fun r40 => some r40) else some e38))))))))))))))))
set_option maxRecDepth 100000 in
set_option maxHeartbeats 4000000 in
theorem c_X12_rings {l : Launch} {D : va_G} {an : An} {b : Nat} {o0 : Nat} {o1 : Nat} (hk0 : KDF[o0]? = some (12, 0)) (hk1 : KDF[o1]? = some (13, kln o1)) {M : Mm} {M' : Mm} (h : f_X12_rings o0 o1 M = some M') : Ct l D an b 0 yX12_rings cX12_rings 6 none 3 [.ref (b + o0), .ref (b + o1)] KDF M none KDF M' := by
  refine CtX.mk (as := fun b => [.ref (b + o0), .ref (b + o1)]) (rv := fun b => none) (by decide) (fun b => Nat.le_of_ble_eq_true rfl) ⟨Nat.le_refl _, Nat.le_refl _⟩ (fun x X hR Z hN _ _ => ?_)
  have X : Ok x cX12_rings 6 RX12 none := X
  have G : Gz x 6 0 [(0, .ref (xb x + o0)), (1, .ref (xb x + o1))] [] KDF M (f_X12_rings o0 o1 M) (PsM x KDF) := by
    unfold f_X12_rings
    refine g1 (pc' := 1) (w_aload_n X dX12_rings_0 rfl 1 rfl) ?_
    refine g1 (pc' := 2) (w_iconst X (1) dX12_rings_1 (by decide)) ?_
    refine g_gd (fun h1 => ?_)
    refine g1 (pc' := 3) (w_iald X hk1 h1 dX12_rings_2) ?_
    refine g1 (pc' := 4) (w_aload_n X dX12_rings_3 rfl 0 rfl) ?_
    refine g1 (pc' := 7) (gt_12_17 X hk0 mw_946 dX12_rings_4) ?_
    refine g_gd (fun h2 => ?_)
    refine g1 (pc' := 8) (w_irem X dX12_rings_7 h2) ?_
    refine g_lt (pc' := 9) (fun v3 => [(2, .int v3), (0, .ref (xb x + o0)), (1, .ref (xb x + o1))]) (fun v3 => []) (fun v3 => M) (w_istore_n X dX12_rings_8 rfl (by decide) rfl) (fun v3 => ?_)
    show Gz x 6 9 [(2, .int v3), (0, .ref (xb x + o0)), (1, .ref (xb x + o1))] [] KDF M _ _
    refine g1 (pc' := 10) (w_aload_n X dX12_rings_9 rfl 1 rfl) ?_
    refine g1 (pc' := 11) (w_aload_n X dX12_rings_10 rfl 2 rfl) ?_
    refine g1 (pc' := 12) (w_aload_n X dX12_rings_11 rfl 2 rfl) ?_
    refine g1 (pc' := 13) (w_iconst X (2) dX12_rings_12 (by decide)) ?_
    refine g_gd (fun h4 => ?_)
    refine g1 (pc' := 14) (w_iald X hk1 h4 dX12_rings_13) ?_
    refine g1 (pc' := 15) (w_iconst X (1) dX12_rings_14 (by decide)) ?_
    refine g_bdJ (J := 31) (fun j6 => [(0, .ref (xb x + o0)), (1, .ref (xb x + o1)), (2, .int v3)]) (fun j6 => [.int j6, .ref (xb x + o1), .ref (xb x + o0)]) (fun j6 => M) ?_ (fun j6 => ?_)
    · refine g_if (pcT := 18) (pcF := 25) (w_icmp_ne (tgt := 25) X dX12_rings_15 (by decide)) (fun h7 => ?_) (fun h7 => ?_)
      · refine g1 (pc' := 19) (w_aload_n X dX12_rings_18 rfl 1 rfl) ?_
        refine g1 (pc' := 22) (gt_12_19 X hk0 mw_948 dX12_rings_19) ?_
        refine g1 (pc' := 31) (w_goto X dX12_rings_22 (by decide)) ?_
        exact g_end [1, 2, 0] rfl rfl rfl
      · refine g1 (pc' := 26) (w_aload_n X dX12_rings_25 rfl 1 rfl) ?_
        refine g1 (pc' := 29) (gt_12_21 X hk0 mw_950 dX12_rings_26) ?_
        refine g1 (pc' := 30) (w_iload_n X dX12_rings_29 rfl 0 rfl) ?_
        refine g_gd (fun h8 => ?_)
        refine g1 (pc' := 31) (w_iald X kd_134 h8 dX12_rings_30) ?_
        exact g_end [1, 2, 0] rfl rfl rfl
    · show Gz x 6 31 [(0, .ref (xb x + o0)), (1, .ref (xb x + o1)), (2, .int v3)] [.int j6, .ref (xb x + o1), .ref (xb x + o0)] KDF M _ _
      refine g_bd (pc' := 34) (fun r9 => [(0, .ref (xb x + o0)), (1, .ref (xb x + o1)), (2, .int v3)]) (fun r9 => []) (fun r9 => r9) (fun r9 h => k_X12_changes X hR hN Z hk0 hk1 mw_1144 (by decide) (Nat.le_of_ble_eq_true rfl) dX12_rings_31 h) (fun r9 => ?_)
      show Gz x 6 34 [(0, .ref (xb x + o0)), (1, .ref (xb x + o1)), (2, .int v3)] [] KDF r9 _ _
      refine g1 (pc' := 35) (w_aload_n X dX12_rings_34 rfl 1 rfl) ?_
      refine g1 (pc' := 36) (w_iconst X (2) dX12_rings_35 (by decide)) ?_
      refine g1 (pc' := 37) (w_iconst X (0) dX12_rings_36 (by decide)) ?_
      refine g_gd (fun h10 => ?_)
      refine g_lt (pc' := 38) (fun M11 => [(0, .ref (xb x + o0)), (1, .ref (xb x + o1)), (2, .int v3)]) (fun M11 => []) (fun M11 => M11) (w_iast X Z hk1 h10 dX12_rings_37) (fun M11 => ?_)
      show Gz x 6 38 [(0, .ref (xb x + o0)), (1, .ref (xb x + o1)), (2, .int v3)] [] KDF M11 _ _
      refine g1 (pc' := 39) (w_aload_n X dX12_rings_38 rfl 1 rfl) ?_
      refine g1 (pc' := 40) (w_iconst X (1) dX12_rings_39 (by decide)) ?_
      refine g1 (pc' := 41) (w_dup2 X dX12_rings_40 rfl rfl) ?_
      refine g_gd (fun h12 => ?_)
      refine g1 (pc' := 42) (w_iald X hk1 h12 dX12_rings_41) ?_
      refine g1 (pc' := 43) (w_iconst X (1) dX12_rings_42 (by decide)) ?_
      refine g1 (pc' := 44) (w_iadd X dX12_rings_43) ?_
      refine g_gd (fun h13 => ?_)
      refine g_lt (pc' := 45) (fun M14 => [(0, .ref (xb x + o0)), (1, .ref (xb x + o1)), (2, .int v3)]) (fun M14 => []) (fun M14 => M14) (w_iast X Z hk1 h13 dX12_rings_44) (fun M14 => ?_)
      show Gz x 6 45 [(0, .ref (xb x + o0)), (1, .ref (xb x + o1)), (2, .int v3)] [] KDF M14 _ _
      refine g1 (pc' := 46) (w_aload_n X dX12_rings_45 rfl 1 rfl) ?_
      refine g1 (pc' := 47) (w_iconst X (0) dX12_rings_46 (by decide)) ?_
      refine g1 (pc' := 48) (w_dup2 X dX12_rings_47 rfl rfl) ?_
      refine g_gd (fun h15 => ?_)
      refine g1 (pc' := 49) (w_iald X hk1 h15 dX12_rings_48) ?_
      refine g1 (pc' := 50) (w_iconst X (1) dX12_rings_49 (by decide)) ?_
      refine g1 (pc' := 51) (w_iadd X dX12_rings_50) ?_
      refine g_gd (fun h16 => ?_)
      refine g_lt (pc' := 52) (fun M17 => [(0, .ref (xb x + o0)), (1, .ref (xb x + o1)), (2, .int v3)]) (fun M17 => []) (fun M17 => M17) (w_iast X Z hk1 h16 dX12_rings_51) (fun M17 => ?_)
      show Gz x 6 52 [(0, .ref (xb x + o0)), (1, .ref (xb x + o1)), (2, .int v3)] [] KDF M17 _ _
      refine g1 (pc' := 53) (w_iconst X (0) dX12_rings_52 (by decide)) ?_
      refine g1 (pc' := 54) (lv' := [(3, .int (0 : Int32)), (0, .ref (xb x + o0)), (1, .ref (xb x + o1)), (2, .int v3)]) (w_istore_n X dX12_rings_53 rfl (by decide) rfl) ?_
      refine g_pick (lv' := [(0, .ref (xb x + o0)), (1, .ref (xb x + o1)), (2, .int v3), (3, .int (0 : Int32))]) [1, 2, 3, 0] rfl ?_
      refine g_bdJ (J := 157) (fun e38 => [(0, .ref (xb x + o0)), (1, .ref (xb x + o1)), (2, .int v3)]) (fun e38 => []) (fun e38 => e38) (g_lp (fun s54 => [(0, .ref (xb x + o0)), (1, .ref (xb x + o1)), (2, .int v3), (3, .int s54.1)]) (fun s54 => s54.2) (fun s54 => ?_) 100000 ((0 : Int32), M17)) (fun e38 => ?_)
      · show Gz x 6 54 [(0, .ref (xb x + o0)), (1, .ref (xb x + o1)), (2, .int v3), (3, .int s54.1)] [] KDF s54.2 (b_X12_rings_54 o0 o1 s54) _
        unfold b_X12_rings_54
        refine g1 (pc' := 55) (w_iload_n X dX12_rings_54 rfl 3 rfl) ?_
        refine g1 (pc' := 56) (w_aload_n X dX12_rings_55 rfl 0 rfl) ?_
        refine g1 (pc' := 59) (gt_12_18 X hk0 mw_947 dX12_rings_56) ?_
        refine g_if (pcT := 157) (pcF := 62) (w_icmp_ge (tgt := 157) X dX12_rings_59 (by decide)) (fun h18 => ?_) (fun h18 => ?_)
        · refine g_inr ?_
          exact g_end [0, 1, 2] rfl rfl rfl
        · refine g1 (pc' := 63) (w_aload_n X dX12_rings_62 rfl 0 rfl) ?_
          refine g1 (pc' := 66) (gt_12_20 X hk0 mw_949 dX12_rings_63) ?_
          refine g1 (pc' := 67) (w_aload_n X dX12_rings_66 rfl 1 rfl) ?_
          refine g1 (pc' := 69) (w_bipush X (11) dX12_rings_67 (by decide)) ?_
          refine g1 (pc' := 70) (w_iload_n X dX12_rings_69 rfl 3 rfl) ?_
          refine g1 (pc' := 71) (w_iadd X dX12_rings_70) ?_
          refine g_gd (fun h19 => ?_)
          refine g1 (pc' := 72) (w_iald X hk1 h19 dX12_rings_71) ?_
          refine g_gd (fun h20 => ?_)
          refine g1 (pc' := 73) (w_iald X kd_133 h20 dX12_rings_72) ?_
          refine g1 (pc' := 74) (w_aload_n X dX12_rings_73 rfl 0 rfl) ?_
          refine g1 (pc' := 77) (gt_12_22 X hk0 mw_951 dX12_rings_74) ?_
          refine g1 (pc' := 78) (w_iload_n X dX12_rings_77 rfl 3 rfl) ?_
          refine g_gd (fun h21 => ?_)
          refine g1 (pc' := 79) (w_iald X kd_135 h21 dX12_rings_78) ?_
          refine g1 (pc' := 80) (w_isub X dX12_rings_79) ?_
          refine g_lt (pc' := 82) (fun v22 => [(4, .int v22), (0, .ref (xb x + o0)), (1, .ref (xb x + o1)), (2, .int v3), (3, .int s54.1)]) (fun v22 => []) (fun v22 => s54.2) (w_istore X dX12_rings_80 (by decide) rfl) (fun v22 => ?_)
          show Gz x 6 82 [(4, .int v22), (0, .ref (xb x + o0)), (1, .ref (xb x + o1)), (2, .int v3), (3, .int s54.1)] [] KDF s54.2 _ _
          refine g1 (pc' := 83) (w_aload_n X dX12_rings_82 rfl 2 rfl) ?_
          refine g1 (pc' := 85) (w_bipush X (17) dX12_rings_83 (by decide)) ?_
          refine g1 (pc' := 86) (w_iload_n X dX12_rings_85 rfl 4 rfl) ?_
          refine g1 (pc' := 87) (w_iadd X dX12_rings_86) ?_
          refine g_gd (fun h23 => ?_)
          refine g1 (pc' := 88) (w_iald X hk1 h23 dX12_rings_87) ?_
          refine g1 (pc' := 90) (w_iload X dX12_rings_88 0 rfl) ?_
          refine g_ltJ (J := 99) (fun j24 => [(0, .ref (xb x + o0)), (1, .ref (xb x + o1)), (2, .int v3), (3, .int s54.1)]) (fun j24 => [.int j24, .int (s54.2 o1 (ix ((17 : Int32) + s54.1)))]) (fun j24 => s54.2) ?_ (fun j24 => ?_)
          · refine g_ifS (pcT := 98) (pcF := 93) (w_if_le (tgt := 98) X dX12_rings_90 (by decide)) (fun h25 => ?_) (fun h25 => ?_)
            · refine g1 (pc' := 99) (w_iconst X (0) dX12_rings_98 (by decide)) ?_
              exact g_end [1, 2, 3, 4] rfl rfl rfl
            · refine g1 (pc' := 95) (w_iload X dX12_rings_93 0 rfl) ?_
              refine g1 (pc' := 99) (w_goto X dX12_rings_95 (by decide)) ?_
              exact g_end [1, 2, 3, 4] rfl rfl rfl
          · show Gz x 6 99 [(0, .ref (xb x + o0)), (1, .ref (xb x + o1)), (2, .int v3), (3, .int s54.1)] [.int j24, .int (s54.2 o1 (ix ((17 : Int32) + s54.1)))] KDF s54.2 _ _
            refine g1 (pc' := 100) (w_iadd X dX12_rings_99) ?_
            refine g1 (pc' := 101) (w_aload_n X dX12_rings_100 rfl 1 rfl) ?_
            refine g1 (pc' := 102) (w_iconst X (3) dX12_rings_101 (by decide)) ?_
            refine g_gd (fun h26 => ?_)
            refine g1 (pc' := 103) (w_iald X hk1 h26 dX12_rings_102) ?_
            refine g1 (pc' := 104) (w_iadd X dX12_rings_103) ?_
            refine g_lt (pc' := 106) (fun v27 => [(5, .int v27), (0, .ref (xb x + o0)), (1, .ref (xb x + o1)), (2, .int v3), (3, .int s54.1)]) (fun v27 => []) (fun v27 => s54.2) (w_istore X dX12_rings_104 (by decide) rfl) (fun v27 => ?_)
            show Gz x 6 106 [(5, .int v27), (0, .ref (xb x + o0)), (1, .ref (xb x + o1)), (2, .int v3), (3, .int s54.1)] [] KDF s54.2 _ _
            refine g1 (pc' := 107) (w_aload_n X dX12_rings_106 rfl 2 rfl) ?_
            refine g1 (pc' := 108) (w_iconst X (4) dX12_rings_107 (by decide)) ?_
            refine g_gd (fun h28 => ?_)
            refine g1 (pc' := 109) (w_iald X hk1 h28 dX12_rings_108) ?_
            refine g1 (pc' := 110) (w_iload_n X dX12_rings_109 rfl 4 rfl) ?_
            refine g1 (pc' := 113) (k_X12_has X hR hN Z  mw_1099 (by decide) (Nat.le_of_ble_eq_true rfl) dX12_rings_110) ?_
            refine g_bdJ (J := 127) (fun j30 => [(0, .ref (xb x + o0)), (1, .ref (xb x + o1)), (2, .int v3), (3, .int s54.1)]) (fun j30 => [.int j30]) (fun j30 => s54.2) ?_ (fun j30 => ?_)
            · refine g_if (pcT := 125) (pcF := 116) (w_if_eq (tgt := 125) X dX12_rings_113 (by decide)) (fun h31 => ?_) (fun h31 => ?_)
              · refine g1 (pc' := 127) (w_iload X dX12_rings_125 0 rfl) ?_
                exact g_end [1, 2, 3, 4] rfl rfl rfl
              · refine g1 (pc' := 117) (w_aload_n X dX12_rings_116 rfl 2 rfl) ?_
                refine g1 (pc' := 119) (w_bipush X (17) dX12_rings_117 (by decide)) ?_
                refine g1 (pc' := 120) (w_iload_n X dX12_rings_119 rfl 4 rfl) ?_
                refine g1 (pc' := 121) (w_iadd X dX12_rings_120) ?_
                refine g_gd (fun h32 => ?_)
                refine g1 (pc' := 122) (w_iald X hk1 h32 dX12_rings_121) ?_
                refine g1 (pc' := 127) (w_goto X dX12_rings_122 (by decide)) ?_
                exact g_end [1, 2, 3, 4] rfl rfl rfl
            · show Gz x 6 127 [(0, .ref (xb x + o0)), (1, .ref (xb x + o1)), (2, .int v3), (3, .int s54.1)] [.int j30] KDF s54.2 _ _
              refine g1 (pc' := 129) (lv' := [(5, .int j30), (0, .ref (xb x + o0)), (1, .ref (xb x + o1)), (2, .int v3), (3, .int s54.1)]) (w_istore X dX12_rings_127 (by decide) rfl) ?_
              refine g1 (pc' := 130) (w_aload_n X dX12_rings_129 rfl 2 rfl) ?_
              refine g1 (pc' := 132) (w_bipush X (17) dX12_rings_130 (by decide)) ?_
              refine g1 (pc' := 133) (w_iload_n X dX12_rings_132 rfl 4 rfl) ?_
              refine g1 (pc' := 134) (w_iadd X dX12_rings_133) ?_
              refine g1 (pc' := 136) (w_iload X dX12_rings_134 0 rfl) ?_
              refine g1 (pc' := 139) (w_sipush X (9999) dX12_rings_136 (by decide)) ?_
              refine g_ltJ (J := 150) (fun j33 => [(0, .ref (xb x + o0)), (1, .ref (xb x + o1)), (2, .int v3), (3, .int s54.1)]) (fun j33 => [.int j33, .int ((17 : Int32) + s54.1), .ref (xb x + o1)]) (fun j33 => s54.2) ?_ (fun j33 => ?_)
              · refine g_ifS (pcT := 148) (pcF := 142) (w_icmp_le (tgt := 148) X dX12_rings_139 (by decide)) (fun h34 => ?_) (fun h34 => ?_)
                · refine g1 (pc' := 150) (w_iload X dX12_rings_148 0 rfl) ?_
                  exact g_end [1, 2, 3, 4] rfl rfl rfl
                · refine g1 (pc' := 145) (w_sipush X (9999) dX12_rings_142 (by decide)) ?_
                  refine g1 (pc' := 150) (w_goto X dX12_rings_145 (by decide)) ?_
                  exact g_end [1, 2, 3, 4] rfl rfl rfl
              · show Gz x 6 150 [(0, .ref (xb x + o0)), (1, .ref (xb x + o1)), (2, .int v3), (3, .int s54.1)] [.int j33, .int ((17 : Int32) + s54.1), .ref (xb x + o1)] KDF s54.2 _ _
                refine g_gd (fun h35 => ?_)
                refine g_lt (pc' := 151) (fun M36 => [(0, .ref (xb x + o0)), (1, .ref (xb x + o1)), (2, .int v3), (3, .int s54.1)]) (fun M36 => []) (fun M36 => M36) (w_iast X Z hk1 h35 dX12_rings_150) (fun M36 => ?_)
                show Gz x 6 151 [(0, .ref (xb x + o0)), (1, .ref (xb x + o1)), (2, .int v3), (3, .int s54.1)] [] KDF M36 _ _
                refine g_lt (pc' := 154) (fun v37 => [(3, .int v37), (0, .ref (xb x + o0)), (1, .ref (xb x + o1)), (2, .int v3)]) (fun v37 => []) (fun v37 => M36) (w_iinc X dX12_rings_151 3 rfl rfl (by decide) rfl) (fun v37 => ?_)
                show Gz x 6 154 [(3, .int v37), (0, .ref (xb x + o0)), (1, .ref (xb x + o1)), (2, .int v3)] [] KDF M36 _ _
                refine g1 (pc' := 54) (w_goto X dX12_rings_154 (by decide)) ?_
                refine g_inl ?_
                exact g_end [1, 2, 3, 0] rfl rfl rfl
      · show Gz x 6 157 [(0, .ref (xb x + o0)), (1, .ref (xb x + o1)), (2, .int v3)] [] KDF e38 _ _
        refine g1 (pc' := 158) (w_iload_n X dX12_rings_157 rfl 2 rfl) ?_
        refine g1 (pc' := 159) (w_aload_n X dX12_rings_158 rfl 0 rfl) ?_
        refine g1 (pc' := 162) (gt_12_17 X hk0 mw_946 dX12_rings_159) ?_
        refine g1 (pc' := 163) (w_iconst X (1) dX12_rings_162 (by decide)) ?_
        refine g1 (pc' := 164) (w_isub X dX12_rings_163) ?_
        refine g_if (pcT := 167) (pcF := 172) (w_icmp_ne (tgt := 172) X dX12_rings_164 (by decide)) (fun h39 => ?_) (fun h39 => ?_)
        · refine g1 (pc' := 168) (w_aload_n X dX12_rings_167 rfl 0 rfl) ?_
          refine g1 (pc' := 169) (w_aload_n X dX12_rings_168 rfl 1 rfl) ?_
          refine g_bd (pc' := 172) (fun r40 => [(0, .ref (xb x + o0)), (1, .ref (xb x + o1)), (2, .int v3)]) (fun r40 => []) (fun r40 => r40) (fun r40 h => k_X12_goesOut X hR hN Z hk0 hk1 mw_1202 (by decide) (Nat.le_of_ble_eq_true rfl) dX12_rings_169 h) (fun r40 => ?_)
          show Gz x 6 172 [(0, .ref (xb x + o0)), (1, .ref (xb x + o1)), (2, .int v3)] [] KDF r40 _ _
          exact g_rM X dX12_rings_172
        · exact g_rM X dX12_rings_172
  exact G _ h _ rfl
theorem k_X12_rings {x : Cxt} {cc : ByteArray} {nL : Nat} {own : String} {ret : Option FieldType} (X : Ok x cc nL own ret) {d : Nat} (hR : Rm x d KDF) (hN : Nst x) (Z : xz x = 0) {pc : Nat} {lv : List (Nat × Value)} {rest : List Value} {M : Mm} {o0 : Nat} {o1 : Nat} (hk0 : KDF[o0]? = some (12, 0)) (hk1 : KDF[o1]? = some (13, kln o1)) {idx : Nat} (hw : Cond.methodLink own idx yX12_rings ∈ tbG) (hdd : 3 + 1 ≤ d) (hrm : (rest.map fun v => v.category).sum ≤ 8) (hd : decode cc pc = .ok (.invokevirtual idx, 3)) {M' : Mm} (h : f_X12_rings o0 o1 M = some M') : StpZ x nL pc lv (.ref (xb x + o1) :: .ref (xb x + o0) :: rest) KDF M (pc + 3) lv (rest) KDF M' :=
  w_callV (st := []) (As := [.ref (xb x + o1)]) X hR hN (CtX0 Z (c_X12_rings hk0 hk1 h)) ⟨Nat.le_refl _, Nat.le_refl _⟩ ⟨Nat.le_refl _, Nat.le_refl _⟩ hk0 (ci := 12) (fs := fs_12 o0) (fun _ _ _ => rfl) rfl hw mw_1200 mw_47 mw_72 mw_1201 (n := 1) (by decide +kernel) rfl hdd (by decide) hrm hd
def f_X12_noRows (o0 : Nat) (x1 : Int32) (x2 : Int32) (M : Mm) : Option (Int32) :=
  (if (f_X12_in x1 (1 : Int32) x2) = 0 then some (-1000000002 : Int32) else (if (f_X12_isTower o0 M) = 0 then some (-1000000003 : Int32) else (if (M 136 (ix (0 : Int32))) ≤ (9000 : Int32) then some (0 : Int32) else some (-1000000004 : Int32))))
set_option maxRecDepth 100000 in
set_option maxHeartbeats 4000000 in
theorem c_X12_noRows {l : Launch} {D : va_G} {an : An} {b : Nat} {o0 : Nat} {x1 : Int32} {x2 : Int32} (hk0 : KDF[o0]? = some (12, 0)) {M : Mm} {r : Int32} (h : f_X12_noRows o0 x1 x2 M = some r) : Ct l D an b 0 yX12_noRows cX12_noRows 3 (some .int) 2 [.ref (b + o0), .int x1, .int x2] KDF M (some (.int r)) KDF M := by
  refine CtX.mk (as := fun b => [.ref (b + o0), .int x1, .int x2]) (rv := fun b => (some (.int r))) (by decide) (fun b => Nat.le_of_ble_eq_true rfl) ⟨Nat.le_refl _, Nat.le_refl _⟩ (fun x X hR Z hN _ _ => ?_)
  have X : Ok x cX12_noRows 3 RX12 (some .int) := X
  have G : Gz x 3 0 [(0, .ref (xb x + o0)), (1, .int x1), (2, .int x2)] [] KDF M (f_X12_noRows o0 x1 x2 M) (PsI x KDF M) := by
    unfold f_X12_noRows
    refine g1 (pc' := 1) (w_iload_n X dX12_noRows_0 rfl 1 rfl) ?_
    refine g1 (pc' := 2) (w_iconst X (1) dX12_noRows_1 (by decide)) ?_
    refine g1 (pc' := 3) (w_iload_n X dX12_noRows_2 rfl 2 rfl) ?_
    refine g1 (pc' := 6) (k_X12_in X hR hN Z  mw_1055 (by decide) (Nat.le_of_ble_eq_true rfl) dX12_noRows_3) ?_
    refine g_if (pcT := 9) (pcF := 14) (w_if_ne (tgt := 14) X dX12_noRows_6 (by decide)) (fun h1 => ?_) (fun h1 => ?_)
    · refine g1 (pc' := 11) (w_ldc (v := -1000000002) X dX12_noRows_9 mw_1058) ?_
      refine g1 (pc' := 44) (w_goto X dX12_noRows_11 (by decide)) ?_
      exact g_rI X dX12_noRows_44
    · refine g1 (pc' := 15) (w_aload_n X dX12_noRows_14 rfl 0 rfl) ?_
      refine g1 (pc' := 18) (k_X12_isTower X hR hN Z hk0 mw_1160 (by decide) (Nat.le_of_ble_eq_true rfl) dX12_noRows_15) ?_
      refine g_if (pcT := 21) (pcF := 26) (w_if_ne (tgt := 26) X dX12_noRows_18 (by decide)) (fun h2 => ?_) (fun h2 => ?_)
      · refine g1 (pc' := 23) (w_ldc (v := -1000000003) X dX12_noRows_21 mw_1164) ?_
        refine g1 (pc' := 44) (w_goto X dX12_noRows_23 (by decide)) ?_
        exact g_rI X dX12_noRows_44
      · refine g1 (pc' := 27) (w_aload_n X dX12_noRows_26 rfl 0 rfl) ?_
        refine g1 (pc' := 30) (gt_12_23 X hk0 mw_952 dX12_noRows_27) ?_
        refine g1 (pc' := 31) (w_iconst X (0) dX12_noRows_30 (by decide)) ?_
        refine g1 (pc' := 32) (w_iald X kd_136 (ib_lit (by decide)) dX12_noRows_31) ?_
        refine g1 (pc' := 35) (w_sipush X (9000) dX12_noRows_32 (by decide)) ?_
        refine g_if (pcT := 43) (pcF := 38) (w_icmp_le (tgt := 43) X dX12_noRows_35 (by decide)) (fun h3 => ?_) (fun h3 => ?_)
        · refine g1 (pc' := 44) (w_iconst X (0) dX12_noRows_43 (by decide)) ?_
          exact g_rI X dX12_noRows_44
        · refine g1 (pc' := 40) (w_ldc (v := -1000000004) X dX12_noRows_38 mw_1059) ?_
          refine g1 (pc' := 44) (w_goto X dX12_noRows_40 (by decide)) ?_
          exact g_rI X dX12_noRows_44
  exact G _ h _ rfl
theorem k_X12_noRows {x : Cxt} {cc : ByteArray} {nL : Nat} {own : String} {ret : Option FieldType} (X : Ok x cc nL own ret) {d : Nat} (hR : Rm x d KDF) (hN : Nst x) (Z : xz x = 0) {pc : Nat} {lv : List (Nat × Value)} {rest : List Value} {M : Mm} {o0 : Nat} {x1 : Int32} {x2 : Int32} (hk0 : KDF[o0]? = some (12, 0)) {idx : Nat} (hw : Cond.methodLink own idx yX12_noRows ∈ tbG) (hdd : 2 + 1 ≤ d) (hrm : (rest.map fun v => v.category).sum ≤ 8) (hd : decode cc pc = .ok (.invokevirtual idx, 3)) {r : Int32} (h : f_X12_noRows o0 x1 x2 M = some r) : StpZ x nL pc lv (.int x2 :: .int x1 :: .ref (xb x + o0) :: rest) KDF M (pc + 3) lv (.int r :: rest) KDF M :=
  w_callV (st := []) (As := [.int x1, .int x2]) X hR hN (CtX0 Z (c_X12_noRows hk0 h)) ⟨Nat.le_refl _, Nat.le_refl _⟩ ⟨Nat.le_refl _, Nat.le_refl _⟩ hk0 (ci := 12) (fs := fs_12 o0) (fun _ _ _ => rfl) rfl hw mw_1192 mw_45 mw_72 mw_1193 (n := 2) (by decide +kernel) rfl hdd (by decide) hrm hd
def b_X12_ring_21 (o0 : Nat) (x1 : Int32) (s21 : Int32 × Mm) : Option ((Int32 × Mm) ⊕ (Mm)) :=
  (if x1 ≤ s21.1 then some (.inr s21.2) else Bd (f_X12_rings o0 136 s21.2) (fun r5 => Lt (s21.1 + (1 : Int32)) (fun v6 => some (.inl (v6, r5)))))
def f_X12_ring (o0 : Nat) (x1 : Int32) (M : Mm) : Option (Int32 × Mm) :=
  Bd (f_X12_noRows o0 x1 (200 : Int32) M) (fun r1 => (if r1 = 0 then Bd (f_X12_note o0 M) (fun r3 => Bd (Lp (b_X12_ring_21 o0 x1) 100000 ((0 : Int32), r3)) (fun e7 => Bd (f_X12_figuresOf o0 136 e7) (fun r8 => some (r8, e7)))) else some (r1, M)))
set_option maxRecDepth 100000 in
set_option maxHeartbeats 4000000 in
theorem c_X12_ring {l : Launch} {D : va_G} {an : An} {b : Nat} {o0 : Nat} {x1 : Int32} (hk0 : KDF[o0]? = some (12, 0)) {M : Mm} {r : Int32} {M' : Mm} (h : f_X12_ring o0 x1 M = some (r, M')) : Ct l D an b 0 yX12_ring cX12_ring 4 (some .int) 4 [.ref (b + o0), .int x1] KDF M (some (.int r)) KDF M' := by
  refine CtX.mk (as := fun b => [.ref (b + o0), .int x1]) (rv := fun b => (some (.int r))) (by decide) (fun b => Nat.le_of_ble_eq_true rfl) ⟨Nat.le_refl _, Nat.le_refl _⟩ (fun x X hR Z hN _ _ => ?_)
  have X : Ok x cX12_ring 4 RX12 (some .int) := X
  have G : Gz x 4 0 [(0, .ref (xb x + o0)), (1, .int x1)] [] KDF M (f_X12_ring o0 x1 M) (PsI2 x KDF) := by
    unfold f_X12_ring
    refine g1 (pc' := 1) (w_aload_n X dX12_ring_0 rfl 0 rfl) ?_
    refine g1 (pc' := 2) (w_iload_n X dX12_ring_1 rfl 1 rfl) ?_
    refine g1 (pc' := 5) (w_sipush X (200) dX12_ring_2 (by decide)) ?_
    refine g_bd (pc' := 8) (fun r1 => [(0, .ref (xb x + o0)), (1, .int x1)]) (fun r1 => [.int r1]) (fun r1 => M) (fun r1 h => k_X12_noRows X hR hN Z hk0 mw_1190 (by decide) (Nat.le_of_ble_eq_true rfl) dX12_ring_5 h) (fun r1 => ?_)
    show Gz x 4 8 [(0, .ref (xb x + o0)), (1, .int x1)] [.int r1] KDF M _ _
    refine g1 (pc' := 9) (lv' := [(2, .int r1), (0, .ref (xb x + o0)), (1, .int x1)]) (w_istore_n X dX12_ring_8 rfl (by decide) rfl) ?_
    refine g1 (pc' := 10) (w_iload_n X dX12_ring_9 rfl 0 rfl) ?_
    refine g_if (pcT := 15) (pcF := 13) (w_if_eq (tgt := 15) X dX12_ring_10 (by decide)) (fun h2 => ?_) (fun h2 => ?_)
    · refine g1 (pc' := 16) (w_aload_n X dX12_ring_15 rfl 1 rfl) ?_
      refine g_bd (pc' := 19) (fun r3 => [(2, .int r1), (0, .ref (xb x + o0)), (1, .int x1)]) (fun r3 => []) (fun r3 => r3) (fun r3 h => k_X12_note X hR hN Z hk0 mw_1194 (by decide) (Nat.le_of_ble_eq_true rfl) dX12_ring_16 h) (fun r3 => ?_)
      show Gz x 4 19 [(2, .int r1), (0, .ref (xb x + o0)), (1, .int x1)] [] KDF r3 _ _
      refine g1 (pc' := 20) (w_iconst X (0) dX12_ring_19 (by decide)) ?_
      refine g1 (pc' := 21) (lv' := [(3, .int (0 : Int32)), (2, .int r1), (0, .ref (xb x + o0)), (1, .int x1)]) (w_istore_n X dX12_ring_20 rfl (by decide) rfl) ?_
      refine g_pick (lv' := [(0, .ref (xb x + o0)), (1, .int x1), (3, .int (0 : Int32))]) [2, 3, 0] rfl ?_
      refine g_bdJ (J := 40) (fun e7 => [(0, .ref (xb x + o0))]) (fun e7 => []) (fun e7 => e7) (g_lp (fun s21 => [(0, .ref (xb x + o0)), (1, .int x1), (3, .int s21.1)]) (fun s21 => s21.2) (fun s21 => ?_) 100000 ((0 : Int32), r3)) (fun e7 => ?_)
      · show Gz x 4 21 [(0, .ref (xb x + o0)), (1, .int x1), (3, .int s21.1)] [] KDF s21.2 (b_X12_ring_21 o0 x1 s21) _
        unfold b_X12_ring_21
        refine g1 (pc' := 22) (w_iload_n X dX12_ring_21 rfl 2 rfl) ?_
        refine g1 (pc' := 23) (w_iload_n X dX12_ring_22 rfl 1 rfl) ?_
        refine g_if (pcT := 40) (pcF := 26) (w_icmp_ge (tgt := 40) X dX12_ring_23 (by decide)) (fun h4 => ?_) (fun h4 => ?_)
        · refine g_inr ?_
          exact g_end [0] rfl rfl rfl
        · refine g1 (pc' := 27) (w_aload_n X dX12_ring_26 rfl 0 rfl) ?_
          refine g1 (pc' := 28) (w_aload_n X dX12_ring_27 rfl 0 rfl) ?_
          refine g1 (pc' := 31) (gt_12_23 X hk0 mw_952 dX12_ring_28) ?_
          refine g_bd (pc' := 34) (fun r5 => [(0, .ref (xb x + o0)), (1, .int x1), (3, .int s21.1)]) (fun r5 => []) (fun r5 => r5) (fun r5 h => k_X12_rings X hR hN Z hk0 (kln_of kd_136) mw_1198 (by decide) (Nat.le_of_ble_eq_true rfl) dX12_ring_31 h) (fun r5 => ?_)
          show Gz x 4 34 [(0, .ref (xb x + o0)), (1, .int x1), (3, .int s21.1)] [] KDF r5 _ _
          refine g_lt (pc' := 37) (fun v6 => [(3, .int v6), (0, .ref (xb x + o0)), (1, .int x1)]) (fun v6 => []) (fun v6 => r5) (w_iinc X dX12_ring_34 2 rfl rfl (by decide) rfl) (fun v6 => ?_)
          show Gz x 4 37 [(3, .int v6), (0, .ref (xb x + o0)), (1, .int x1)] [] KDF r5 _ _
          refine g1 (pc' := 21) (w_goto X dX12_ring_37 (by decide)) ?_
          refine g_inl ?_
          exact g_end [1, 2, 0] rfl rfl rfl
      · show Gz x 4 40 [(0, .ref (xb x + o0))] [] KDF e7 _ _
        refine g1 (pc' := 41) (w_aload_n X dX12_ring_40 rfl 0 rfl) ?_
        refine g1 (pc' := 42) (w_aload_n X dX12_ring_41 rfl 0 rfl) ?_
        refine g1 (pc' := 45) (gt_12_23 X hk0 mw_952 dX12_ring_42) ?_
        refine g_bd (pc' := 48) (fun r8 => [(0, .ref (xb x + o0))]) (fun r8 => [.int r8]) (fun r8 => e7) (fun r8 h => k_X12_figuresOf X hR hN Z hk0 (kln_of kd_136) mw_1128 (by decide) (Nat.le_of_ble_eq_true rfl) dX12_ring_45 h) (fun r8 => ?_)
        show Gz x 4 48 [(0, .ref (xb x + o0))] [.int r8] KDF e7 _ _
        exact g_rI2 X dX12_ring_48
    · refine g1 (pc' := 14) (w_iload_n X dX12_ring_13 rfl 0 rfl) ?_
      exact g_rI2 X dX12_ring_14
  exact G _ h _ rfl
theorem k_X12_ring {x : Cxt} {cc : ByteArray} {nL : Nat} {own : String} {ret : Option FieldType} (X : Ok x cc nL own ret) {d : Nat} (hR : Rm x d KDF) (hN : Nst x) (Z : xz x = 0) {pc : Nat} {lv : List (Nat × Value)} {rest : List Value} {M : Mm} {o0 : Nat} {x1 : Int32} (hk0 : KDF[o0]? = some (12, 0)) {idx : Nat} (hw : Cond.methodLink own idx yX12_ring ∈ tbG) (hdd : 4 + 1 ≤ d) (hrm : (rest.map fun v => v.category).sum ≤ 8) (hd : decode cc pc = .ok (.invokevirtual idx, 3)) {r : Int32} {M' : Mm} (h : f_X12_ring o0 x1 M = some (r, M')) : StpZ x nL pc lv (.int x1 :: .ref (xb x + o0) :: rest) KDF M (pc + 3) lv (.int r :: rest) KDF M' :=
  w_callV (st := []) (As := [.int x1]) X hR hN (CtX0 Z (c_X12_ring hk0 h)) ⟨Nat.le_refl _, Nat.le_refl _⟩ ⟨Nat.le_refl _, Nat.le_refl _⟩ hk0 (ci := 12) (fs := fs_12 o0) (fun _ _ _ => rfl) rfl hw mw_1187 mw_1188 mw_72 mw_1189 (n := 1) (by decide +kernel) rfl hdd (by decide) hrm hd
def f_X12_call (o0 : Nat) (M : Mm) : Option (Int32 × Mm) :=
  (if (f_X12_isTower o0 M) = 0 then some ((-1000000003 : Int32), M) else (if (M 136 (ix (2 : Int32))) = (1 : Int32) then some ((-1000000003 : Int32), M) else Bd (f_X12_note o0 M) (fun r3 => Lt (st2 r3 136 (ix (2 : Int32)) (1 : Int32)) (fun M4 => Gd (¬ (M4 o0 17) = 0) (some ((rm (M4 136 (ix (1 : Int32))) (M4 o0 17)), M4))))))
set_option maxRecDepth 100000 in
set_option maxHeartbeats 4000000 in
theorem c_X12_call {l : Launch} {D : va_G} {an : An} {b : Nat} {o0 : Nat} (hk0 : KDF[o0]? = some (12, 0)) {M : Mm} {r : Int32} {M' : Mm} (h : f_X12_call o0 M = some (r, M')) : Ct l D an b 0 yX12_call cX12_call 1 (some .int) 3 [.ref (b + o0)] KDF M (some (.int r)) KDF M' := by
  refine CtX.mk (as := fun b => [.ref (b + o0)]) (rv := fun b => (some (.int r))) (by decide) (fun b => Nat.le_of_ble_eq_true rfl) ⟨Nat.le_refl _, Nat.le_refl _⟩ (fun x X hR Z hN _ _ => ?_)
  have X : Ok x cX12_call 1 RX12 (some .int) := X
  have G : Gz x 1 0 [(0, .ref (xb x + o0))] [] KDF M (f_X12_call o0 M) (PsI2 x KDF) := by
    unfold f_X12_call
    refine g1 (pc' := 1) (w_aload_n X dX12_call_0 rfl 0 rfl) ?_
    refine g1 (pc' := 4) (k_X12_isTower X hR hN Z hk0 mw_1160 (by decide) (Nat.le_of_ble_eq_true rfl) dX12_call_1) ?_
    refine g_if (pcT := 17) (pcF := 7) (w_if_eq (tgt := 17) X dX12_call_4 (by decide)) (fun h1 => ?_) (fun h1 => ?_)
    · refine g1 (pc' := 19) (w_ldc (v := -1000000003) X dX12_call_17 mw_1164) ?_
      exact g_rI2 X dX12_call_19
    · refine g1 (pc' := 8) (w_aload_n X dX12_call_7 rfl 0 rfl) ?_
      refine g1 (pc' := 11) (gt_12_23 X hk0 mw_952 dX12_call_8) ?_
      refine g1 (pc' := 12) (w_iconst X (2) dX12_call_11 (by decide)) ?_
      refine g1 (pc' := 13) (w_iald X kd_136 (ib_lit (by decide)) dX12_call_12) ?_
      refine g1 (pc' := 14) (w_iconst X (1) dX12_call_13 (by decide)) ?_
      refine g_if (pcT := 17) (pcF := 20) (w_icmp_ne (tgt := 20) X dX12_call_14 (by decide)) (fun h2 => ?_) (fun h2 => ?_)
      · refine g1 (pc' := 19) (w_ldc (v := -1000000003) X dX12_call_17 mw_1164) ?_
        exact g_rI2 X dX12_call_19
      · refine g1 (pc' := 21) (w_aload_n X dX12_call_20 rfl 0 rfl) ?_
        refine g_bd (pc' := 24) (fun r3 => [(0, .ref (xb x + o0))]) (fun r3 => []) (fun r3 => r3) (fun r3 h => k_X12_note X hR hN Z hk0 mw_1194 (by decide) (Nat.le_of_ble_eq_true rfl) dX12_call_21 h) (fun r3 => ?_)
        show Gz x 1 24 [(0, .ref (xb x + o0))] [] KDF r3 _ _
        refine g1 (pc' := 25) (w_aload_n X dX12_call_24 rfl 0 rfl) ?_
        refine g1 (pc' := 28) (gt_12_23 X hk0 mw_952 dX12_call_25) ?_
        refine g1 (pc' := 29) (w_iconst X (2) dX12_call_28 (by decide)) ?_
        refine g1 (pc' := 30) (w_iconst X (1) dX12_call_29 (by decide)) ?_
        refine g_lt (pc' := 31) (fun M4 => [(0, .ref (xb x + o0))]) (fun M4 => []) (fun M4 => M4) (w_iast X Z kd_136 (ib_lit (by decide)) dX12_call_30) (fun M4 => ?_)
        show Gz x 1 31 [(0, .ref (xb x + o0))] [] KDF M4 _ _
        refine g1 (pc' := 32) (w_aload_n X dX12_call_31 rfl 0 rfl) ?_
        refine g1 (pc' := 35) (gt_12_23 X hk0 mw_952 dX12_call_32) ?_
        refine g1 (pc' := 36) (w_iconst X (1) dX12_call_35 (by decide)) ?_
        refine g1 (pc' := 37) (w_iald X kd_136 (ib_lit (by decide)) dX12_call_36) ?_
        refine g1 (pc' := 38) (w_aload_n X dX12_call_37 rfl 0 rfl) ?_
        refine g1 (pc' := 41) (gt_12_17 X hk0 mw_946 dX12_call_38) ?_
        refine g_gd (fun h5 => ?_)
        refine g1 (pc' := 42) (w_irem X dX12_call_41 h5) ?_
        exact g_rI2 X dX12_call_42
  exact G _ h _ rfl
theorem k_X12_call {x : Cxt} {cc : ByteArray} {nL : Nat} {own : String} {ret : Option FieldType} (X : Ok x cc nL own ret) {d : Nat} (hR : Rm x d KDF) (hN : Nst x) (Z : xz x = 0) {pc : Nat} {lv : List (Nat × Value)} {rest : List Value} {M : Mm} {o0 : Nat} (hk0 : KDF[o0]? = some (12, 0)) {idx : Nat} (hw : Cond.methodLink own idx yX12_call ∈ tbG) (hdd : 3 + 1 ≤ d) (hrm : (rest.map fun v => v.category).sum ≤ 8) (hd : decode cc pc = .ok (.invokevirtual idx, 3)) {r : Int32} {M' : Mm} (h : f_X12_call o0 M = some (r, M')) : StpZ x nL pc lv (.ref (xb x + o0) :: rest) KDF M (pc + 3) lv (.int r :: rest) KDF M' :=
  w_callV (st := []) (As := []) X hR hN (CtX0 Z (c_X12_call hk0 h)) ⟨Nat.le_refl _, Nat.le_refl _⟩ ⟨Nat.le_refl _, Nat.le_refl _⟩ hk0 (ci := 12) (fs := fs_12 o0) (fun _ _ _ => rfl) rfl hw mw_1207 mw_1208 mw_72 mw_1209 (n := 0) (by decide +kernel) rfl hdd (by decide) hrm hd
def f_X12_swaps (o0 : Nat) (x1 : Int32) (x2 : Int32) (M : Mm) : Option (Mm) :=
  Gd (ib ((11 : Int32) + x1) (kln o0)) (Lt (M o0 (ix ((11 : Int32) + x1))) (fun v2 => Gd (ib ((11 : Int32) + x2) (kln o0)) (Gd (ib ((11 : Int32) + x1) (kln o0)) (Lt (st2 M o0 (ix ((11 : Int32) + x1)) (M o0 (ix ((11 : Int32) + x2)))) (fun M5 => Gd (ib ((11 : Int32) + x2) (kln o0)) (Lt (st2 M5 o0 (ix ((11 : Int32) + x2)) v2) (fun M7 => some M7)))))))
set_option maxRecDepth 100000 in
set_option maxHeartbeats 4000000 in
theorem c_X12_swaps {l : Launch} {D : va_G} {an : An} {b : Nat} {o0 : Nat} {x1 : Int32} {x2 : Int32} (hk0 : KDF[o0]? = some (13, kln o0)) {M : Mm} {M' : Mm} (h : f_X12_swaps o0 x1 x2 M = some M') : Ct l D an b 0 yX12_swaps cX12_swaps 4 none 1 [.ref (b + o0), .int x1, .int x2] KDF M none KDF M' := by
  refine CtX.mk (as := fun b => [.ref (b + o0), .int x1, .int x2]) (rv := fun b => none) (by decide) (fun b => Nat.le_of_ble_eq_true rfl) ⟨Nat.le_refl _, Nat.le_refl _⟩ (fun x X hR Z hN _ _ => ?_)
  have X : Ok x cX12_swaps 4 RX12 none := X
  have G : Gz x 4 0 [(0, .ref (xb x + o0)), (1, .int x1), (2, .int x2)] [] KDF M (f_X12_swaps o0 x1 x2 M) (PsM x KDF) := by
    unfold f_X12_swaps
    refine g1 (pc' := 1) (w_aload_n X dX12_swaps_0 rfl 0 rfl) ?_
    refine g1 (pc' := 3) (w_bipush X (11) dX12_swaps_1 (by decide)) ?_
    refine g1 (pc' := 4) (w_iload_n X dX12_swaps_3 rfl 1 rfl) ?_
    refine g1 (pc' := 5) (w_iadd X dX12_swaps_4) ?_
    refine g_gd (fun h1 => ?_)
    refine g1 (pc' := 6) (w_iald X hk0 h1 dX12_swaps_5) ?_
    refine g_lt (pc' := 7) (fun v2 => [(3, .int v2), (0, .ref (xb x + o0)), (1, .int x1), (2, .int x2)]) (fun v2 => []) (fun v2 => M) (w_istore_n X dX12_swaps_6 rfl (by decide) rfl) (fun v2 => ?_)
    show Gz x 4 7 [(3, .int v2), (0, .ref (xb x + o0)), (1, .int x1), (2, .int x2)] [] KDF M _ _
    refine g1 (pc' := 8) (w_aload_n X dX12_swaps_7 rfl 1 rfl) ?_
    refine g1 (pc' := 10) (w_bipush X (11) dX12_swaps_8 (by decide)) ?_
    refine g1 (pc' := 11) (w_iload_n X dX12_swaps_10 rfl 2 rfl) ?_
    refine g1 (pc' := 12) (w_iadd X dX12_swaps_11) ?_
    refine g1 (pc' := 13) (w_aload_n X dX12_swaps_12 rfl 1 rfl) ?_
    refine g1 (pc' := 15) (w_bipush X (11) dX12_swaps_13 (by decide)) ?_
    refine g1 (pc' := 16) (w_iload_n X dX12_swaps_15 rfl 3 rfl) ?_
    refine g1 (pc' := 17) (w_iadd X dX12_swaps_16) ?_
    refine g_gd (fun h3 => ?_)
    refine g1 (pc' := 18) (w_iald X hk0 h3 dX12_swaps_17) ?_
    refine g_gd (fun h4 => ?_)
    refine g_lt (pc' := 19) (fun M5 => [(3, .int v2), (0, .ref (xb x + o0)), (1, .int x1), (2, .int x2)]) (fun M5 => []) (fun M5 => M5) (w_iast X Z hk0 h4 dX12_swaps_18) (fun M5 => ?_)
    show Gz x 4 19 [(3, .int v2), (0, .ref (xb x + o0)), (1, .int x1), (2, .int x2)] [] KDF M5 _ _
    refine g1 (pc' := 20) (w_aload_n X dX12_swaps_19 rfl 1 rfl) ?_
    refine g1 (pc' := 22) (w_bipush X (11) dX12_swaps_20 (by decide)) ?_
    refine g1 (pc' := 23) (w_iload_n X dX12_swaps_22 rfl 3 rfl) ?_
    refine g1 (pc' := 24) (w_iadd X dX12_swaps_23) ?_
    refine g1 (pc' := 25) (w_iload_n X dX12_swaps_24 rfl 0 rfl) ?_
    refine g_gd (fun h6 => ?_)
    refine g_lt (pc' := 26) (fun M7 => [(3, .int v2), (0, .ref (xb x + o0)), (1, .int x1), (2, .int x2)]) (fun M7 => []) (fun M7 => M7) (w_iast X Z hk0 h6 dX12_swaps_25) (fun M7 => ?_)
    show Gz x 4 26 [(3, .int v2), (0, .ref (xb x + o0)), (1, .int x1), (2, .int x2)] [] KDF M7 _ _
    exact g_rM X dX12_swaps_26
  exact G _ h _ rfl
theorem k_X12_swaps {x : Cxt} {cc : ByteArray} {nL : Nat} {own : String} {ret : Option FieldType} (X : Ok x cc nL own ret) {d : Nat} (hR : Rm x d KDF) (hN : Nst x) (Z : xz x = 0) {pc : Nat} {lv : List (Nat × Value)} {rest : List Value} {M : Mm} {o0 : Nat} {x1 : Int32} {x2 : Int32} (hk0 : KDF[o0]? = some (13, kln o0)) {idx : Nat} (hw : Cond.methodLink own idx yX12_swaps ∈ tbG) (hdd : 1 + 1 ≤ d) (hrm : (rest.map fun v => v.category).sum ≤ 8) (hd : decode cc pc = .ok (.invokestatic idx, 3)) {M' : Mm} (h : f_X12_swaps o0 x1 x2 M = some M') : StpZ x nL pc lv (.int x2 :: .int x1 :: .ref (xb x + o0) :: rest) KDF M (pc + 3) lv (rest) KDF M' :=
  w_callS (st := []) (As := [.ref (xb x + o0), .int x1, .int x2]) X hR hN (CtX0 Z (c_X12_swaps hk0 h)) ⟨Nat.le_refl _, Nat.le_refl _⟩ ⟨Nat.le_refl _, Nat.le_refl _⟩ hw mw_1215 mw_72 mw_1216 (n := 3) (by decide +kernel) rfl hdd (by decide) hrm hd
def f_X12_swap (o0 : Nat) (x1 : Int32) (x2 : Int32) (M : Mm) : Option (Int32 × Mm) :=
  (if (f_X12_isSuitor o0 x1 M) = 0 then some ((-1000000001 : Int32), M) else (if (f_X12_isSuitor o0 x2 M) = 0 then some ((-1000000001 : Int32), M) else (if x1 = x2 then some ((-1000000001 : Int32), M) else Bd (f_X12_note o0 M) (fun r4 => Bd (f_X12_swaps 136 x1 x2 r4) (fun r5 => Gd (ib ((11 : Int32) + x1) 23) (some ((r5 136 (ix ((11 : Int32) + x1))), r5)))))))
set_option maxRecDepth 100000 in
set_option maxHeartbeats 4000000 in
theorem c_X12_swap {l : Launch} {D : va_G} {an : An} {b : Nat} {o0 : Nat} {x1 : Int32} {x2 : Int32} (hk0 : KDF[o0]? = some (12, 0)) {M : Mm} {r : Int32} {M' : Mm} (h : f_X12_swap o0 x1 x2 M = some (r, M')) : Ct l D an b 0 yX12_swap cX12_swap 3 (some .int) 3 [.ref (b + o0), .int x1, .int x2] KDF M (some (.int r)) KDF M' := by
  refine CtX.mk (as := fun b => [.ref (b + o0), .int x1, .int x2]) (rv := fun b => (some (.int r))) (by decide) (fun b => Nat.le_of_ble_eq_true rfl) ⟨Nat.le_refl _, Nat.le_refl _⟩ (fun x X hR Z hN _ _ => ?_)
  have X : Ok x cX12_swap 3 RX12 (some .int) := X
  have G : Gz x 3 0 [(0, .ref (xb x + o0)), (1, .int x1), (2, .int x2)] [] KDF M (f_X12_swap o0 x1 x2 M) (PsI2 x KDF) := by
    unfold f_X12_swap
    refine g1 (pc' := 1) (w_aload_n X dX12_swap_0 rfl 0 rfl) ?_
    refine g1 (pc' := 2) (w_iload_n X dX12_swap_1 rfl 1 rfl) ?_
    refine g1 (pc' := 5) (k_X12_isSuitor X hR hN Z hk0 mw_1182 (by decide) (Nat.le_of_ble_eq_true rfl) dX12_swap_2) ?_
    refine g_if (pcT := 21) (pcF := 8) (w_if_eq (tgt := 21) X dX12_swap_5 (by decide)) (fun h1 => ?_) (fun h1 => ?_)
    · refine g1 (pc' := 23) (w_ldc (v := -1000000001) X dX12_swap_21 mw_1173) ?_
      exact g_rI2 X dX12_swap_23
    · refine g1 (pc' := 9) (w_aload_n X dX12_swap_8 rfl 0 rfl) ?_
      refine g1 (pc' := 10) (w_iload_n X dX12_swap_9 rfl 2 rfl) ?_
      refine g1 (pc' := 13) (k_X12_isSuitor X hR hN Z hk0 mw_1182 (by decide) (Nat.le_of_ble_eq_true rfl) dX12_swap_10) ?_
      refine g_if (pcT := 21) (pcF := 16) (w_if_eq (tgt := 21) X dX12_swap_13 (by decide)) (fun h2 => ?_) (fun h2 => ?_)
      · refine g1 (pc' := 23) (w_ldc (v := -1000000001) X dX12_swap_21 mw_1173) ?_
        exact g_rI2 X dX12_swap_23
      · refine g1 (pc' := 17) (w_iload_n X dX12_swap_16 rfl 1 rfl) ?_
        refine g1 (pc' := 18) (w_iload_n X dX12_swap_17 rfl 2 rfl) ?_
        refine g_if (pcT := 21) (pcF := 24) (w_icmp_ne (tgt := 24) X dX12_swap_18 (by decide)) (fun h3 => ?_) (fun h3 => ?_)
        · refine g1 (pc' := 23) (w_ldc (v := -1000000001) X dX12_swap_21 mw_1173) ?_
          exact g_rI2 X dX12_swap_23
        · refine g1 (pc' := 25) (w_aload_n X dX12_swap_24 rfl 0 rfl) ?_
          refine g_bd (pc' := 28) (fun r4 => [(0, .ref (xb x + o0)), (1, .int x1), (2, .int x2)]) (fun r4 => []) (fun r4 => r4) (fun r4 h => k_X12_note X hR hN Z hk0 mw_1194 (by decide) (Nat.le_of_ble_eq_true rfl) dX12_swap_25 h) (fun r4 => ?_)
          show Gz x 3 28 [(0, .ref (xb x + o0)), (1, .int x1), (2, .int x2)] [] KDF r4 _ _
          refine g1 (pc' := 29) (w_aload_n X dX12_swap_28 rfl 0 rfl) ?_
          refine g1 (pc' := 32) (gt_12_23 X hk0 mw_952 dX12_swap_29) ?_
          refine g1 (pc' := 33) (w_iload_n X dX12_swap_32 rfl 1 rfl) ?_
          refine g1 (pc' := 34) (w_iload_n X dX12_swap_33 rfl 2 rfl) ?_
          refine g_bd (pc' := 37) (fun r5 => [(0, .ref (xb x + o0)), (1, .int x1), (2, .int x2)]) (fun r5 => []) (fun r5 => r5) (fun r5 h => k_X12_swaps X hR hN Z (kln_of kd_136) mw_1214 (by decide) (Nat.le_of_ble_eq_true rfl) dX12_swap_34 h) (fun r5 => ?_)
          show Gz x 3 37 [(0, .ref (xb x + o0)), (1, .int x1), (2, .int x2)] [] KDF r5 _ _
          refine g1 (pc' := 38) (w_aload_n X dX12_swap_37 rfl 0 rfl) ?_
          refine g1 (pc' := 41) (gt_12_23 X hk0 mw_952 dX12_swap_38) ?_
          refine g1 (pc' := 43) (w_bipush X (11) dX12_swap_41 (by decide)) ?_
          refine g1 (pc' := 44) (w_iload_n X dX12_swap_43 rfl 1 rfl) ?_
          refine g1 (pc' := 45) (w_iadd X dX12_swap_44) ?_
          refine g_gd (fun h6 => ?_)
          refine g1 (pc' := 46) (w_iald X kd_136 h6 dX12_swap_45) ?_
          exact g_rI2 X dX12_swap_46
  exact G _ h _ rfl
theorem k_X12_swap {x : Cxt} {cc : ByteArray} {nL : Nat} {own : String} {ret : Option FieldType} (X : Ok x cc nL own ret) {d : Nat} (hR : Rm x d KDF) (hN : Nst x) (Z : xz x = 0) {pc : Nat} {lv : List (Nat × Value)} {rest : List Value} {M : Mm} {o0 : Nat} {x1 : Int32} {x2 : Int32} (hk0 : KDF[o0]? = some (12, 0)) {idx : Nat} (hw : Cond.methodLink own idx yX12_swap ∈ tbG) (hdd : 3 + 1 ≤ d) (hrm : (rest.map fun v => v.category).sum ≤ 8) (hd : decode cc pc = .ok (.invokevirtual idx, 3)) {r : Int32} {M' : Mm} (h : f_X12_swap o0 x1 x2 M = some (r, M')) : StpZ x nL pc lv (.int x2 :: .int x1 :: .ref (xb x + o0) :: rest) KDF M (pc + 3) lv (.int r :: rest) KDF M' :=
  w_callV (st := []) (As := [.int x1, .int x2]) X hR hN (CtX0 Z (c_X12_swap hk0 h)) ⟨Nat.le_refl _, Nat.le_refl _⟩ ⟨Nat.le_refl _, Nat.le_refl _⟩ hk0 (ci := 12) (fs := fs_12 o0) (fun _ _ _ => rfl) rfl hw mw_1211 mw_1212 mw_72 mw_1213 (n := 2) (by decide +kernel) rfl hdd (by decide) hrm hd
