def f_X6_remove (o0 : Nat) (x1 : Int32) (M : Mm) : Option (Mm) :=
  Lt (x1 &&& (32767 : Int32)) (fun v1 => Gd (ib (v1 / (32 : Int32)) 1024) (Gd (ib (v1 / (32 : Int32)) 1024) (Lt (st2 M 110 (ix (v1 / (32 : Int32))) ((M 110 (ix (v1 / (32 : Int32)))) &&& ((sl (1 : Int32) (rm v1 (32 : Int32))) ^^^ (-1 : Int32)))) (fun M4 => some M4))))
set_option maxRecDepth 100000 in
set_option maxHeartbeats 4000000 in
theorem c_X6_remove {l : Launch} {D : va_G} {an : An} {b : Nat} {o0 : Nat} {x1 : Int32} (hk0 : KDF[o0]? = some (6, 0)) {M : Mm} {M' : Mm} (h : f_X6_remove o0 x1 M = some M') : Ct l D an b 0 yX6_remove cX6_remove 3 none 1 [.ref (b + o0), .int x1] KDF M none KDF M' := by
  refine CtX.mk (as := fun b => [.ref (b + o0), .int x1]) (rv := fun b => none) (by decide) (fun b => Nat.le_of_ble_eq_true rfl) ⟨Nat.le_refl _, Nat.le_refl _⟩ (fun x X hR Z hN _ _ => ?_)
  have X : Ok x cX6_remove 3 RX6 none := X
  have G : Gz x 3 0 [(0, .ref (xb x + o0)), (1, .int x1)] [] KDF M (f_X6_remove o0 x1 M) (PsM x KDF) := by
    unfold f_X6_remove
    refine g1 (pc' := 1) (w_iload_n X dX6_remove_0 rfl 1 rfl) ?_
    refine g1 (pc' := 4) (w_sipush X (32767) dX6_remove_1 (by decide)) ?_
    refine g1 (pc' := 5) (w_iand X dX6_remove_4) ?_
    refine g_lt (pc' := 6) (fun v1 => [(2, .int v1), (0, .ref (xb x + o0)), (1, .int x1)]) (fun v1 => []) (fun v1 => M) (w_istore_n X dX6_remove_5 rfl (by decide) rfl) (fun v1 => ?_)
    show Gz x 3 6 [(2, .int v1), (0, .ref (xb x + o0)), (1, .int x1)] [] KDF M _ _
    refine g1 (pc' := 7) (w_aload_n X dX6_remove_6 rfl 1 rfl) ?_
    refine g1 (pc' := 10) (gt_6_0 X hk0 mw_256 dX6_remove_7) ?_
    refine g1 (pc' := 11) (w_iload_n X dX6_remove_10 rfl 0 rfl) ?_
    refine g1 (pc' := 13) (w_bipush X (32) dX6_remove_11 (by decide)) ?_
    refine g1 (pc' := 14) (w_idiv X dX6_remove_13 (by decide)) ?_
    refine g1 (pc' := 15) (w_dup2 X dX6_remove_14 rfl rfl) ?_
    refine g_gd (fun h2 => ?_)
    refine g1 (pc' := 16) (w_iald X kd_110 h2 dX6_remove_15) ?_
    refine g1 (pc' := 17) (w_iconst X (1) dX6_remove_16 (by decide)) ?_
    refine g1 (pc' := 18) (w_iload_n X dX6_remove_17 rfl 0 rfl) ?_
    refine g1 (pc' := 20) (w_bipush X (32) dX6_remove_18 (by decide)) ?_
    refine g1 (pc' := 21) (w_irem X dX6_remove_20 (by decide)) ?_
    refine g1 (pc' := 22) (w_ishl X dX6_remove_21) ?_
    refine g1 (pc' := 23) (w_iconst X (-1) dX6_remove_22 (by decide)) ?_
    refine g1 (pc' := 24) (w_ixor X dX6_remove_23) ?_
    refine g1 (pc' := 25) (w_iand X dX6_remove_24) ?_
    refine g_gd (fun h3 => ?_)
    refine g_lt (pc' := 26) (fun M4 => [(2, .int v1), (0, .ref (xb x + o0)), (1, .int x1)]) (fun M4 => []) (fun M4 => M4) (w_iast X Z kd_110 h3 dX6_remove_25) (fun M4 => ?_)
    show Gz x 3 26 [(2, .int v1), (0, .ref (xb x + o0)), (1, .int x1)] [] KDF M4 _ _
    exact g_rM X dX6_remove_26
  exact G _ h _ rfl
theorem k_X6_remove {x : Cxt} {cc : ByteArray} {nL : Nat} {own : String} {ret : Option FieldType} (X : Ok x cc nL own ret) {d : Nat} (hR : Rm x d KDF) (hN : Nst x) (Z : xz x = 0) {pc : Nat} {lv : List (Nat × Value)} {rest : List Value} {M : Mm} {o0 : Nat} {x1 : Int32} (hk0 : KDF[o0]? = some (6, 0)) {idx : Nat} (hw : Cond.methodLink own idx yX6_remove ∈ tbG) (hdd : 1 + 1 ≤ d) (hrm : (rest.map fun v => v.category).sum ≤ 8) (hd : decode cc pc = .ok (.invokevirtual idx, 3)) {M' : Mm} (h : f_X6_remove o0 x1 M = some M') : StpZ x nL pc lv (.int x1 :: .ref (xb x + o0) :: rest) KDF M (pc + 3) lv (rest) KDF M' :=
  w_callV (st := []) (As := [.int x1]) X hR hN (CtX0 Z (c_X6_remove hk0 h)) ⟨Nat.le_refl _, Nat.le_refl _⟩ ⟨Nat.le_refl _, Nat.le_refl _⟩ hk0 (ci := 6) (fs := fs_6 o0) (fun _ _ _ => rfl) rfl hw mw_775 mw_776 mw_68 mw_777 (n := 1) (by decide +kernel) rfl hdd (by decide) hrm hd
def f_X7_add (o0 : Nat) (x1 : Int32) (M : Mm) : Option (Int32 × Mm) :=
  (if (M o0 0) < (240 : Int32) then Lt (st2 M o0 0 ((M o0 0) + (1 : Int32))) (fun M2 => Gd (ib (M o0 0) 240) (Lt (st2 M2 36 (ix (M o0 0)) x1) (fun M4 => some ((1 : Int32), M4)))) else some ((0 : Int32), M))
set_option maxRecDepth 100000 in
set_option maxHeartbeats 4000000 in
theorem c_X7_add {l : Launch} {D : va_G} {an : An} {b : Nat} {o0 : Nat} {x1 : Int32} (hk0 : KDF[o0]? = some (7, 0)) {M : Mm} {r : Int32} {M' : Mm} (h : f_X7_add o0 x1 M = some (r, M')) : Ct l D an b 0 yX7_add cX7_add 2 (some .boolean) 1 [.ref (b + o0), .int x1] KDF M (some (.int r)) KDF M' := by
  refine CtX.mk (as := fun b => [.ref (b + o0), .int x1]) (rv := fun b => (some (.int r))) (by decide) (fun b => Nat.le_of_ble_eq_true rfl) ⟨Nat.le_refl _, Nat.le_refl _⟩ (fun x X hR Z hN _ _ => ?_)
  have X : Ok x cX7_add 2 RX7 (some .boolean) := X
  have G : Gz x 2 0 [(0, .ref (xb x + o0)), (1, .int x1)] [] KDF M (f_X7_add o0 x1 M) (PsI2 x KDF) := by
    unfold f_X7_add
    refine g1 (pc' := 1) (w_aload_n X dX7_add_0 rfl 0 rfl) ?_
    refine g1 (pc' := 4) (gt_7_0 X hk0 mw_160 dX7_add_1) ?_
    refine g1 (pc' := 7) (w_sipush X (240) dX7_add_4 (by decide)) ?_
    refine g_if (pcT := 12) (pcF := 10) (w_icmp_lt (tgt := 12) X dX7_add_7 (by decide)) (fun h1 => ?_) (fun h1 => ?_)
    · refine g1 (pc' := 13) (w_aload_n X dX7_add_12 rfl 0 rfl) ?_
      refine g1 (pc' := 16) (gt_7_2 X hk0 mw_164 dX7_add_13) ?_
      refine g1 (pc' := 17) (w_aload_n X dX7_add_16 rfl 0 rfl) ?_
      refine g1 (pc' := 18) (w_dup X dX7_add_17 rfl) ?_
      refine g1 (pc' := 21) (gt_7_0 X hk0 mw_160 dX7_add_18) ?_
      refine g1 (pc' := 22) (w_dup_x1 X dX7_add_21 rfl rfl) ?_
      refine g1 (pc' := 23) (w_iconst X (1) dX7_add_22 (by decide)) ?_
      refine g1 (pc' := 24) (w_iadd X dX7_add_23) ?_
      refine g_lt (pc' := 27) (fun M2 => [(0, .ref (xb x + o0)), (1, .int x1)]) (fun M2 => [.int (M o0 0), .ref (xb x + 36)]) (fun M2 => M2) (pt_7_0 X Z hk0 mw_160 dX7_add_24) (fun M2 => ?_)
      show Gz x 2 27 [(0, .ref (xb x + o0)), (1, .int x1)] [.int (M o0 0), .ref (xb x + 36)] KDF M2 _ _
      refine g1 (pc' := 28) (w_iload_n X dX7_add_27 rfl 1 rfl) ?_
      refine g_gd (fun h3 => ?_)
      refine g_lt (pc' := 29) (fun M4 => [(0, .ref (xb x + o0)), (1, .int x1)]) (fun M4 => []) (fun M4 => M4) (w_iast X Z kd_36 h3 dX7_add_28) (fun M4 => ?_)
      show Gz x 2 29 [(0, .ref (xb x + o0)), (1, .int x1)] [] KDF M4 _ _
      refine g1 (pc' := 30) (w_iconst X (1) dX7_add_29 (by decide)) ?_
      exact g_rZ2 X zb1 dX7_add_30
    · refine g1 (pc' := 11) (w_iconst X (0) dX7_add_10 (by decide)) ?_
      exact g_rZ2 X zb0 dX7_add_11
  exact G _ h _ rfl
theorem k_X7_add {x : Cxt} {cc : ByteArray} {nL : Nat} {own : String} {ret : Option FieldType} (X : Ok x cc nL own ret) {d : Nat} (hR : Rm x d KDF) (hN : Nst x) (Z : xz x = 0) {pc : Nat} {lv : List (Nat × Value)} {rest : List Value} {M : Mm} {o0 : Nat} {x1 : Int32} (hk0 : KDF[o0]? = some (7, 0)) {idx : Nat} (hw : Cond.methodLink own idx yX7_add ∈ tbG) (hdd : 1 + 1 ≤ d) (hrm : (rest.map fun v => v.category).sum ≤ 8) (hd : decode cc pc = .ok (.invokevirtual idx, 3)) {r : Int32} {M' : Mm} (h : f_X7_add o0 x1 M = some (r, M')) : StpZ x nL pc lv (.int x1 :: .ref (xb x + o0) :: rest) KDF M (pc + 3) lv (.int r :: rest) KDF M' :=
  w_callV (st := []) (As := [.int x1]) X hR hN (CtX0 Z (c_X7_add hk0 h)) ⟨Nat.le_refl _, Nat.le_refl _⟩ ⟨Nat.le_refl _, Nat.le_refl _⟩ hk0 (ci := 7) (fs := fs_7 o0) (fun _ _ _ => rfl) rfl hw mw_378 mw_379 mw_64 mw_380 (n := 1) (by decide +kernel) rfl hdd (by decide) hrm hd
def f_X9_clear (o0 : Nat) (M : Mm) : Option (Mm) :=
  Lt (st2 M o0 0 (0 : Int32)) (fun M1 => Lt (st2 M1 o0 1 (0 : Int32)) (fun M2 => Lt (st2 M2 o0 2 (0 : Int32)) (fun M3 => Lt (st2 M3 o0 3 (0 : Int32)) (fun M4 => some M4))))
set_option maxRecDepth 100000 in
set_option maxHeartbeats 4000000 in
theorem c_X9_clear {l : Launch} {D : va_G} {an : An} {b : Nat} {o0 : Nat} (hk0 : KDF[o0]? = some (9, 0)) {M : Mm} {M' : Mm} (h : f_X9_clear o0 M = some M') : Ct l D an b 0 yX9_clear cX9_clear 1 none 1 [.ref (b + o0)] KDF M none KDF M' := by
  refine CtX.mk (as := fun b => [.ref (b + o0)]) (rv := fun b => none) (by decide) (fun b => Nat.le_of_ble_eq_true rfl) ⟨Nat.le_refl _, Nat.le_refl _⟩ (fun x X hR Z hN _ _ => ?_)
  have X : Ok x cX9_clear 1 RX9 none := X
  have G : Gz x 1 0 [(0, .ref (xb x + o0))] [] KDF M (f_X9_clear o0 M) (PsM x KDF) := by
    unfold f_X9_clear
    refine g1 (pc' := 1) (w_aload_n X dX9_clear_0 rfl 0 rfl) ?_
    refine g1 (pc' := 2) (w_iconst X (0) dX9_clear_1 (by decide)) ?_
    refine g_lt (pc' := 5) (fun M1 => [(0, .ref (xb x + o0))]) (fun M1 => []) (fun M1 => M1) (pt_9_0 X Z hk0 mw_110 dX9_clear_2) (fun M1 => ?_)
    show Gz x 1 5 [(0, .ref (xb x + o0))] [] KDF M1 _ _
    refine g1 (pc' := 6) (w_aload_n X dX9_clear_5 rfl 0 rfl) ?_
    refine g1 (pc' := 7) (w_iconst X (0) dX9_clear_6 (by decide)) ?_
    refine g_lt (pc' := 10) (fun M2 => [(0, .ref (xb x + o0))]) (fun M2 => []) (fun M2 => M2) (pt_9_1 X Z hk0 mw_117 dX9_clear_7) (fun M2 => ?_)
    show Gz x 1 10 [(0, .ref (xb x + o0))] [] KDF M2 _ _
    refine g1 (pc' := 11) (w_aload_n X dX9_clear_10 rfl 0 rfl) ?_
    refine g1 (pc' := 12) (w_iconst X (0) dX9_clear_11 (by decide)) ?_
    refine g_lt (pc' := 15) (fun M3 => [(0, .ref (xb x + o0))]) (fun M3 => []) (fun M3 => M3) (pt_9_2 X Z hk0 mw_122 dX9_clear_12) (fun M3 => ?_)
    show Gz x 1 15 [(0, .ref (xb x + o0))] [] KDF M3 _ _
    refine g1 (pc' := 16) (w_aload_n X dX9_clear_15 rfl 0 rfl) ?_
    refine g1 (pc' := 17) (w_iconst X (0) dX9_clear_16 (by decide)) ?_
    refine g_lt (pc' := 20) (fun M4 => [(0, .ref (xb x + o0))]) (fun M4 => []) (fun M4 => M4) (pt_9_3 X Z hk0 zb0 mw_127 dX9_clear_17) (fun M4 => ?_)
    show Gz x 1 20 [(0, .ref (xb x + o0))] [] KDF M4 _ _
    exact g_rM X dX9_clear_20
  exact G _ h _ rfl
theorem k_X9_clear {x : Cxt} {cc : ByteArray} {nL : Nat} {own : String} {ret : Option FieldType} (X : Ok x cc nL own ret) {d : Nat} (hR : Rm x d KDF) (hN : Nst x) (Z : xz x = 0) {pc : Nat} {lv : List (Nat × Value)} {rest : List Value} {M : Mm} {o0 : Nat} (hk0 : KDF[o0]? = some (9, 0)) {idx : Nat} (hw : Cond.methodLink own idx yX9_clear ∈ tbG) (hdd : 1 + 1 ≤ d) (hrm : (rest.map fun v => v.category).sum ≤ 8) (hd : decode cc pc = .ok (.invokevirtual idx, 3)) {M' : Mm} (h : f_X9_clear o0 M = some M') : StpZ x nL pc lv (.ref (xb x + o0) :: rest) KDF M (pc + 3) lv (rest) KDF M' :=
  w_callV (st := []) (As := []) X hR hN (CtX0 Z (c_X9_clear hk0 h)) ⟨Nat.le_refl _, Nat.le_refl _⟩ ⟨Nat.le_refl _, Nat.le_refl _⟩ hk0 (ci := 9) (fs := fs_9 o0) (fun _ _ _ => rfl) rfl hw mw_391 mw_392 mw_62 mw_393 (n := 0) (by decide +kernel) rfl hdd (by decide) hrm hd
def f_X7_letterHere (o0 : Nat) (M : Mm) : Option (Int32) :=
  (if (M o0 3) < 0 then some (-1 : Int32) else (if (M o0 0) ≤ (M o0 3) then some (-1 : Int32) else (if (240 : Int32) ≤ (M o0 3) then some (-1 : Int32) else Gd (ib (M o0 3) 240) (some (M 36 (ix (M o0 3)))))))
set_option maxRecDepth 100000 in
set_option maxHeartbeats 4000000 in
theorem c_X7_letterHere {l : Launch} {D : va_G} {an : An} {b : Nat} {o0 : Nat} (hk0 : KDF[o0]? = some (7, 0)) {M : Mm} {r : Int32} (h : f_X7_letterHere o0 M = some r) : Ct l D an b 0 yX7_letterHere cX7_letterHere 1 (some .int) 1 [.ref (b + o0)] KDF M (some (.int r)) KDF M := by
  refine CtX.mk (as := fun b => [.ref (b + o0)]) (rv := fun b => (some (.int r))) (by decide) (fun b => Nat.le_of_ble_eq_true rfl) ⟨Nat.le_refl _, Nat.le_refl _⟩ (fun x X hR Z hN _ _ => ?_)
  have X : Ok x cX7_letterHere 1 RX7 (some .int) := X
  have G : Gz x 1 0 [(0, .ref (xb x + o0))] [] KDF M (f_X7_letterHere o0 M) (PsI x KDF M) := by
    unfold f_X7_letterHere
    refine g1 (pc' := 1) (w_aload_n X dX7_letterHere_0 rfl 0 rfl) ?_
    refine g1 (pc' := 4) (gt_7_3 X hk0 mw_165 dX7_letterHere_1) ?_
    refine g_if (pcT := 40) (pcF := 7) (w_if_lt (tgt := 40) X dX7_letterHere_4 (by decide)) (fun h1 => ?_) (fun h1 => ?_)
    · refine g1 (pc' := 41) (w_iconst X (-1) dX7_letterHere_40 (by decide)) ?_
      exact g_rI X dX7_letterHere_41
    · refine g1 (pc' := 8) (w_aload_n X dX7_letterHere_7 rfl 0 rfl) ?_
      refine g1 (pc' := 11) (gt_7_3 X hk0 mw_165 dX7_letterHere_8) ?_
      refine g1 (pc' := 12) (w_aload_n X dX7_letterHere_11 rfl 0 rfl) ?_
      refine g1 (pc' := 15) (gt_7_0 X hk0 mw_160 dX7_letterHere_12) ?_
      refine g_if (pcT := 40) (pcF := 18) (w_icmp_ge (tgt := 40) X dX7_letterHere_15 (by decide)) (fun h2 => ?_) (fun h2 => ?_)
      · refine g1 (pc' := 41) (w_iconst X (-1) dX7_letterHere_40 (by decide)) ?_
        exact g_rI X dX7_letterHere_41
      · refine g1 (pc' := 19) (w_aload_n X dX7_letterHere_18 rfl 0 rfl) ?_
        refine g1 (pc' := 22) (gt_7_3 X hk0 mw_165 dX7_letterHere_19) ?_
        refine g1 (pc' := 25) (w_sipush X (240) dX7_letterHere_22 (by decide)) ?_
        refine g_if (pcT := 40) (pcF := 28) (w_icmp_ge (tgt := 40) X dX7_letterHere_25 (by decide)) (fun h3 => ?_) (fun h3 => ?_)
        · refine g1 (pc' := 41) (w_iconst X (-1) dX7_letterHere_40 (by decide)) ?_
          exact g_rI X dX7_letterHere_41
        · refine g1 (pc' := 29) (w_aload_n X dX7_letterHere_28 rfl 0 rfl) ?_
          refine g1 (pc' := 32) (gt_7_2 X hk0 mw_164 dX7_letterHere_29) ?_
          refine g1 (pc' := 33) (w_aload_n X dX7_letterHere_32 rfl 0 rfl) ?_
          refine g1 (pc' := 36) (gt_7_3 X hk0 mw_165 dX7_letterHere_33) ?_
          refine g_gd (fun h4 => ?_)
          refine g1 (pc' := 37) (w_iald X kd_36 h4 dX7_letterHere_36) ?_
          refine g1 (pc' := 41) (w_goto X dX7_letterHere_37 (by decide)) ?_
          exact g_rI X dX7_letterHere_41
  exact G _ h _ rfl
theorem k_X7_letterHere {x : Cxt} {cc : ByteArray} {nL : Nat} {own : String} {ret : Option FieldType} (X : Ok x cc nL own ret) {d : Nat} (hR : Rm x d KDF) (hN : Nst x) (Z : xz x = 0) {pc : Nat} {lv : List (Nat × Value)} {rest : List Value} {M : Mm} {o0 : Nat} (hk0 : KDF[o0]? = some (7, 0)) {idx : Nat} (hw : Cond.methodLink own idx yX7_letterHere ∈ tbG) (hdd : 1 + 1 ≤ d) (hrm : (rest.map fun v => v.category).sum ≤ 8) (hd : decode cc pc = .ok (.invokevirtual idx, 3)) {r : Int32} (h : f_X7_letterHere o0 M = some r) : StpZ x nL pc lv (.ref (xb x + o0) :: rest) KDF M (pc + 3) lv (.int r :: rest) KDF M :=
  w_callV (st := []) (As := []) X hR hN (CtX0 Z (c_X7_letterHere hk0 h)) ⟨Nat.le_refl _, Nat.le_refl _⟩ ⟨Nat.le_refl _, Nat.le_refl _⟩ hk0 (ci := 7) (fs := fs_7 o0) (fun _ _ _ => rfl) rfl hw mw_400 mw_1 mw_64 mw_401 (n := 0) (by decide +kernel) rfl hdd (by decide) hrm hd
def b_X7_skipBlanks_0 (o0 : Nat) (s0 : Mm) : Option ((Mm) ⊕ (Mm)) :=
  (if (s0 o0 0) ≤ (s0 o0 3) then some (.inr s0) else Bd (f_X7_letterHere o0 s0) (fun r2 => (if r2 = (32 : Int32) then Lt (st2 s0 o0 3 ((s0 o0 3) + (1 : Int32))) (fun M4 => some (.inl M4)) else some (.inr s0))))
def f_X7_skipBlanks (o0 : Nat) (M : Mm) : Option (Mm) :=
  Bd (Lp (b_X7_skipBlanks_0 o0) 100000 M) (fun e5 => some e5)
set_option maxRecDepth 100000 in
set_option maxHeartbeats 4000000 in
theorem c_X7_skipBlanks {l : Launch} {D : va_G} {an : An} {b : Nat} {o0 : Nat} (hk0 : KDF[o0]? = some (7, 0)) {M : Mm} {M' : Mm} (h : f_X7_skipBlanks o0 M = some M') : Ct l D an b 0 yX7_skipBlanks cX7_skipBlanks 1 none 2 [.ref (b + o0)] KDF M none KDF M' := by
  refine CtX.mk (as := fun b => [.ref (b + o0)]) (rv := fun b => none) (by decide) (fun b => Nat.le_of_ble_eq_true rfl) ⟨Nat.le_refl _, Nat.le_refl _⟩ (fun x X hR Z hN _ _ => ?_)
  have X : Ok x cX7_skipBlanks 1 RX7 none := X
  have G : Gz x 1 0 [(0, .ref (xb x + o0))] [] KDF M (f_X7_skipBlanks o0 M) (PsM x KDF) := by
    unfold f_X7_skipBlanks
    refine g_pick (lv' := [(0, .ref (xb x + o0))]) [0] rfl ?_
    refine g_bdJ (J := 33) (fun e5 => []) (fun e5 => []) (fun e5 => e5) (g_lp (fun s0 => [(0, .ref (xb x + o0))]) (fun s0 => s0) (fun s0 => ?_) 100000 M) (fun e5 => ?_)
    · show Gz x 1 0 [(0, .ref (xb x + o0))] [] KDF s0 (b_X7_skipBlanks_0 o0 s0) _
      unfold b_X7_skipBlanks_0
      refine g1 (pc' := 1) (w_aload_n X dX7_skipBlanks_0 rfl 0 rfl) ?_
      refine g1 (pc' := 4) (gt_7_3 X hk0 mw_165 dX7_skipBlanks_1) ?_
      refine g1 (pc' := 5) (w_aload_n X dX7_skipBlanks_4 rfl 0 rfl) ?_
      refine g1 (pc' := 8) (gt_7_0 X hk0 mw_160 dX7_skipBlanks_5) ?_
      refine g_if (pcT := 33) (pcF := 11) (w_icmp_ge (tgt := 33) X dX7_skipBlanks_8 (by decide)) (fun h1 => ?_) (fun h1 => ?_)
      · refine g_inr ?_
        exact g_end [] rfl rfl rfl
      · refine g1 (pc' := 12) (w_aload_n X dX7_skipBlanks_11 rfl 0 rfl) ?_
        refine g_bd (pc' := 15) (fun r2 => [(0, .ref (xb x + o0))]) (fun r2 => [.int r2]) (fun r2 => s0) (fun r2 h => k_X7_letterHere X hR hN Z hk0 mw_398 (by decide) (Nat.le_of_ble_eq_true rfl) dX7_skipBlanks_12 h) (fun r2 => ?_)
        show Gz x 1 15 [(0, .ref (xb x + o0))] [.int r2] KDF s0 _ _
        refine g1 (pc' := 17) (w_bipush X (32) dX7_skipBlanks_15 (by decide)) ?_
        refine g_if (pcT := 20) (pcF := 33) (w_icmp_ne (tgt := 33) X dX7_skipBlanks_17 (by decide)) (fun h3 => ?_) (fun h3 => ?_)
        · refine g1 (pc' := 21) (w_aload_n X dX7_skipBlanks_20 rfl 0 rfl) ?_
          refine g1 (pc' := 22) (w_dup X dX7_skipBlanks_21 rfl) ?_
          refine g1 (pc' := 25) (gt_7_3 X hk0 mw_165 dX7_skipBlanks_22) ?_
          refine g1 (pc' := 26) (w_iconst X (1) dX7_skipBlanks_25 (by decide)) ?_
          refine g1 (pc' := 27) (w_iadd X dX7_skipBlanks_26) ?_
          refine g_lt (pc' := 30) (fun M4 => [(0, .ref (xb x + o0))]) (fun M4 => []) (fun M4 => M4) (pt_7_3 X Z hk0 mw_165 dX7_skipBlanks_27) (fun M4 => ?_)
          show Gz x 1 30 [(0, .ref (xb x + o0))] [] KDF M4 _ _
          refine g1 (pc' := 0) (w_goto X dX7_skipBlanks_30 (by decide)) ?_
          refine g_inl ?_
          exact g_end [0] rfl rfl rfl
        · refine g_inr ?_
          exact g_end [] rfl rfl rfl
    · show Gz x 1 33 [] [] KDF e5 _ _
      exact g_rM X dX7_skipBlanks_33
  exact G _ h _ rfl
theorem k_X7_skipBlanks {x : Cxt} {cc : ByteArray} {nL : Nat} {own : String} {ret : Option FieldType} (X : Ok x cc nL own ret) {d : Nat} (hR : Rm x d KDF) (hN : Nst x) (Z : xz x = 0) {pc : Nat} {lv : List (Nat × Value)} {rest : List Value} {M : Mm} {o0 : Nat} (hk0 : KDF[o0]? = some (7, 0)) {idx : Nat} (hw : Cond.methodLink own idx yX7_skipBlanks ∈ tbG) (hdd : 2 + 1 ≤ d) (hrm : (rest.map fun v => v.category).sum ≤ 8) (hd : decode cc pc = .ok (.invokevirtual idx, 3)) {M' : Mm} (h : f_X7_skipBlanks o0 M = some M') : StpZ x nL pc lv (.ref (xb x + o0) :: rest) KDF M (pc + 3) lv (rest) KDF M' :=
  w_callV (st := []) (As := []) X hR hN (CtX0 Z (c_X7_skipBlanks hk0 h)) ⟨Nat.le_refl _, Nat.le_refl _⟩ ⟨Nat.le_refl _, Nat.le_refl _⟩ hk0 (ci := 7) (fs := fs_7 o0) (fun _ _ _ => rfl) rfl hw mw_396 mw_0 mw_64 mw_397 (n := 0) (by decide +kernel) rfl hdd (by decide) hrm hd
def f_X7_faultOfWord (x0 : Int32) (o1 : Nat) (M : Mm) : Option (Int32) :=
  (if (f_X9_stands o1 M) = 0 then (if x0 = (98 : Int32) then some (0 : Int32) else some (1 : Int32)) else (if x0 = (98 : Int32) then some (3 : Int32) else (if x0 = (99 : Int32) then (if (M o1 3) = 0 then some (0 : Int32) else some (3 : Int32)) else (if x0 = (109 : Int32) then (if (M o1 1) ≤ 0 then some (0 : Int32) else some (3 : Int32)) else (if x0 = (114 : Int32) then (if (M o1 0) ≤ (M o1 2) then some (3 : Int32) else some (0 : Int32)) else some (1 : Int32))))))
set_option maxRecDepth 100000 in
set_option maxHeartbeats 4000000 in
theorem c_X7_faultOfWord {l : Launch} {D : va_G} {an : An} {b : Nat} {x0 : Int32} {o1 : Nat} (hk1 : KDF[o1]? = some (9, 0)) {M : Mm} {r : Int32} (h : f_X7_faultOfWord x0 o1 M = some r) : Ct l D an b 0 yX7_faultOfWord cX7_faultOfWord 2 (some .int) 2 [.int x0, .ref (b + o1)] KDF M (some (.int r)) KDF M := by
  refine CtX.mk (as := fun b => [.int x0, .ref (b + o1)]) (rv := fun b => (some (.int r))) (by decide) (fun b => Nat.le_of_ble_eq_true rfl) ⟨Nat.le_refl _, Nat.le_refl _⟩ (fun x X hR Z hN _ _ => ?_)
  have X : Ok x cX7_faultOfWord 2 RX7 (some .int) := X
  have G : Gz x 2 0 [(0, .int x0), (1, .ref (xb x + o1))] [] KDF M (f_X7_faultOfWord x0 o1 M) (PsI x KDF M) := by
    unfold f_X7_faultOfWord
    refine g1 (pc' := 1) (w_aload_n X dX7_faultOfWord_0 rfl 1 rfl) ?_
    refine g1 (pc' := 4) (k_X9_stands X hR hN Z hk1 mw_409 (by decide) (Nat.le_of_ble_eq_true rfl) dX7_faultOfWord_1) ?_
    refine g_if (pcT := 7) (pcF := 19) (w_if_ne (tgt := 19) X dX7_faultOfWord_4 (by decide)) (fun h1 => ?_) (fun h1 => ?_)
    · refine g1 (pc' := 8) (w_iload_n X dX7_faultOfWord_7 rfl 0 rfl) ?_
      refine g1 (pc' := 10) (w_bipush X (98) dX7_faultOfWord_8 (by decide)) ?_
      refine g_if (pcT := 13) (pcF := 17) (w_icmp_ne (tgt := 17) X dX7_faultOfWord_10 (by decide)) (fun h2 => ?_) (fun h2 => ?_)
      · refine g1 (pc' := 14) (w_iconst X (0) dX7_faultOfWord_13 (by decide)) ?_
        refine g1 (pc' := 18) (w_goto X dX7_faultOfWord_14 (by decide)) ?_
        exact g_rI X dX7_faultOfWord_18
      · refine g1 (pc' := 18) (w_iconst X (1) dX7_faultOfWord_17 (by decide)) ?_
        exact g_rI X dX7_faultOfWord_18
    · refine g1 (pc' := 20) (w_iload_n X dX7_faultOfWord_19 rfl 0 rfl) ?_
      refine g_by (fun h3 => ?_) (fun h3 => ?_)
      · refine g1 (pc' := 64) (w_lkup (off := 44) X dX7_faultOfWord_20 (by decide) (by rw [h3]; decide) (by decide)) ?_
        refine g1 (pc' := 65) (w_iconst X (3) dX7_faultOfWord_64 (by decide)) ?_
        exact g_rI X dX7_faultOfWord_65
      · refine g_by (fun h4 => ?_) (fun h4 => ?_)
        · refine g1 (pc' := 96) (w_lkup (off := 76) X dX7_faultOfWord_20 (by decide) (by rw [h4]; decide) (by decide)) ?_
          refine g1 (pc' := 97) (w_aload_n X dX7_faultOfWord_96 rfl 1 rfl) ?_
          refine g1 (pc' := 100) (gt_9_3 X hk1 mw_128 dX7_faultOfWord_97) ?_
          refine g_if (pcT := 107) (pcF := 103) (w_if_eq (tgt := 107) X dX7_faultOfWord_100 (by decide)) (fun h5 => ?_) (fun h5 => ?_)
          · refine g1 (pc' := 108) (w_iconst X (0) dX7_faultOfWord_107 (by decide)) ?_
            exact g_rI X dX7_faultOfWord_108
          · refine g1 (pc' := 104) (w_iconst X (3) dX7_faultOfWord_103 (by decide)) ?_
            refine g1 (pc' := 108) (w_goto X dX7_faultOfWord_104 (by decide)) ?_
            exact g_rI X dX7_faultOfWord_108
        · refine g_by (fun h6 => ?_) (fun h6 => ?_)
          · refine g1 (pc' := 66) (w_lkup (off := 46) X dX7_faultOfWord_20 (by decide) (by rw [h6]; decide) (by decide)) ?_
            refine g1 (pc' := 67) (w_aload_n X dX7_faultOfWord_66 rfl 1 rfl) ?_
            refine g1 (pc' := 70) (gt_9_1 X hk1 mw_121 dX7_faultOfWord_67) ?_
            refine g_if (pcT := 77) (pcF := 73) (w_if_le (tgt := 77) X dX7_faultOfWord_70 (by decide)) (fun h7 => ?_) (fun h7 => ?_)
            · refine g1 (pc' := 78) (w_iconst X (0) dX7_faultOfWord_77 (by decide)) ?_
              exact g_rI X dX7_faultOfWord_78
            · refine g1 (pc' := 74) (w_iconst X (3) dX7_faultOfWord_73 (by decide)) ?_
              refine g1 (pc' := 78) (w_goto X dX7_faultOfWord_74 (by decide)) ?_
              exact g_rI X dX7_faultOfWord_78
          · refine g_by (fun h8 => ?_) (fun h8 => ?_)
            · refine g1 (pc' := 79) (w_lkup (off := 59) X dX7_faultOfWord_20 (by decide) (by rw [h8]; decide) (by decide)) ?_
              refine g1 (pc' := 80) (w_aload_n X dX7_faultOfWord_79 rfl 1 rfl) ?_
              refine g1 (pc' := 83) (gt_9_2 X hk1 mw_126 dX7_faultOfWord_80) ?_
              refine g1 (pc' := 84) (w_aload_n X dX7_faultOfWord_83 rfl 1 rfl) ?_
              refine g1 (pc' := 87) (gt_9_0 X hk1 mw_115 dX7_faultOfWord_84) ?_
              refine g_if (pcT := 94) (pcF := 90) (w_icmp_ge (tgt := 94) X dX7_faultOfWord_87 (by decide)) (fun h9 => ?_) (fun h9 => ?_)
              · refine g1 (pc' := 95) (w_iconst X (3) dX7_faultOfWord_94 (by decide)) ?_
                exact g_rI X dX7_faultOfWord_95
              · refine g1 (pc' := 91) (w_iconst X (0) dX7_faultOfWord_90 (by decide)) ?_
                refine g1 (pc' := 95) (w_goto X dX7_faultOfWord_91 (by decide)) ?_
                exact g_rI X dX7_faultOfWord_95
            · refine g1 (pc' := 109) (w_lkup (off := 89) X dX7_faultOfWord_20 (by decide) (by rw [lv_osw h3 (by decide), lv_osw h4 (by decide), lv_osw h6 (by decide), lv_osw h8 (by decide)]; rfl) (by decide)) ?_
              refine g1 (pc' := 110) (w_iconst X (1) dX7_faultOfWord_109 (by decide)) ?_
              exact g_rI X dX7_faultOfWord_110
  exact G _ h _ rfl
theorem k_X7_faultOfWord {x : Cxt} {cc : ByteArray} {nL : Nat} {own : String} {ret : Option FieldType} (X : Ok x cc nL own ret) {d : Nat} (hR : Rm x d KDF) (hN : Nst x) (Z : xz x = 0) {pc : Nat} {lv : List (Nat × Value)} {rest : List Value} {M : Mm} {x0 : Int32} {o1 : Nat} (hk1 : KDF[o1]? = some (9, 0)) {idx : Nat} (hw : Cond.methodLink own idx yX7_faultOfWord ∈ tbG) (hdd : 2 + 1 ≤ d) (hrm : (rest.map fun v => v.category).sum ≤ 8) (hd : decode cc pc = .ok (.invokestatic idx, 3)) {r : Int32} (h : f_X7_faultOfWord x0 o1 M = some r) : StpZ x nL pc lv (.ref (xb x + o1) :: .int x0 :: rest) KDF M (pc + 3) lv (.int r :: rest) KDF M :=
  w_callS (st := []) (As := [.int x0, .ref (xb x + o1)]) X hR hN (CtX0 Z (c_X7_faultOfWord hk1 h)) ⟨Nat.le_refl _, Nat.le_refl _⟩ ⟨Nat.le_refl _, Nat.le_refl _⟩ hw mw_407 mw_64 mw_408 (n := 2) (by decide +kernel) rfl hdd (by decide) hrm hd
def f_X7_fail (o0 : Nat) (x1 : Int32) (x2 : Int32) (M : Mm) : Option (Mm) :=
  Lt (st2 M o0 5 x1) (fun M1 => Lt (st2 M1 o0 1 x2) (fun M2 => some M2))
set_option maxRecDepth 100000 in
set_option maxHeartbeats 4000000 in
theorem c_X7_fail {l : Launch} {D : va_G} {an : An} {b : Nat} {o0 : Nat} {x1 : Int32} {x2 : Int32} (hk0 : KDF[o0]? = some (7, 0)) {M : Mm} {M' : Mm} (h : f_X7_fail o0 x1 x2 M = some M') : Ct l D an b 0 yX7_fail cX7_fail 3 none 1 [.ref (b + o0), .int x1, .int x2] KDF M none KDF M' := by
  refine CtX.mk (as := fun b => [.ref (b + o0), .int x1, .int x2]) (rv := fun b => none) (by decide) (fun b => Nat.le_of_ble_eq_true rfl) ⟨Nat.le_refl _, Nat.le_refl _⟩ (fun x X hR Z hN _ _ => ?_)
  have X : Ok x cX7_fail 3 RX7 none := X
  have G : Gz x 3 0 [(0, .ref (xb x + o0)), (1, .int x1), (2, .int x2)] [] KDF M (f_X7_fail o0 x1 x2 M) (PsM x KDF) := by
    unfold f_X7_fail
    refine g1 (pc' := 1) (w_aload_n X dX7_fail_0 rfl 0 rfl) ?_
    refine g1 (pc' := 2) (w_iload_n X dX7_fail_1 rfl 1 rfl) ?_
    refine g_lt (pc' := 5) (fun M1 => [(0, .ref (xb x + o0)), (1, .int x1), (2, .int x2)]) (fun M1 => []) (fun M1 => M1) (pt_7_5 X Z hk0 mw_167 dX7_fail_2) (fun M1 => ?_)
    show Gz x 3 5 [(0, .ref (xb x + o0)), (1, .int x1), (2, .int x2)] [] KDF M1 _ _
    refine g1 (pc' := 6) (w_aload_n X dX7_fail_5 rfl 0 rfl) ?_
    refine g1 (pc' := 7) (w_iload_n X dX7_fail_6 rfl 2 rfl) ?_
    refine g_lt (pc' := 10) (fun M2 => [(0, .ref (xb x + o0)), (1, .int x1), (2, .int x2)]) (fun M2 => []) (fun M2 => M2) (pt_7_1 X Z hk0 mw_162 dX7_fail_7) (fun M2 => ?_)
    show Gz x 3 10 [(0, .ref (xb x + o0)), (1, .int x1), (2, .int x2)] [] KDF M2 _ _
    exact g_rM X dX7_fail_10
  exact G _ h _ rfl
theorem k_X7_fail {x : Cxt} {cc : ByteArray} {nL : Nat} {own : String} {ret : Option FieldType} (X : Ok x cc nL own ret) {d : Nat} (hR : Rm x d KDF) (hN : Nst x) (Z : xz x = 0) {pc : Nat} {lv : List (Nat × Value)} {rest : List Value} {M : Mm} {o0 : Nat} {x1 : Int32} {x2 : Int32} (hk0 : KDF[o0]? = some (7, 0)) {idx : Nat} (hw : Cond.methodLink own idx yX7_fail ∈ tbG) (hdd : 1 + 1 ≤ d) (hrm : (rest.map fun v => v.category).sum ≤ 8) (hd : decode cc pc = .ok (.invokevirtual idx, 3)) {M' : Mm} (h : f_X7_fail o0 x1 x2 M = some M') : StpZ x nL pc lv (.int x2 :: .int x1 :: .ref (xb x + o0) :: rest) KDF M (pc + 3) lv (rest) KDF M' :=
  w_callV (st := []) (As := [.int x1, .int x2]) X hR hN (CtX0 Z (c_X7_fail hk0 h)) ⟨Nat.le_refl _, Nat.le_refl _⟩ ⟨Nat.le_refl _, Nat.le_refl _⟩ hk0 (ci := 7) (fs := fs_7 o0) (fun _ _ _ => rfl) rfl hw mw_415 mw_3 mw_64 mw_416 (n := 2) (by decide +kernel) rfl hdd (by decide) hrm hd
def f_X7_mostNumbers (x0 : Int32) : Option (Int32) :=
  (if x0 = (98 : Int32) then some (6 : Int32) else (if x0 = (109 : Int32) then some (12 : Int32) else some (1 : Int32)))
set_option maxRecDepth 100000 in
set_option maxHeartbeats 4000000 in
theorem c_X7_mostNumbers {l : Launch} {D : va_G} {an : An} {b : Nat} {x0 : Int32}  {M : Mm} {r : Int32} (h : f_X7_mostNumbers x0 = some r) : Ct l D an b 0 yX7_mostNumbers cX7_mostNumbers 1 (some .int) 1 [.int x0] KDF M (some (.int r)) KDF M := by
  refine CtX.mk (as := fun b => [.int x0]) (rv := fun b => (some (.int r))) (by decide) (fun b => Nat.le_of_ble_eq_true rfl) ⟨Nat.le_refl _, Nat.le_refl _⟩ (fun x X hR Z hN _ _ => ?_)
  have X : Ok x cX7_mostNumbers 1 RX7 (some .int) := X
  have G : Gz x 1 0 [(0, .int x0)] [] KDF M (f_X7_mostNumbers x0) (PsI x KDF M) := by
    unfold f_X7_mostNumbers
    refine g1 (pc' := 1) (w_iload_n X dX7_mostNumbers_0 rfl 0 rfl) ?_
    refine g_by (fun h1 => ?_) (fun h1 => ?_)
    · refine g1 (pc' := 28) (w_lkup (off := 27) X dX7_mostNumbers_1 (by decide) (by rw [h1]; decide) (by decide)) ?_
      refine g1 (pc' := 30) (w_bipush X (6) dX7_mostNumbers_28 (by decide)) ?_
      exact g_rI X dX7_mostNumbers_30
    · refine g_by (fun h2 => ?_) (fun h2 => ?_)
      · refine g1 (pc' := 31) (w_lkup (off := 30) X dX7_mostNumbers_1 (by decide) (by rw [h2]; decide) (by decide)) ?_
        refine g1 (pc' := 33) (w_bipush X (12) dX7_mostNumbers_31 (by decide)) ?_
        exact g_rI X dX7_mostNumbers_33
      · refine g1 (pc' := 34) (w_lkup (off := 33) X dX7_mostNumbers_1 (by decide) (by rw [lv_osw h1 (by decide), lv_osw h2 (by decide)]; rfl) (by decide)) ?_
        refine g1 (pc' := 35) (w_iconst X (1) dX7_mostNumbers_34 (by decide)) ?_
        exact g_rI X dX7_mostNumbers_35
  exact G _ h _ rfl
theorem k_X7_mostNumbers {x : Cxt} {cc : ByteArray} {nL : Nat} {own : String} {ret : Option FieldType} (X : Ok x cc nL own ret) {d : Nat} (hR : Rm x d KDF) (hN : Nst x) (Z : xz x = 0) {pc : Nat} {lv : List (Nat × Value)} {rest : List Value} {M : Mm} {x0 : Int32}  {idx : Nat} (hw : Cond.methodLink own idx yX7_mostNumbers ∈ tbG) (hdd : 1 + 1 ≤ d) (hrm : (rest.map fun v => v.category).sum ≤ 8) (hd : decode cc pc = .ok (.invokestatic idx, 3)) {r : Int32} (h : f_X7_mostNumbers x0 = some r) : StpZ x nL pc lv (.int x0 :: rest) KDF M (pc + 3) lv (.int r :: rest) KDF M :=
  w_callS (st := []) (As := [.int x0]) X hR hN (CtX0 Z (c_X7_mostNumbers  h)) ⟨Nat.le_refl _, Nat.le_refl _⟩ ⟨Nat.le_refl _, Nat.le_refl _⟩ hw mw_418 mw_64 mw_419 (n := 1) (by decide +kernel) rfl hdd (by decide) hrm hd
def f_X7_isFigure (x0 : Int32) : Int32 :=
  (if x0 < (48 : Int32) then (0 : Int32) else (if (57 : Int32) < x0 then (0 : Int32) else (1 : Int32)))
theorem z_X7_isFigure {x0 : Int32} : zb (f_X7_isFigure x0) := by
  unfold f_X7_isFigure
  repeat' (first | exact zb0 | exact zb1 | apply zbi)
set_option maxRecDepth 100000 in
set_option maxHeartbeats 4000000 in
theorem c_X7_isFigure {l : Launch} {D : va_G} {an : An} {b : Nat} {x0 : Int32}  {M : Mm}  : Ct l D an b 0 yX7_isFigure cX7_isFigure 1 (some .boolean) 1 [.int x0] KDF M (some (.int (f_X7_isFigure x0))) KDF M := by
  refine CtX.mk (as := fun b => [.int x0]) (rv := fun b => (some (.int (f_X7_isFigure x0)))) (by decide) (fun b => Nat.le_of_ble_eq_true rfl) ⟨Nat.le_refl _, Nat.le_refl _⟩ (fun x X hR Z hN _ _ => ?_)
  have X : Ok x cX7_isFigure 1 RX7 (some .boolean) := X
  have G : Gz x 1 0 [(0, .int x0)] [] KDF M (some (f_X7_isFigure x0)) (PsI x KDF M) := by
    unfold f_X7_isFigure
    refine g1 (pc' := 1) (w_iload_n X dX7_isFigure_0 rfl 0 rfl) ?_
    refine g1 (pc' := 3) (w_bipush X (48) dX7_isFigure_1 (by decide)) ?_
    refine g_ifS (pcT := 16) (pcF := 6) (w_icmp_lt (tgt := 16) X dX7_isFigure_3 (by decide)) (fun h1 => ?_) (fun h1 => ?_)
    · refine g1 (pc' := 17) (w_iconst X (0) dX7_isFigure_16 (by decide)) ?_
      exact g_rZ X zb0 dX7_isFigure_17
    · refine g1 (pc' := 7) (w_iload_n X dX7_isFigure_6 rfl 0 rfl) ?_
      refine g1 (pc' := 9) (w_bipush X (57) dX7_isFigure_7 (by decide)) ?_
      refine g_ifS (pcT := 16) (pcF := 12) (w_icmp_gt (tgt := 16) X dX7_isFigure_9 (by decide)) (fun h2 => ?_) (fun h2 => ?_)
      · refine g1 (pc' := 17) (w_iconst X (0) dX7_isFigure_16 (by decide)) ?_
        exact g_rZ X zb0 dX7_isFigure_17
      · refine g1 (pc' := 13) (w_iconst X (1) dX7_isFigure_12 (by decide)) ?_
        refine g1 (pc' := 17) (w_goto X dX7_isFigure_13 (by decide)) ?_
        exact g_rZ X zb1 dX7_isFigure_17
  exact G _ rfl _ rfl
theorem k_X7_isFigure {x : Cxt} {cc : ByteArray} {nL : Nat} {own : String} {ret : Option FieldType} (X : Ok x cc nL own ret) {d : Nat} (hR : Rm x d KDF) (hN : Nst x) (Z : xz x = 0) {pc : Nat} {lv : List (Nat × Value)} {rest : List Value} {M : Mm} {x0 : Int32}  {idx : Nat} (hw : Cond.methodLink own idx yX7_isFigure ∈ tbG) (hdd : 1 + 1 ≤ d) (hrm : (rest.map fun v => v.category).sum ≤ 8) (hd : decode cc pc = .ok (.invokestatic idx, 3))  : StpZ x nL pc lv (.int x0 :: rest) KDF M (pc + 3) lv (.int (f_X7_isFigure x0) :: rest) KDF M :=
  w_callS (st := []) (As := [.int x0]) X hR hN (CtX0 Z (c_X7_isFigure  )) ⟨Nat.le_refl _, Nat.le_refl _⟩ ⟨Nat.le_refl _, Nat.le_refl _⟩ hw mw_425 mw_64 mw_426 (n := 1) (by decide +kernel) rfl hdd (by decide) hrm hd
def f_X7_withinBounds (x0 : Int32) (x1 : Int32) (o2 : Nat) (M : Mm) : Int32 :=
  (if x0 = (98 : Int32) then (if x1 < (1 : Int32) then (0 : Int32) else (if (20 : Int32) < x1 then (0 : Int32) else (1 : Int32))) else (if x0 = (114 : Int32) then (if x1 < (1 : Int32) then (0 : Int32) else (if (20 : Int32) < x1 then (0 : Int32) else (1 : Int32))) else (if (f_X9_allPlaces o2 M) < x1 then (0 : Int32) else (1 : Int32))))
theorem z_X7_withinBounds {x0 : Int32} {x1 : Int32} {o2 : Nat} {M : Mm} : zb (f_X7_withinBounds x0 x1 o2 M) := by
  unfold f_X7_withinBounds
  repeat' (first | exact zb0 | exact zb1 | apply zbi)
set_option maxRecDepth 100000 in
set_option maxHeartbeats 4000000 in
theorem c_X7_withinBounds {l : Launch} {D : va_G} {an : An} {b : Nat} {x0 : Int32} {x1 : Int32} {o2 : Nat} (hk2 : KDF[o2]? = some (9, 0)) {M : Mm}  : Ct l D an b 0 yX7_withinBounds cX7_withinBounds 3 (some .boolean) 2 [.int x0, .int x1, .ref (b + o2)] KDF M (some (.int (f_X7_withinBounds x0 x1 o2 M))) KDF M := by
  refine CtX.mk (as := fun b => [.int x0, .int x1, .ref (b + o2)]) (rv := fun b => (some (.int (f_X7_withinBounds x0 x1 o2 M)))) (by decide) (fun b => Nat.le_of_ble_eq_true rfl) ⟨Nat.le_refl _, Nat.le_refl _⟩ (fun x X hR Z hN _ _ => ?_)
  have X : Ok x cX7_withinBounds 3 RX7 (some .boolean) := X
  have G : Gz x 3 0 [(0, .int x0), (1, .int x1), (2, .ref (xb x + o2))] [] KDF M (some (f_X7_withinBounds x0 x1 o2 M)) (PsI x KDF M) := by
    unfold f_X7_withinBounds
    refine g1 (pc' := 1) (w_iload_n X dX7_withinBounds_0 rfl 0 rfl) ?_
    refine g1 (pc' := 3) (w_bipush X (98) dX7_withinBounds_1 (by decide)) ?_
    refine g_ifS (pcT := 12) (pcF := 6) (w_icmp_eq (tgt := 12) X dX7_withinBounds_3 (by decide)) (fun h1 => ?_) (fun h1 => ?_)
    · refine g1 (pc' := 13) (w_iload_n X dX7_withinBounds_12 rfl 1 rfl) ?_
      refine g1 (pc' := 14) (w_iconst X (1) dX7_withinBounds_13 (by decide)) ?_
      refine g_ifS (pcT := 27) (pcF := 17) (w_icmp_lt (tgt := 27) X dX7_withinBounds_14 (by decide)) (fun h2 => ?_) (fun h2 => ?_)
      · refine g1 (pc' := 28) (w_iconst X (0) dX7_withinBounds_27 (by decide)) ?_
        exact g_rZ X zb0 dX7_withinBounds_28
      · refine g1 (pc' := 18) (w_iload_n X dX7_withinBounds_17 rfl 1 rfl) ?_
        refine g1 (pc' := 20) (w_bipush X (20) dX7_withinBounds_18 (by decide)) ?_
        refine g_ifS (pcT := 27) (pcF := 23) (w_icmp_gt (tgt := 27) X dX7_withinBounds_20 (by decide)) (fun h3 => ?_) (fun h3 => ?_)
        · refine g1 (pc' := 28) (w_iconst X (0) dX7_withinBounds_27 (by decide)) ?_
          exact g_rZ X zb0 dX7_withinBounds_28
        · refine g1 (pc' := 24) (w_iconst X (1) dX7_withinBounds_23 (by decide)) ?_
          refine g1 (pc' := 28) (w_goto X dX7_withinBounds_24 (by decide)) ?_
          exact g_rZ X zb1 dX7_withinBounds_28
    · refine g1 (pc' := 7) (w_iload_n X dX7_withinBounds_6 rfl 0 rfl) ?_
      refine g1 (pc' := 9) (w_bipush X (114) dX7_withinBounds_7 (by decide)) ?_
      refine g_ifS (pcT := 12) (pcF := 29) (w_icmp_ne (tgt := 29) X dX7_withinBounds_9 (by decide)) (fun h4 => ?_) (fun h4 => ?_)
      · refine g1 (pc' := 13) (w_iload_n X dX7_withinBounds_12 rfl 1 rfl) ?_
        refine g1 (pc' := 14) (w_iconst X (1) dX7_withinBounds_13 (by decide)) ?_
        refine g_ifS (pcT := 27) (pcF := 17) (w_icmp_lt (tgt := 27) X dX7_withinBounds_14 (by decide)) (fun h5 => ?_) (fun h5 => ?_)
        · refine g1 (pc' := 28) (w_iconst X (0) dX7_withinBounds_27 (by decide)) ?_
          exact g_rZ X zb0 dX7_withinBounds_28
        · refine g1 (pc' := 18) (w_iload_n X dX7_withinBounds_17 rfl 1 rfl) ?_
          refine g1 (pc' := 20) (w_bipush X (20) dX7_withinBounds_18 (by decide)) ?_
          refine g_ifS (pcT := 27) (pcF := 23) (w_icmp_gt (tgt := 27) X dX7_withinBounds_20 (by decide)) (fun h6 => ?_) (fun h6 => ?_)
          · refine g1 (pc' := 28) (w_iconst X (0) dX7_withinBounds_27 (by decide)) ?_
            exact g_rZ X zb0 dX7_withinBounds_28
          · refine g1 (pc' := 24) (w_iconst X (1) dX7_withinBounds_23 (by decide)) ?_
            refine g1 (pc' := 28) (w_goto X dX7_withinBounds_24 (by decide)) ?_
            exact g_rZ X zb1 dX7_withinBounds_28
      · refine g1 (pc' := 30) (w_iload_n X dX7_withinBounds_29 rfl 1 rfl) ?_
        refine g1 (pc' := 31) (w_aload_n X dX7_withinBounds_30 rfl 2 rfl) ?_
        refine g1 (pc' := 34) (k_X9_allPlaces X hR hN Z hk2 mw_430 (by decide) (Nat.le_of_ble_eq_true rfl) dX7_withinBounds_31) ?_
        refine g_ifS (pcT := 41) (pcF := 37) (w_icmp_gt (tgt := 41) X dX7_withinBounds_34 (by decide)) (fun h7 => ?_) (fun h7 => ?_)
        · refine g1 (pc' := 42) (w_iconst X (0) dX7_withinBounds_41 (by decide)) ?_
          exact g_rZ X zb0 dX7_withinBounds_42
        · refine g1 (pc' := 38) (w_iconst X (1) dX7_withinBounds_37 (by decide)) ?_
          refine g1 (pc' := 42) (w_goto X dX7_withinBounds_38 (by decide)) ?_
          exact g_rZ X zb1 dX7_withinBounds_42
  exact G _ rfl _ rfl
theorem k_X7_withinBounds {x : Cxt} {cc : ByteArray} {nL : Nat} {own : String} {ret : Option FieldType} (X : Ok x cc nL own ret) {d : Nat} (hR : Rm x d KDF) (hN : Nst x) (Z : xz x = 0) {pc : Nat} {lv : List (Nat × Value)} {rest : List Value} {M : Mm} {x0 : Int32} {x1 : Int32} {o2 : Nat} (hk2 : KDF[o2]? = some (9, 0)) {idx : Nat} (hw : Cond.methodLink own idx yX7_withinBounds ∈ tbG) (hdd : 2 + 1 ≤ d) (hrm : (rest.map fun v => v.category).sum ≤ 8) (hd : decode cc pc = .ok (.invokestatic idx, 3))  : StpZ x nL pc lv (.ref (xb x + o2) :: .int x1 :: .int x0 :: rest) KDF M (pc + 3) lv (.int (f_X7_withinBounds x0 x1 o2 M) :: rest) KDF M :=
  w_callS (st := []) (As := [.int x0, .int x1, .ref (xb x + o2)]) X hR hN (CtX0 Z (c_X7_withinBounds hk2 )) ⟨Nat.le_refl _, Nat.le_refl _⟩ ⟨Nat.le_refl _, Nat.le_refl _⟩ hw mw_428 mw_64 mw_429 (n := 3) (by decide +kernel) rfl hdd (by decide) hrm hd
def b_X7_readNumber_14 (o0 : Nat) (s14 : Int32 × Mm) : Option ((Int32 × Mm) ⊕ (Int32 × Mm)) :=
  (if (s14.2 o0 0) ≤ (s14.2 o0 3) then some (.inr (s14.1, s14.2)) else Bd (f_X7_letterHere o0 s14.2) (fun r4 => (if (f_X7_isFigure r4) = 0 then some (.inr (s14.1, s14.2)) else Bd (((if (3 : Int32) ≤ ((s14.2 o0 3) - (s14.2 o0 4)) then some s14.1 else Bd (f_X7_letterHere o0 s14.2) (fun r9 => Lt (((s14.1 * (10 : Int32)) + r9) - (48 : Int32)) (fun v10 => some v10)))) : Option (Int32)) (fun j7 => Lt (st2 s14.2 o0 3 ((s14.2 o0 3) + (1 : Int32))) (fun M11 => some (.inl (j7, M11)))))))
def f_X7_readNumber (o0 : Nat) (x1 : Int32) (o2 : Nat) (M : Mm) : Option (Int32 × Mm) :=
  Bd (f_X7_skipBlanks o0 M) (fun r1 => Lt (st2 r1 o0 4 (r1 o0 3)) (fun M2 => Bd (Lp (b_X7_readNumber_14 o0) 100000 ((0 : Int32), M2)) (fun e12 => Lt ((e12.2 o0 3) - (e12.2 o0 4)) (fun v13 => Bd (((if v13 = 0 then Bd (f_X7_fail o0 (1 : Int32) (e12.2 o0 3) e12.2) (fun r17 => some r17) else (if (3 : Int32) < v13 then Bd (f_X7_fail o0 (2 : Int32) (e12.2 o0 4) e12.2) (fun r19 => some r19) else (if (f_X7_withinBounds x1 e12.1 o2 e12.2) = 0 then Bd (f_X7_fail o0 (2 : Int32) (e12.2 o0 4) e12.2) (fun r21 => some r21) else some e12.2)))) : Option (Mm)) (fun j15 => some (e12.1, j15))))))
set_option maxRecDepth 100000 in
set_option maxHeartbeats 4000000 in
theorem c_X7_readNumber {l : Launch} {D : va_G} {an : An} {b : Nat} {o0 : Nat} {x1 : Int32} {o2 : Nat} (hk0 : KDF[o0]? = some (7, 0)) (hk2 : KDF[o2]? = some (9, 0)) {M : Mm} {r : Int32} {M' : Mm} (h : f_X7_readNumber o0 x1 o2 M = some (r, M')) : Ct l D an b 0 yX7_readNumber cX7_readNumber 5 (some .int) 3 [.ref (b + o0), .int x1, .ref (b + o2)] KDF M (some (.int r)) KDF M' := by
  refine CtX.mk (as := fun b => [.ref (b + o0), .int x1, .ref (b + o2)]) (rv := fun b => (some (.int r))) (by decide) (fun b => Nat.le_of_ble_eq_true rfl) ⟨Nat.le_refl _, Nat.le_refl _⟩ (fun x X hR Z hN _ _ => ?_)
  have X : Ok x cX7_readNumber 5 RX7 (some .int) := X
  have G : Gz x 5 0 [(0, .ref (xb x + o0)), (1, .int x1), (2, .ref (xb x + o2))] [] KDF M (f_X7_readNumber o0 x1 o2 M) (PsI2 x KDF) := by
    unfold f_X7_readNumber
    refine g1 (pc' := 1) (w_aload_n X dX7_readNumber_0 rfl 0 rfl) ?_
    refine g_bd (pc' := 4) (fun r1 => [(0, .ref (xb x + o0)), (1, .int x1), (2, .ref (xb x + o2))]) (fun r1 => []) (fun r1 => r1) (fun r1 h => k_X7_skipBlanks X hR hN Z hk0 mw_394 (by decide) (Nat.le_of_ble_eq_true rfl) dX7_readNumber_1 h) (fun r1 => ?_)
    show Gz x 5 4 [(0, .ref (xb x + o0)), (1, .int x1), (2, .ref (xb x + o2))] [] KDF r1 _ _
    refine g1 (pc' := 5) (w_aload_n X dX7_readNumber_4 rfl 0 rfl) ?_
    refine g1 (pc' := 6) (w_aload_n X dX7_readNumber_5 rfl 0 rfl) ?_
    refine g1 (pc' := 9) (gt_7_3 X hk0 mw_165 dX7_readNumber_6) ?_
    refine g_lt (pc' := 12) (fun M2 => [(0, .ref (xb x + o0)), (1, .int x1), (2, .ref (xb x + o2))]) (fun M2 => []) (fun M2 => M2) (pt_7_4 X Z hk0 mw_166 dX7_readNumber_9) (fun M2 => ?_)
    show Gz x 5 12 [(0, .ref (xb x + o0)), (1, .int x1), (2, .ref (xb x + o2))] [] KDF M2 _ _
    refine g1 (pc' := 13) (w_iconst X (0) dX7_readNumber_12 (by decide)) ?_
    refine g1 (pc' := 14) (lv' := [(3, .int (0 : Int32)), (0, .ref (xb x + o0)), (1, .int x1), (2, .ref (xb x + o2))]) (w_istore_n X dX7_readNumber_13 rfl (by decide) rfl) ?_
    refine g_pick (lv' := [(0, .ref (xb x + o0)), (1, .int x1), (2, .ref (xb x + o2)), (3, .int (0 : Int32))]) [1, 2, 3, 0] rfl ?_
    refine g_bdJ (J := 74) (fun e12 => [(0, .ref (xb x + o0)), (1, .int x1), (2, .ref (xb x + o2)), (3, .int e12.1)]) (fun e12 => []) (fun e12 => e12.2) (g_lp (fun s14 => [(0, .ref (xb x + o0)), (1, .int x1), (2, .ref (xb x + o2)), (3, .int s14.1)]) (fun s14 => s14.2) (fun s14 => ?_) 100000 ((0 : Int32), M2)) (fun e12 => ?_)
    · show Gz x 5 14 [(0, .ref (xb x + o0)), (1, .int x1), (2, .ref (xb x + o2)), (3, .int s14.1)] [] KDF s14.2 (b_X7_readNumber_14 o0 s14) _
      unfold b_X7_readNumber_14
      refine g1 (pc' := 15) (w_aload_n X dX7_readNumber_14 rfl 0 rfl) ?_
      refine g1 (pc' := 18) (gt_7_3 X hk0 mw_165 dX7_readNumber_15) ?_
      refine g1 (pc' := 19) (w_aload_n X dX7_readNumber_18 rfl 0 rfl) ?_
      refine g1 (pc' := 22) (gt_7_0 X hk0 mw_160 dX7_readNumber_19) ?_
      refine g_if (pcT := 74) (pcF := 25) (w_icmp_ge (tgt := 74) X dX7_readNumber_22 (by decide)) (fun h3 => ?_) (fun h3 => ?_)
      · refine g_inr ?_
        exact g_end [0, 1, 2, 3] rfl rfl rfl
      · refine g1 (pc' := 26) (w_aload_n X dX7_readNumber_25 rfl 0 rfl) ?_
        refine g_bd (pc' := 29) (fun r4 => [(0, .ref (xb x + o0)), (1, .int x1), (2, .ref (xb x + o2)), (3, .int s14.1)]) (fun r4 => [.int r4]) (fun r4 => s14.2) (fun r4 h => k_X7_letterHere X hR hN Z hk0 mw_398 (by decide) (Nat.le_of_ble_eq_true rfl) dX7_readNumber_26 h) (fun r4 => ?_)
        show Gz x 5 29 [(0, .ref (xb x + o0)), (1, .int x1), (2, .ref (xb x + o2)), (3, .int s14.1)] [.int r4] KDF s14.2 _ _
        refine g1 (pc' := 32) (k_X7_isFigure X hR hN Z  mw_424 (by decide) (Nat.le_of_ble_eq_true rfl) dX7_readNumber_29) ?_
        refine g_if (pcT := 74) (pcF := 35) (w_if_eq (tgt := 74) X dX7_readNumber_32 (by decide)) (fun h5 => ?_) (fun h5 => ?_)
        · refine g_inr ?_
          exact g_end [0, 1, 2, 3] rfl rfl rfl
        · refine g1 (pc' := 36) (w_aload_n X dX7_readNumber_35 rfl 0 rfl) ?_
          refine g1 (pc' := 39) (gt_7_3 X hk0 mw_165 dX7_readNumber_36) ?_
          refine g1 (pc' := 40) (w_aload_n X dX7_readNumber_39 rfl 0 rfl) ?_
          refine g1 (pc' := 43) (gt_7_4 X hk0 mw_166 dX7_readNumber_40) ?_
          refine g1 (pc' := 44) (w_isub X dX7_readNumber_43) ?_
          refine g1 (pc' := 45) (w_iconst X (3) dX7_readNumber_44 (by decide)) ?_
          refine g_bdJ (J := 61) (fun j7 => [(0, .ref (xb x + o0)), (1, .int x1), (2, .ref (xb x + o2)), (3, .int j7)]) (fun j7 => []) (fun j7 => s14.2) ?_ (fun j7 => ?_)
          · refine g_if (pcT := 61) (pcF := 48) (w_icmp_ge (tgt := 61) X dX7_readNumber_45 (by decide)) (fun h8 => ?_) (fun h8 => ?_)
            · exact g_end [0, 1, 2, 3] rfl rfl rfl
            · refine g1 (pc' := 49) (w_iload_n X dX7_readNumber_48 rfl 3 rfl) ?_
              refine g1 (pc' := 51) (w_bipush X (10) dX7_readNumber_49 (by decide)) ?_
              refine g1 (pc' := 52) (w_imul X dX7_readNumber_51) ?_
              refine g1 (pc' := 53) (w_aload_n X dX7_readNumber_52 rfl 0 rfl) ?_
              refine g_bd (pc' := 56) (fun r9 => [(0, .ref (xb x + o0)), (1, .int x1), (2, .ref (xb x + o2)), (3, .int s14.1)]) (fun r9 => [.int r9, .int (s14.1 * (10 : Int32))]) (fun r9 => s14.2) (fun r9 h => k_X7_letterHere X hR hN Z hk0 mw_398 (by decide) (Nat.le_of_ble_eq_true rfl) dX7_readNumber_53 h) (fun r9 => ?_)
              show Gz x 5 56 [(0, .ref (xb x + o0)), (1, .int x1), (2, .ref (xb x + o2)), (3, .int s14.1)] [.int r9, .int (s14.1 * (10 : Int32))] KDF s14.2 _ _
              refine g1 (pc' := 57) (w_iadd X dX7_readNumber_56) ?_
              refine g1 (pc' := 59) (w_bipush X (48) dX7_readNumber_57 (by decide)) ?_
              refine g1 (pc' := 60) (w_isub X dX7_readNumber_59) ?_
              refine g_lt (pc' := 61) (fun v10 => [(3, .int v10), (0, .ref (xb x + o0)), (1, .int x1), (2, .ref (xb x + o2))]) (fun v10 => []) (fun v10 => s14.2) (w_istore_n X dX7_readNumber_60 rfl (by decide) rfl) (fun v10 => ?_)
              show Gz x 5 61 [(3, .int v10), (0, .ref (xb x + o0)), (1, .int x1), (2, .ref (xb x + o2))] [] KDF s14.2 _ _
              exact g_end [1, 2, 3, 0] rfl rfl rfl
          · show Gz x 5 61 [(0, .ref (xb x + o0)), (1, .int x1), (2, .ref (xb x + o2)), (3, .int j7)] [] KDF s14.2 _ _
            refine g1 (pc' := 62) (w_aload_n X dX7_readNumber_61 rfl 0 rfl) ?_
            refine g1 (pc' := 63) (w_dup X dX7_readNumber_62 rfl) ?_
            refine g1 (pc' := 66) (gt_7_3 X hk0 mw_165 dX7_readNumber_63) ?_
            refine g1 (pc' := 67) (w_iconst X (1) dX7_readNumber_66 (by decide)) ?_
            refine g1 (pc' := 68) (w_iadd X dX7_readNumber_67) ?_
            refine g_lt (pc' := 71) (fun M11 => [(0, .ref (xb x + o0)), (1, .int x1), (2, .ref (xb x + o2)), (3, .int j7)]) (fun M11 => []) (fun M11 => M11) (pt_7_3 X Z hk0 mw_165 dX7_readNumber_68) (fun M11 => ?_)
            show Gz x 5 71 [(0, .ref (xb x + o0)), (1, .int x1), (2, .ref (xb x + o2)), (3, .int j7)] [] KDF M11 _ _
            refine g1 (pc' := 14) (w_goto X dX7_readNumber_71 (by decide)) ?_
            refine g_inl ?_
            exact g_end [0, 1, 2, 3] rfl rfl rfl
    · show Gz x 5 74 [(0, .ref (xb x + o0)), (1, .int x1), (2, .ref (xb x + o2)), (3, .int e12.1)] [] KDF e12.2 _ _
      refine g1 (pc' := 75) (w_aload_n X dX7_readNumber_74 rfl 0 rfl) ?_
      refine g1 (pc' := 78) (gt_7_3 X hk0 mw_165 dX7_readNumber_75) ?_
      refine g1 (pc' := 79) (w_aload_n X dX7_readNumber_78 rfl 0 rfl) ?_
      refine g1 (pc' := 82) (gt_7_4 X hk0 mw_166 dX7_readNumber_79) ?_
      refine g1 (pc' := 83) (w_isub X dX7_readNumber_82) ?_
      refine g_lt (pc' := 85) (fun v13 => [(4, .int v13), (0, .ref (xb x + o0)), (1, .int x1), (2, .ref (xb x + o2)), (3, .int e12.1)]) (fun v13 => []) (fun v13 => e12.2) (w_istore X dX7_readNumber_83 (by decide) rfl) (fun v13 => ?_)
      show Gz x 5 85 [(4, .int v13), (0, .ref (xb x + o0)), (1, .int x1), (2, .ref (xb x + o2)), (3, .int e12.1)] [] KDF e12.2 _ _
      refine g1 (pc' := 87) (w_iload X dX7_readNumber_85 0 rfl) ?_
      refine g_bdJ (J := 126) (fun j15 => [(3, .int e12.1)]) (fun j15 => []) (fun j15 => j15) ?_ (fun j15 => ?_)
      · refine g_if (pcT := 90) (pcF := 102) (w_if_ne (tgt := 102) X dX7_readNumber_87 (by decide)) (fun h16 => ?_) (fun h16 => ?_)
        · refine g1 (pc' := 91) (w_aload_n X dX7_readNumber_90 rfl 1 rfl) ?_
          refine g1 (pc' := 92) (w_iconst X (1) dX7_readNumber_91 (by decide)) ?_
          refine g1 (pc' := 93) (w_aload_n X dX7_readNumber_92 rfl 1 rfl) ?_
          refine g1 (pc' := 96) (gt_7_3 X hk0 mw_165 dX7_readNumber_93) ?_
          refine g_bd (pc' := 99) (fun r17 => [(4, .int v13), (0, .ref (xb x + o0)), (1, .int x1), (2, .ref (xb x + o2)), (3, .int e12.1)]) (fun r17 => []) (fun r17 => r17) (fun r17 h => k_X7_fail X hR hN Z hk0 mw_413 (by decide) (Nat.le_of_ble_eq_true rfl) dX7_readNumber_96 h) (fun r17 => ?_)
          show Gz x 5 99 [(4, .int v13), (0, .ref (xb x + o0)), (1, .int x1), (2, .ref (xb x + o2)), (3, .int e12.1)] [] KDF r17 _ _
          refine g1 (pc' := 126) (w_goto X dX7_readNumber_99 (by decide)) ?_
          exact g_end [4] rfl rfl rfl
        · refine g1 (pc' := 104) (w_iload X dX7_readNumber_102 0 rfl) ?_
          refine g1 (pc' := 105) (w_iconst X (3) dX7_readNumber_104 (by decide)) ?_
          refine g_if (pcT := 117) (pcF := 108) (w_icmp_gt (tgt := 117) X dX7_readNumber_105 (by decide)) (fun h18 => ?_) (fun h18 => ?_)
          · refine g1 (pc' := 118) (w_aload_n X dX7_readNumber_117 rfl 1 rfl) ?_
            refine g1 (pc' := 119) (w_iconst X (2) dX7_readNumber_118 (by decide)) ?_
            refine g1 (pc' := 120) (w_aload_n X dX7_readNumber_119 rfl 1 rfl) ?_
            refine g1 (pc' := 123) (gt_7_4 X hk0 mw_166 dX7_readNumber_120) ?_
            refine g_bd (pc' := 126) (fun r19 => [(4, .int v13), (0, .ref (xb x + o0)), (1, .int x1), (2, .ref (xb x + o2)), (3, .int e12.1)]) (fun r19 => []) (fun r19 => r19) (fun r19 h => k_X7_fail X hR hN Z hk0 mw_413 (by decide) (Nat.le_of_ble_eq_true rfl) dX7_readNumber_123 h) (fun r19 => ?_)
            show Gz x 5 126 [(4, .int v13), (0, .ref (xb x + o0)), (1, .int x1), (2, .ref (xb x + o2)), (3, .int e12.1)] [] KDF r19 _ _
            exact g_end [4] rfl rfl rfl
          · refine g1 (pc' := 109) (w_iload_n X dX7_readNumber_108 rfl 2 rfl) ?_
            refine g1 (pc' := 110) (w_iload_n X dX7_readNumber_109 rfl 4 rfl) ?_
            refine g1 (pc' := 111) (w_aload_n X dX7_readNumber_110 rfl 3 rfl) ?_
            refine g1 (pc' := 114) (k_X7_withinBounds X hR hN Z hk2 mw_427 (by decide) (Nat.le_of_ble_eq_true rfl) dX7_readNumber_111) ?_
            refine g_if (pcT := 117) (pcF := 126) (w_if_ne (tgt := 126) X dX7_readNumber_114 (by decide)) (fun h20 => ?_) (fun h20 => ?_)
            · refine g1 (pc' := 118) (w_aload_n X dX7_readNumber_117 rfl 1 rfl) ?_
              refine g1 (pc' := 119) (w_iconst X (2) dX7_readNumber_118 (by decide)) ?_
              refine g1 (pc' := 120) (w_aload_n X dX7_readNumber_119 rfl 1 rfl) ?_
              refine g1 (pc' := 123) (gt_7_4 X hk0 mw_166 dX7_readNumber_120) ?_
              refine g_bd (pc' := 126) (fun r21 => [(4, .int v13), (0, .ref (xb x + o0)), (1, .int x1), (2, .ref (xb x + o2)), (3, .int e12.1)]) (fun r21 => []) (fun r21 => r21) (fun r21 h => k_X7_fail X hR hN Z hk0 mw_413 (by decide) (Nat.le_of_ble_eq_true rfl) dX7_readNumber_123 h) (fun r21 => ?_)
              show Gz x 5 126 [(4, .int v13), (0, .ref (xb x + o0)), (1, .int x1), (2, .ref (xb x + o2)), (3, .int e12.1)] [] KDF r21 _ _
              exact g_end [4] rfl rfl rfl
            · exact g_end [4] rfl rfl rfl
      · show Gz x 5 126 [(3, .int e12.1)] [] KDF j15 _ _
        refine g1 (pc' := 127) (w_iload_n X dX7_readNumber_126 rfl 0 rfl) ?_
        exact g_rI2 X dX7_readNumber_127
  exact G _ h _ rfl
theorem k_X7_readNumber {x : Cxt} {cc : ByteArray} {nL : Nat} {own : String} {ret : Option FieldType} (X : Ok x cc nL own ret) {d : Nat} (hR : Rm x d KDF) (hN : Nst x) (Z : xz x = 0) {pc : Nat} {lv : List (Nat × Value)} {rest : List Value} {M : Mm} {o0 : Nat} {x1 : Int32} {o2 : Nat} (hk0 : KDF[o0]? = some (7, 0)) (hk2 : KDF[o2]? = some (9, 0)) {idx : Nat} (hw : Cond.methodLink own idx yX7_readNumber ∈ tbG) (hdd : 3 + 1 ≤ d) (hrm : (rest.map fun v => v.category).sum ≤ 8) (hd : decode cc pc = .ok (.invokevirtual idx, 3)) {r : Int32} {M' : Mm} (h : f_X7_readNumber o0 x1 o2 M = some (r, M')) : StpZ x nL pc lv (.ref (xb x + o2) :: .int x1 :: .ref (xb x + o0) :: rest) KDF M (pc + 3) lv (.int r :: rest) KDF M' :=
  w_callV (st := []) (As := [.int x1, .ref (xb x + o2)]) X hR hN (CtX0 Z (c_X7_readNumber hk0 hk2 h)) ⟨Nat.le_refl _, Nat.le_refl _⟩ ⟨Nat.le_refl _, Nat.le_refl _⟩ hk0 (ci := 7) (fs := fs_7 o0) (fun _ _ _ => rfl) rfl hw mw_422 mw_4 mw_64 mw_423 (n := 2) (by decide +kernel) rfl hdd (by decide) hrm hd
def f_X9_addBell (o0 : Nat) (x1 : Int32) (M : Mm) : Option (Mm) :=
  (if (6 : Int32) ≤ (M o0 0) then some M else Lt (st2 M o0 0 ((M o0 0) + (1 : Int32))) (fun M2 => Gd (ib (M o0 0) 6) (Lt (st2 M2 (o0 + 3) (ix (M o0 0)) x1) (fun M4 => some M4))))
set_option maxRecDepth 100000 in
set_option maxHeartbeats 4000000 in
theorem c_X9_addBell {l : Launch} {D : va_G} {an : An} {b : Nat} {o0 : Nat} {x1 : Int32} (hk0 : KDF[o0]? = some (9, 0)) {M : Mm} {M' : Mm} (h : f_X9_addBell o0 x1 M = some M') : Ct l D an b 0 yX9_addBell cX9_addBell 2 none 1 [.ref (b + o0), .int x1] KDF M none KDF M' := by
  refine CtX.mk (as := fun b => [.ref (b + o0), .int x1]) (rv := fun b => none) (by decide) (fun b => Nat.le_of_ble_eq_true rfl) ⟨Nat.le_refl _, Nat.le_refl _⟩ (fun x X hR Z hN _ _ => ?_)
  have X : Ok x cX9_addBell 2 RX9 none := X
  have G : Gz x 2 0 [(0, .ref (xb x + o0)), (1, .int x1)] [] KDF M (f_X9_addBell o0 x1 M) (PsM x KDF) := by
    unfold f_X9_addBell
    refine g1 (pc' := 1) (w_aload_n X dX9_addBell_0 rfl 0 rfl) ?_
    refine g1 (pc' := 4) (gt_9_0 X hk0 mw_110 dX9_addBell_1) ?_
    refine g1 (pc' := 6) (w_bipush X (6) dX9_addBell_4 (by decide)) ?_
    refine g_if (pcT := 26) (pcF := 9) (w_icmp_ge (tgt := 26) X dX9_addBell_6 (by decide)) (fun h1 => ?_) (fun h1 => ?_)
    · exact g_rM X dX9_addBell_26
    · refine g1 (pc' := 10) (w_aload_n X dX9_addBell_9 rfl 0 rfl) ?_
      refine g1 (pc' := 13) (gt_9_6 X hk0 mw_134 dX9_addBell_10) ?_
      refine g1 (pc' := 14) (w_aload_n X dX9_addBell_13 rfl 0 rfl) ?_
      refine g1 (pc' := 15) (w_dup X dX9_addBell_14 rfl) ?_
      refine g1 (pc' := 18) (gt_9_0 X hk0 mw_110 dX9_addBell_15) ?_
      refine g1 (pc' := 19) (w_dup_x1 X dX9_addBell_18 rfl rfl) ?_
      refine g1 (pc' := 20) (w_iconst X (1) dX9_addBell_19 (by decide)) ?_
      refine g1 (pc' := 21) (w_iadd X dX9_addBell_20) ?_
      refine g_lt (pc' := 24) (fun M2 => [(0, .ref (xb x + o0)), (1, .int x1)]) (fun M2 => [.int (M o0 0), .ref (xb x + (o0 + 3))]) (fun M2 => M2) (pt_9_0 X Z hk0 mw_110 dX9_addBell_21) (fun M2 => ?_)
      show Gz x 2 24 [(0, .ref (xb x + o0)), (1, .int x1)] [.int (M o0 0), .ref (xb x + (o0 + 3))] KDF M2 _ _
      refine g1 (pc' := 25) (w_iload_n X dX9_addBell_24 rfl 1 rfl) ?_
      refine g_gd (fun h3 => ?_)
      refine g_lt (pc' := 26) (fun M4 => [(0, .ref (xb x + o0)), (1, .int x1)]) (fun M4 => []) (fun M4 => M4) (w_iast X Z (kd_To3 hk0) h3 dX9_addBell_25) (fun M4 => ?_)
      show Gz x 2 26 [(0, .ref (xb x + o0)), (1, .int x1)] [] KDF M4 _ _
      exact g_rM X dX9_addBell_26
  exact G _ h _ rfl
theorem k_X9_addBell {x : Cxt} {cc : ByteArray} {nL : Nat} {own : String} {ret : Option FieldType} (X : Ok x cc nL own ret) {d : Nat} (hR : Rm x d KDF) (hN : Nst x) (Z : xz x = 0) {pc : Nat} {lv : List (Nat × Value)} {rest : List Value} {M : Mm} {o0 : Nat} {x1 : Int32} (hk0 : KDF[o0]? = some (9, 0)) {idx : Nat} (hw : Cond.methodLink own idx yX9_addBell ∈ tbG) (hdd : 1 + 1 ≤ d) (hrm : (rest.map fun v => v.category).sum ≤ 8) (hd : decode cc pc = .ok (.invokevirtual idx, 3)) {M' : Mm} (h : f_X9_addBell o0 x1 M = some M') : StpZ x nL pc lv (.int x1 :: .ref (xb x + o0) :: rest) KDF M (pc + 3) lv (rest) KDF M' :=
  w_callV (st := []) (As := [.int x1]) X hR hN (CtX0 Z (c_X9_addBell hk0 h)) ⟨Nat.le_refl _, Nat.le_refl _⟩ ⟨Nat.le_refl _, Nat.le_refl _⟩ hk0 (ci := 9) (fs := fs_9 o0) (fun _ _ _ => rfl) rfl hw mw_438 mw_439 mw_62 mw_440 (n := 1) (by decide +kernel) rfl hdd (by decide) hrm hd
def f_X9_addSuitor (o0 : Nat) (x1 : Int32) (M : Mm) : Option (Mm) :=
  (if (6 : Int32) ≤ (M o0 2) then some M else Lt (st2 M o0 2 ((M o0 2) + (1 : Int32))) (fun M2 => Gd (ib (M o0 2) 6) (Lt (st2 M2 (o0 + 4) (ix (M o0 2)) x1) (fun M4 => some M4))))
set_option maxRecDepth 100000 in
set_option maxHeartbeats 4000000 in
theorem c_X9_addSuitor {l : Launch} {D : va_G} {an : An} {b : Nat} {o0 : Nat} {x1 : Int32} (hk0 : KDF[o0]? = some (9, 0)) {M : Mm} {M' : Mm} (h : f_X9_addSuitor o0 x1 M = some M') : Ct l D an b 0 yX9_addSuitor cX9_addSuitor 2 none 1 [.ref (b + o0), .int x1] KDF M none KDF M' := by
  refine CtX.mk (as := fun b => [.ref (b + o0), .int x1]) (rv := fun b => none) (by decide) (fun b => Nat.le_of_ble_eq_true rfl) ⟨Nat.le_refl _, Nat.le_refl _⟩ (fun x X hR Z hN _ _ => ?_)
  have X : Ok x cX9_addSuitor 2 RX9 none := X
  have G : Gz x 2 0 [(0, .ref (xb x + o0)), (1, .int x1)] [] KDF M (f_X9_addSuitor o0 x1 M) (PsM x KDF) := by
    unfold f_X9_addSuitor
    refine g1 (pc' := 1) (w_aload_n X dX9_addSuitor_0 rfl 0 rfl) ?_
    refine g1 (pc' := 4) (gt_9_2 X hk0 mw_122 dX9_addSuitor_1) ?_
    refine g1 (pc' := 6) (w_bipush X (6) dX9_addSuitor_4 (by decide)) ?_
    refine g_if (pcT := 26) (pcF := 9) (w_icmp_ge (tgt := 26) X dX9_addSuitor_6 (by decide)) (fun h1 => ?_) (fun h1 => ?_)
    · exact g_rM X dX9_addSuitor_26
    · refine g1 (pc' := 10) (w_aload_n X dX9_addSuitor_9 rfl 0 rfl) ?_
      refine g1 (pc' := 13) (gt_9_7 X hk0 mw_135 dX9_addSuitor_10) ?_
      refine g1 (pc' := 14) (w_aload_n X dX9_addSuitor_13 rfl 0 rfl) ?_
      refine g1 (pc' := 15) (w_dup X dX9_addSuitor_14 rfl) ?_
      refine g1 (pc' := 18) (gt_9_2 X hk0 mw_122 dX9_addSuitor_15) ?_
      refine g1 (pc' := 19) (w_dup_x1 X dX9_addSuitor_18 rfl rfl) ?_
      refine g1 (pc' := 20) (w_iconst X (1) dX9_addSuitor_19 (by decide)) ?_
      refine g1 (pc' := 21) (w_iadd X dX9_addSuitor_20) ?_
      refine g_lt (pc' := 24) (fun M2 => [(0, .ref (xb x + o0)), (1, .int x1)]) (fun M2 => [.int (M o0 2), .ref (xb x + (o0 + 4))]) (fun M2 => M2) (pt_9_2 X Z hk0 mw_122 dX9_addSuitor_21) (fun M2 => ?_)
      show Gz x 2 24 [(0, .ref (xb x + o0)), (1, .int x1)] [.int (M o0 2), .ref (xb x + (o0 + 4))] KDF M2 _ _
      refine g1 (pc' := 25) (w_iload_n X dX9_addSuitor_24 rfl 1 rfl) ?_
      refine g_gd (fun h3 => ?_)
      refine g_lt (pc' := 26) (fun M4 => [(0, .ref (xb x + o0)), (1, .int x1)]) (fun M4 => []) (fun M4 => M4) (w_iast X Z (kd_To4 hk0) h3 dX9_addSuitor_25) (fun M4 => ?_)
      show Gz x 2 26 [(0, .ref (xb x + o0)), (1, .int x1)] [] KDF M4 _ _
      exact g_rM X dX9_addSuitor_26
  exact G _ h _ rfl
theorem k_X9_addSuitor {x : Cxt} {cc : ByteArray} {nL : Nat} {own : String} {ret : Option FieldType} (X : Ok x cc nL own ret) {d : Nat} (hR : Rm x d KDF) (hN : Nst x) (Z : xz x = 0) {pc : Nat} {lv : List (Nat × Value)} {rest : List Value} {M : Mm} {o0 : Nat} {x1 : Int32} (hk0 : KDF[o0]? = some (9, 0)) {idx : Nat} (hw : Cond.methodLink own idx yX9_addSuitor ∈ tbG) (hdd : 1 + 1 ≤ d) (hrm : (rest.map fun v => v.category).sum ≤ 8) (hd : decode cc pc = .ok (.invokevirtual idx, 3)) {M' : Mm} (h : f_X9_addSuitor o0 x1 M = some M') : StpZ x nL pc lv (.int x1 :: .ref (xb x + o0) :: rest) KDF M (pc + 3) lv (rest) KDF M' :=
  w_callV (st := []) (As := [.int x1]) X hR hN (CtX0 Z (c_X9_addSuitor hk0 h)) ⟨Nat.le_refl _, Nat.le_refl _⟩ ⟨Nat.le_refl _, Nat.le_refl _⟩ hk0 (ci := 9) (fs := fs_9 o0) (fun _ _ _ => rfl) rfl hw mw_442 mw_443 mw_62 mw_444 (n := 1) (by decide +kernel) rfl hdd (by decide) hrm hd
def f_X9_addChange (o0 : Nat) (x1 : Int32) (M : Mm) : Option (Int32 × Mm) :=
  (if (12 : Int32) ≤ (M o0 1) then some ((0 : Int32), M) else Gd (ib (M o0 1) 12) (Gd (KDF[((o0 + 2) + 3 + ix (M o0 1))]? = some (0, 0)) (Bd (f_X0_become ((o0 + 2) + 3 + ix (M o0 1)) x1 (M o0 0) M) (fun r4 => (if r4.1 = 0 then some ((0 : Int32), r4.2) else Lt (st2 r4.2 o0 1 ((r4.2 o0 1) + (1 : Int32))) (fun M6 => some ((1 : Int32), M6)))))))
set_option maxRecDepth 100000 in
set_option maxHeartbeats 4000000 in
theorem c_X9_addChange {l : Launch} {D : va_G} {an : An} {b : Nat} {o0 : Nat} {x1 : Int32} (hk0 : KDF[o0]? = some (9, 0)) {M : Mm} {r : Int32} {M' : Mm} (h : f_X9_addChange o0 x1 M = some (r, M')) : Ct l D an b 0 yX9_addChange cX9_addChange 2 (some .boolean) 3 [.ref (b + o0), .int x1] KDF M (some (.int r)) KDF M' := by
  refine CtX.mk (as := fun b => [.ref (b + o0), .int x1]) (rv := fun b => (some (.int r))) (by decide) (fun b => Nat.le_of_ble_eq_true rfl) ⟨Nat.le_refl _, Nat.le_refl _⟩ (fun x X hR Z hN _ _ => ?_)
  have X : Ok x cX9_addChange 2 RX9 (some .boolean) := X
  have G : Gz x 2 0 [(0, .ref (xb x + o0)), (1, .int x1)] [] KDF M (f_X9_addChange o0 x1 M) (PsI2 x KDF) := by
    unfold f_X9_addChange
    refine g1 (pc' := 1) (w_aload_n X dX9_addChange_0 rfl 0 rfl) ?_
    refine g1 (pc' := 4) (gt_9_1 X hk0 mw_117 dX9_addChange_1) ?_
    refine g1 (pc' := 6) (w_bipush X (12) dX9_addChange_4 (by decide)) ?_
    refine g_if (pcT := 29) (pcF := 9) (w_icmp_ge (tgt := 29) X dX9_addChange_6 (by decide)) (fun h1 => ?_) (fun h1 => ?_)
    · refine g1 (pc' := 30) (w_iconst X (0) dX9_addChange_29 (by decide)) ?_
      exact g_rZ2 X zb0 dX9_addChange_30
    · refine g1 (pc' := 10) (w_aload_n X dX9_addChange_9 rfl 0 rfl) ?_
      refine g1 (pc' := 13) (gt_9_5 X hk0 mw_133 dX9_addChange_10) ?_
      refine g1 (pc' := 14) (w_aload_n X dX9_addChange_13 rfl 0 rfl) ?_
      refine g1 (pc' := 17) (gt_9_1 X hk0 mw_117 dX9_addChange_14) ?_
      refine g_gd (fun h2 => ?_)
      refine g1 (pc' := 18) (w_aald15 X (kd_To2 hk0) h2 dX9_addChange_17) ?_
      refine g_gd (fun h3 => ?_)
      refine g1 (pc' := 19) (w_iload_n X dX9_addChange_18 rfl 1 rfl) ?_
      refine g1 (pc' := 20) (w_aload_n X dX9_addChange_19 rfl 0 rfl) ?_
      refine g1 (pc' := 23) (gt_9_0 X hk0 mw_110 dX9_addChange_20) ?_
      refine g_bd (pc' := 26) (fun r4 => [(0, .ref (xb x + o0)), (1, .int x1)]) (fun r4 => [.int r4.1]) (fun r4 => r4.2) (fun r4 h => k_X0_become X hR hN Z h3 mw_449 (by decide) (Nat.le_of_ble_eq_true rfl) dX9_addChange_23 h) (fun r4 => ?_)
      show Gz x 2 26 [(0, .ref (xb x + o0)), (1, .int x1)] [.int r4.1] KDF r4.2 _ _
      refine g_if (pcT := 29) (pcF := 31) (w_if_ne (tgt := 31) X dX9_addChange_26 (by decide)) (fun h5 => ?_) (fun h5 => ?_)
      · refine g1 (pc' := 30) (w_iconst X (0) dX9_addChange_29 (by decide)) ?_
        exact g_rZ2 X zb0 dX9_addChange_30
      · refine g1 (pc' := 32) (w_aload_n X dX9_addChange_31 rfl 0 rfl) ?_
        refine g1 (pc' := 33) (w_dup X dX9_addChange_32 rfl) ?_
        refine g1 (pc' := 36) (gt_9_1 X hk0 mw_117 dX9_addChange_33) ?_
        refine g1 (pc' := 37) (w_iconst X (1) dX9_addChange_36 (by decide)) ?_
        refine g1 (pc' := 38) (w_iadd X dX9_addChange_37) ?_
        refine g_lt (pc' := 41) (fun M6 => [(0, .ref (xb x + o0)), (1, .int x1)]) (fun M6 => []) (fun M6 => M6) (pt_9_1 X Z hk0 mw_117 dX9_addChange_38) (fun M6 => ?_)
        show Gz x 2 41 [(0, .ref (xb x + o0)), (1, .int x1)] [] KDF M6 _ _
        refine g1 (pc' := 42) (w_iconst X (1) dX9_addChange_41 (by decide)) ?_
        exact g_rZ2 X zb1 dX9_addChange_42
  exact G _ h _ rfl
theorem k_X9_addChange {x : Cxt} {cc : ByteArray} {nL : Nat} {own : String} {ret : Option FieldType} (X : Ok x cc nL own ret) {d : Nat} (hR : Rm x d KDF) (hN : Nst x) (Z : xz x = 0) {pc : Nat} {lv : List (Nat × Value)} {rest : List Value} {M : Mm} {o0 : Nat} {x1 : Int32} (hk0 : KDF[o0]? = some (9, 0)) {idx : Nat} (hw : Cond.methodLink own idx yX9_addChange ∈ tbG) (hdd : 3 + 1 ≤ d) (hrm : (rest.map fun v => v.category).sum ≤ 8) (hd : decode cc pc = .ok (.invokevirtual idx, 3)) {r : Int32} {M' : Mm} (h : f_X9_addChange o0 x1 M = some (r, M')) : StpZ x nL pc lv (.int x1 :: .ref (xb x + o0) :: rest) KDF M (pc + 3) lv (.int r :: rest) KDF M' :=
  w_callV (st := []) (As := [.int x1]) X hR hN (CtX0 Z (c_X9_addChange hk0 h)) ⟨Nat.le_refl _, Nat.le_refl _⟩ ⟨Nat.le_refl _, Nat.le_refl _⟩ hk0 (ci := 9) (fs := fs_9 o0) (fun _ _ _ => rfl) rfl hw mw_446 mw_447 mw_62 mw_448 (n := 1) (by decide +kernel) rfl hdd (by decide) hrm hd
def f_X9_tellCall (o0 : Nat) (x1 : Int32) (M : Mm) : Option (Int32 × Mm) :=
  Lt (st2 M o0 3 (1 : Int32)) (fun M1 => Bd (f_X0_become (o0 + 1) x1 (M1 o0 0) M1) (fun r2 => Gd (zb r2.1) (some (r2.1, r2.2))))
set_option maxRecDepth 100000 in
set_option maxHeartbeats 4000000 in
theorem c_X9_tellCall {l : Launch} {D : va_G} {an : An} {b : Nat} {o0 : Nat} {x1 : Int32} (hk0 : KDF[o0]? = some (9, 0)) {M : Mm} {r : Int32} {M' : Mm} (h : f_X9_tellCall o0 x1 M = some (r, M')) : Ct l D an b 0 yX9_tellCall cX9_tellCall 2 (some .boolean) 3 [.ref (b + o0), .int x1] KDF M (some (.int r)) KDF M' := by
  refine CtX.mk (as := fun b => [.ref (b + o0), .int x1]) (rv := fun b => (some (.int r))) (by decide) (fun b => Nat.le_of_ble_eq_true rfl) ⟨Nat.le_refl _, Nat.le_refl _⟩ (fun x X hR Z hN _ _ => ?_)
  have X : Ok x cX9_tellCall 2 RX9 (some .boolean) := X
  have G : Gz x 2 0 [(0, .ref (xb x + o0)), (1, .int x1)] [] KDF M (f_X9_tellCall o0 x1 M) (PsI2 x KDF) := by
    unfold f_X9_tellCall
    refine g1 (pc' := 1) (w_aload_n X dX9_tellCall_0 rfl 0 rfl) ?_
    refine g1 (pc' := 2) (w_iconst X (1) dX9_tellCall_1 (by decide)) ?_
    refine g_lt (pc' := 5) (fun M1 => [(0, .ref (xb x + o0)), (1, .int x1)]) (fun M1 => []) (fun M1 => M1) (pt_9_3 X Z hk0 zb1 mw_127 dX9_tellCall_2) (fun M1 => ?_)
    show Gz x 2 5 [(0, .ref (xb x + o0)), (1, .int x1)] [] KDF M1 _ _
    refine g1 (pc' := 6) (w_aload_n X dX9_tellCall_5 rfl 0 rfl) ?_
    refine g1 (pc' := 9) (gt_9_4 X hk0 mw_129 dX9_tellCall_6) ?_
    refine g1 (pc' := 10) (w_iload_n X dX9_tellCall_9 rfl 1 rfl) ?_
    refine g1 (pc' := 11) (w_aload_n X dX9_tellCall_10 rfl 0 rfl) ?_
    refine g1 (pc' := 14) (gt_9_0 X hk0 mw_110 dX9_tellCall_11) ?_
    refine g_bd (pc' := 17) (fun r2 => [(0, .ref (xb x + o0)), (1, .int x1)]) (fun r2 => [.int r2.1]) (fun r2 => r2.2) (fun r2 h => k_X0_become X hR hN Z (kd_To1 hk0) mw_449 (by decide) (Nat.le_of_ble_eq_true rfl) dX9_tellCall_14 h) (fun r2 => ?_)
    show Gz x 2 17 [(0, .ref (xb x + o0)), (1, .int x1)] [.int r2.1] KDF r2.2 _ _
    refine g_gd (fun h3 => ?_)
    exact g_rZ2 X h3 dX9_tellCall_17
  exact G _ h _ rfl
theorem k_X9_tellCall {x : Cxt} {cc : ByteArray} {nL : Nat} {own : String} {ret : Option FieldType} (X : Ok x cc nL own ret) {d : Nat} (hR : Rm x d KDF) (hN : Nst x) (Z : xz x = 0) {pc : Nat} {lv : List (Nat × Value)} {rest : List Value} {M : Mm} {o0 : Nat} {x1 : Int32} (hk0 : KDF[o0]? = some (9, 0)) {idx : Nat} (hw : Cond.methodLink own idx yX9_tellCall ∈ tbG) (hdd : 3 + 1 ≤ d) (hrm : (rest.map fun v => v.category).sum ≤ 8) (hd : decode cc pc = .ok (.invokevirtual idx, 3)) {r : Int32} {M' : Mm} (h : f_X9_tellCall o0 x1 M = some (r, M')) : StpZ x nL pc lv (.int x1 :: .ref (xb x + o0) :: rest) KDF M (pc + 3) lv (.int r :: rest) KDF M' :=
  w_callV (st := []) (As := [.int x1]) X hR hN (CtX0 Z (c_X9_tellCall hk0 h)) ⟨Nat.le_refl _, Nat.le_refl _⟩ ⟨Nat.le_refl _, Nat.le_refl _⟩ hk0 (ci := 9) (fs := fs_9 o0) (fun _ _ _ => rfl) rfl hw mw_457 mw_458 mw_62 mw_459 (n := 1) (by decide +kernel) rfl hdd (by decide) hrm hd
def f_X7_enter (x0 : Int32) (x1 : Int32) (o2 : Nat) (M : Mm) : Option (Int32 × Mm) :=
  (if x0 = (98 : Int32) then Bd (f_X9_addBell o2 x1 M) (fun r2 => some ((1 : Int32), r2)) else (if x0 = (109 : Int32) then Bd (f_X9_addChange o2 x1 M) (fun r4 => Gd (zb r4.1) (some (r4.1, r4.2))) else (if x0 = (114 : Int32) then Bd (f_X9_addSuitor o2 x1 M) (fun r7 => some ((1 : Int32), r7)) else Bd (f_X9_tellCall o2 x1 M) (fun r8 => Gd (zb r8.1) (some (r8.1, r8.2))))))
set_option maxRecDepth 100000 in
set_option maxHeartbeats 4000000 in
theorem c_X7_enter {l : Launch} {D : va_G} {an : An} {b : Nat} {x0 : Int32} {x1 : Int32} {o2 : Nat} (hk2 : KDF[o2]? = some (9, 0)) {M : Mm} {r : Int32} {M' : Mm} (h : f_X7_enter x0 x1 o2 M = some (r, M')) : Ct l D an b 0 yX7_enter cX7_enter 3 (some .boolean) 4 [.int x0, .int x1, .ref (b + o2)] KDF M (some (.int r)) KDF M' := by
  refine CtX.mk (as := fun b => [.int x0, .int x1, .ref (b + o2)]) (rv := fun b => (some (.int r))) (by decide) (fun b => Nat.le_of_ble_eq_true rfl) ⟨Nat.le_refl _, Nat.le_refl _⟩ (fun x X hR Z hN _ _ => ?_)
  have X : Ok x cX7_enter 3 RX7 (some .boolean) := X
  have G : Gz x 3 0 [(0, .int x0), (1, .int x1), (2, .ref (xb x + o2))] [] KDF M (f_X7_enter x0 x1 o2 M) (PsI2 x KDF) := by
    unfold f_X7_enter
    refine g1 (pc' := 1) (w_iload_n X dX7_enter_0 rfl 0 rfl) ?_
    refine g_by (fun h1 => ?_) (fun h1 => ?_)
    · refine g1 (pc' := 36) (w_lkup (off := 35) X dX7_enter_1 (by decide) (by rw [h1]; decide) (by decide)) ?_
      refine g1 (pc' := 37) (w_aload_n X dX7_enter_36 rfl 2 rfl) ?_
      refine g1 (pc' := 38) (w_iload_n X dX7_enter_37 rfl 1 rfl) ?_
      refine g_bd (pc' := 41) (fun r2 => [(0, .int x0), (1, .int x1), (2, .ref (xb x + o2))]) (fun r2 => []) (fun r2 => r2) (fun r2 h => k_X9_addBell X hR hN Z hk2 mw_437 (by decide) (Nat.le_of_ble_eq_true rfl) dX7_enter_38 h) (fun r2 => ?_)
      show Gz x 3 41 [(0, .int x0), (1, .int x1), (2, .ref (xb x + o2))] [] KDF r2 _ _
      refine g1 (pc' := 42) (w_iconst X (1) dX7_enter_41 (by decide)) ?_
      exact g_rZ2 X zb1 dX7_enter_42
    · refine g_by (fun h3 => ?_) (fun h3 => ?_)
      · refine g1 (pc' := 50) (w_lkup (off := 49) X dX7_enter_1 (by decide) (by rw [h3]; decide) (by decide)) ?_
        refine g1 (pc' := 51) (w_aload_n X dX7_enter_50 rfl 2 rfl) ?_
        refine g1 (pc' := 52) (w_iload_n X dX7_enter_51 rfl 1 rfl) ?_
        refine g_bd (pc' := 55) (fun r4 => [(0, .int x0), (1, .int x1), (2, .ref (xb x + o2))]) (fun r4 => [.int r4.1]) (fun r4 => r4.2) (fun r4 h => k_X9_addChange X hR hN Z hk2 mw_445 (by decide) (Nat.le_of_ble_eq_true rfl) dX7_enter_52 h) (fun r4 => ?_)
        show Gz x 3 55 [(0, .int x0), (1, .int x1), (2, .ref (xb x + o2))] [.int r4.1] KDF r4.2 _ _
        refine g_gd (fun h5 => ?_)
        exact g_rZ2 X h5 dX7_enter_55
      · refine g_by (fun h6 => ?_) (fun h6 => ?_)
        · refine g1 (pc' := 43) (w_lkup (off := 42) X dX7_enter_1 (by decide) (by rw [h6]; decide) (by decide)) ?_
          refine g1 (pc' := 44) (w_aload_n X dX7_enter_43 rfl 2 rfl) ?_
          refine g1 (pc' := 45) (w_iload_n X dX7_enter_44 rfl 1 rfl) ?_
          refine g_bd (pc' := 48) (fun r7 => [(0, .int x0), (1, .int x1), (2, .ref (xb x + o2))]) (fun r7 => []) (fun r7 => r7) (fun r7 h => k_X9_addSuitor X hR hN Z hk2 mw_441 (by decide) (Nat.le_of_ble_eq_true rfl) dX7_enter_45 h) (fun r7 => ?_)
          show Gz x 3 48 [(0, .int x0), (1, .int x1), (2, .ref (xb x + o2))] [] KDF r7 _ _
          refine g1 (pc' := 49) (w_iconst X (1) dX7_enter_48 (by decide)) ?_
          exact g_rZ2 X zb1 dX7_enter_49
        · refine g1 (pc' := 56) (w_lkup (off := 55) X dX7_enter_1 (by decide) (by rw [lv_osw h1 (by decide), lv_osw h3 (by decide), lv_osw h6 (by decide)]; rfl) (by decide)) ?_
          refine g1 (pc' := 57) (w_aload_n X dX7_enter_56 rfl 2 rfl) ?_
          refine g1 (pc' := 58) (w_iload_n X dX7_enter_57 rfl 1 rfl) ?_
          refine g_bd (pc' := 61) (fun r8 => [(0, .int x0), (1, .int x1), (2, .ref (xb x + o2))]) (fun r8 => [.int r8.1]) (fun r8 => r8.2) (fun r8 h => k_X9_tellCall X hR hN Z hk2 mw_456 (by decide) (Nat.le_of_ble_eq_true rfl) dX7_enter_58 h) (fun r8 => ?_)
          show Gz x 3 61 [(0, .int x0), (1, .int x1), (2, .ref (xb x + o2))] [.int r8.1] KDF r8.2 _ _
          refine g_gd (fun h9 => ?_)
          exact g_rZ2 X h9 dX7_enter_61
  exact G _ h _ rfl
theorem k_X7_enter {x : Cxt} {cc : ByteArray} {nL : Nat} {own : String} {ret : Option FieldType} (X : Ok x cc nL own ret) {d : Nat} (hR : Rm x d KDF) (hN : Nst x) (Z : xz x = 0) {pc : Nat} {lv : List (Nat × Value)} {rest : List Value} {M : Mm} {x0 : Int32} {x1 : Int32} {o2 : Nat} (hk2 : KDF[o2]? = some (9, 0)) {idx : Nat} (hw : Cond.methodLink own idx yX7_enter ∈ tbG) (hdd : 4 + 1 ≤ d) (hrm : (rest.map fun v => v.category).sum ≤ 8) (hd : decode cc pc = .ok (.invokestatic idx, 3)) {r : Int32} {M' : Mm} (h : f_X7_enter x0 x1 o2 M = some (r, M')) : StpZ x nL pc lv (.ref (xb x + o2) :: .int x1 :: .int x0 :: rest) KDF M (pc + 3) lv (.int r :: rest) KDF M' :=
  w_callS (st := []) (As := [.int x0, .int x1, .ref (xb x + o2)]) X hR hN (CtX0 Z (c_X7_enter hk2 h)) ⟨Nat.le_refl _, Nat.le_refl _⟩ ⟨Nat.le_refl _, Nat.le_refl _⟩ hw mw_435 mw_64 mw_436 (n := 3) (by decide +kernel) rfl hdd (by decide) hrm hd
def f_X7_goesOn (o0 : Nat) (x1 : Int32) (x2 : Int32) (M : Mm) : Option (Int32 × Mm) :=
  Bd (f_X7_skipBlanks o0 M) (fun r1 => Lt (((if x1 = (98 : Int32) then (3 : Int32) else (1 : Int32))) : Int32) (fun j2 => Bd (f_X7_letterHere o0 r1) (fun r4 => Bd (((if r4 = (44 : Int32) then Bd (f_X7_mostNumbers x1) (fun r8 => (if r8 ≤ x2 then some (0 : Int32) else some (1 : Int32))) else some (0 : Int32))) : Option (Int32)) (fun j6 => Lt (((if r4 = (59 : Int32) then (if x2 < j2 then (0 : Int32) else (1 : Int32)) else (0 : Int32))) : Int32) (fun j10 => Bd (((if j6 = 0 then (if j10 = 0 then Bd (f_X7_fail o0 (1 : Int32) (r1 o0 3) r1) (fun r18 => some r18) else Lt (st2 r1 o0 3 ((r1 o0 3) + (1 : Int32))) (fun M19 => some M19)) else Lt (st2 r1 o0 3 ((r1 o0 3) + (1 : Int32))) (fun M20 => some M20))) : Option (Mm)) (fun j15 => Gd (zb j6) (some (j6, j15))))))))
set_option maxRecDepth 100000 in
set_option maxHeartbeats 4000000 in
theorem c_X7_goesOn {l : Launch} {D : va_G} {an : An} {b : Nat} {o0 : Nat} {x1 : Int32} {x2 : Int32} (hk0 : KDF[o0]? = some (7, 0)) {M : Mm} {r : Int32} {M' : Mm} (h : f_X7_goesOn o0 x1 x2 M = some (r, M')) : Ct l D an b 0 yX7_goesOn cX7_goesOn 7 (some .boolean) 3 [.ref (b + o0), .int x1, .int x2] KDF M (some (.int r)) KDF M' := by
  refine CtX.mk (as := fun b => [.ref (b + o0), .int x1, .int x2]) (rv := fun b => (some (.int r))) (by decide) (fun b => Nat.le_of_ble_eq_true rfl) ⟨Nat.le_refl _, Nat.le_refl _⟩ (fun x X hR Z hN _ _ => ?_)
  have X : Ok x cX7_goesOn 7 RX7 (some .boolean) := X
  have G : Gz x 7 0 [(0, .ref (xb x + o0)), (1, .int x1), (2, .int x2)] [] KDF M (f_X7_goesOn o0 x1 x2 M) (PsI2 x KDF) := by
    unfold f_X7_goesOn
    refine g1 (pc' := 1) (w_aload_n X dX7_goesOn_0 rfl 0 rfl) ?_
    refine g_bd (pc' := 4) (fun r1 => [(0, .ref (xb x + o0)), (1, .int x1), (2, .int x2)]) (fun r1 => []) (fun r1 => r1) (fun r1 h => k_X7_skipBlanks X hR hN Z hk0 mw_394 (by decide) (Nat.le_of_ble_eq_true rfl) dX7_goesOn_1 h) (fun r1 => ?_)
    show Gz x 7 4 [(0, .ref (xb x + o0)), (1, .int x1), (2, .int x2)] [] KDF r1 _ _
    refine g1 (pc' := 5) (w_iload_n X dX7_goesOn_4 rfl 1 rfl) ?_
    refine g1 (pc' := 7) (w_bipush X (98) dX7_goesOn_5 (by decide)) ?_
    refine g_ltJ (J := 15) (fun j2 => [(0, .ref (xb x + o0)), (1, .int x1), (2, .int x2)]) (fun j2 => [.int j2]) (fun j2 => r1) ?_ (fun j2 => ?_)
    · refine g_ifS (pcT := 10) (pcF := 14) (w_icmp_ne (tgt := 14) X dX7_goesOn_7 (by decide)) (fun h3 => ?_) (fun h3 => ?_)
      · refine g1 (pc' := 11) (w_iconst X (3) dX7_goesOn_10 (by decide)) ?_
        refine g1 (pc' := 15) (w_goto X dX7_goesOn_11 (by decide)) ?_
        exact g_end [0, 1, 2] rfl rfl rfl
      · refine g1 (pc' := 15) (w_iconst X (1) dX7_goesOn_14 (by decide)) ?_
        exact g_end [0, 1, 2] rfl rfl rfl
    · show Gz x 7 15 [(0, .ref (xb x + o0)), (1, .int x1), (2, .int x2)] [.int j2] KDF r1 _ _
      refine g1 (pc' := 16) (lv' := [(3, .int j2), (0, .ref (xb x + o0)), (1, .int x1), (2, .int x2)]) (w_istore_n X dX7_goesOn_15 rfl (by decide) rfl) ?_
      refine g1 (pc' := 17) (w_aload_n X dX7_goesOn_16 rfl 1 rfl) ?_
      refine g_bd (pc' := 20) (fun r4 => [(3, .int j2), (0, .ref (xb x + o0)), (1, .int x1), (2, .int x2)]) (fun r4 => [.int r4]) (fun r4 => r1) (fun r4 h => k_X7_letterHere X hR hN Z hk0 mw_398 (by decide) (Nat.le_of_ble_eq_true rfl) dX7_goesOn_17 h) (fun r4 => ?_)
      show Gz x 7 20 [(3, .int j2), (0, .ref (xb x + o0)), (1, .int x1), (2, .int x2)] [.int r4] KDF r1 _ _
      refine g1 (pc' := 22) (lv' := [(4, .int r4), (3, .int j2), (0, .ref (xb x + o0)), (1, .int x1), (2, .int x2)]) (w_istore X dX7_goesOn_20 (by decide) rfl) ?_
      refine g1 (pc' := 24) (w_iload X dX7_goesOn_22 0 rfl) ?_
      refine g1 (pc' := 26) (w_bipush X (44) dX7_goesOn_24 (by decide)) ?_
      refine g_bdJ (J := 42) (fun j6 => [(0, .ref (xb x + o0)), (2, .int x2), (3, .int j2), (4, .int r4)]) (fun j6 => [.int j6]) (fun j6 => r1) ?_ (fun j6 => ?_)
      · refine g_if (pcT := 29) (pcF := 41) (w_icmp_ne (tgt := 41) X dX7_goesOn_26 (by decide)) (fun h7 => ?_) (fun h7 => ?_)
        · refine g1 (pc' := 30) (w_iload_n X dX7_goesOn_29 rfl 4 rfl) ?_
          refine g1 (pc' := 31) (w_iload_n X dX7_goesOn_30 rfl 3 rfl) ?_
          refine g_bd (pc' := 34) (fun r8 => [(4, .int r4), (3, .int j2), (0, .ref (xb x + o0)), (1, .int x1), (2, .int x2)]) (fun r8 => [.int r8, .int x2]) (fun r8 => r1) (fun r8 h => k_X7_mostNumbers X hR hN Z  mw_417 (by decide) (Nat.le_of_ble_eq_true rfl) dX7_goesOn_31 h) (fun r8 => ?_)
          show Gz x 7 34 [(4, .int r4), (3, .int j2), (0, .ref (xb x + o0)), (1, .int x1), (2, .int x2)] [.int r8, .int x2] KDF r1 _ _
          refine g_if (pcT := 41) (pcF := 37) (w_icmp_ge (tgt := 41) X dX7_goesOn_34 (by decide)) (fun h9 => ?_) (fun h9 => ?_)
          · refine g1 (pc' := 42) (w_iconst X (0) dX7_goesOn_41 (by decide)) ?_
            exact g_end [2, 4, 1, 0] rfl rfl rfl
          · refine g1 (pc' := 38) (w_iconst X (1) dX7_goesOn_37 (by decide)) ?_
            refine g1 (pc' := 42) (w_goto X dX7_goesOn_38 (by decide)) ?_
            exact g_end [2, 4, 1, 0] rfl rfl rfl
        · refine g1 (pc' := 42) (w_iconst X (0) dX7_goesOn_41 (by decide)) ?_
          exact g_end [2, 4, 1, 0] rfl rfl rfl
      · show Gz x 7 42 [(0, .ref (xb x + o0)), (2, .int x2), (3, .int j2), (4, .int r4)] [.int j6] KDF r1 _ _
        refine g1 (pc' := 44) (lv' := [(5, .int j6), (0, .ref (xb x + o0)), (2, .int x2), (3, .int j2), (4, .int r4)]) (w_istore X dX7_goesOn_42 (by decide) rfl) ?_
        refine g1 (pc' := 46) (w_iload X dX7_goesOn_44 4 rfl) ?_
        refine g1 (pc' := 48) (w_bipush X (59) dX7_goesOn_46 (by decide)) ?_
        refine g_ltJ (J := 61) (fun j10 => [(0, .ref (xb x + o0)), (5, .int j6)]) (fun j10 => [.int j10]) (fun j10 => r1) ?_ (fun j10 => ?_)
        · refine g_ifS (pcT := 51) (pcF := 60) (w_icmp_ne (tgt := 60) X dX7_goesOn_48 (by decide)) (fun h11 => ?_) (fun h11 => ?_)
          · refine g1 (pc' := 52) (w_iload_n X dX7_goesOn_51 rfl 2 rfl) ?_
            refine g1 (pc' := 53) (w_iload_n X dX7_goesOn_52 rfl 3 rfl) ?_
            refine g_ifS (pcT := 60) (pcF := 56) (w_icmp_lt (tgt := 60) X dX7_goesOn_53 (by decide)) (fun h12 => ?_) (fun h12 => ?_)
            · refine g1 (pc' := 61) (w_iconst X (0) dX7_goesOn_60 (by decide)) ?_
              exact g_end [1, 0] rfl rfl rfl
            · refine g1 (pc' := 57) (w_iconst X (1) dX7_goesOn_56 (by decide)) ?_
              refine g1 (pc' := 61) (w_goto X dX7_goesOn_57 (by decide)) ?_
              exact g_end [1, 0] rfl rfl rfl
          · refine g1 (pc' := 61) (w_iconst X (0) dX7_goesOn_60 (by decide)) ?_
            exact g_end [1, 0] rfl rfl rfl
        · show Gz x 7 61 [(0, .ref (xb x + o0)), (5, .int j6)] [.int j10] KDF r1 _ _
          refine g1 (pc' := 63) (lv' := [(6, .int j10), (0, .ref (xb x + o0)), (5, .int j6)]) (w_istore X dX7_goesOn_61 (by decide) rfl) ?_
          refine g1 (pc' := 65) (w_iload X dX7_goesOn_63 2 rfl) ?_
          refine g_bdJ (J := 95) (fun j15 => [(5, .int j6)]) (fun j15 => []) (fun j15 => j15) ?_ (fun j15 => ?_)
          · refine g_if (pcT := 68) (pcF := 73) (w_if_ne (tgt := 73) X dX7_goesOn_65 (by decide)) (fun h16 => ?_) (fun h16 => ?_)
            · refine g1 (pc' := 70) (w_iload X dX7_goesOn_68 0 rfl) ?_
              refine g_if (pcT := 86) (pcF := 73) (w_if_eq (tgt := 86) X dX7_goesOn_70 (by decide)) (fun h17 => ?_) (fun h17 => ?_)
              · refine g1 (pc' := 87) (w_aload_n X dX7_goesOn_86 rfl 1 rfl) ?_
                refine g1 (pc' := 88) (w_iconst X (1) dX7_goesOn_87 (by decide)) ?_
                refine g1 (pc' := 89) (w_aload_n X dX7_goesOn_88 rfl 1 rfl) ?_
                refine g1 (pc' := 92) (gt_7_3 X hk0 mw_165 dX7_goesOn_89) ?_
                refine g_bd (pc' := 95) (fun r18 => [(6, .int j10), (0, .ref (xb x + o0)), (5, .int j6)]) (fun r18 => []) (fun r18 => r18) (fun r18 h => k_X7_fail X hR hN Z hk0 mw_413 (by decide) (Nat.le_of_ble_eq_true rfl) dX7_goesOn_92 h) (fun r18 => ?_)
                show Gz x 7 95 [(6, .int j10), (0, .ref (xb x + o0)), (5, .int j6)] [] KDF r18 _ _
                exact g_end [2] rfl rfl rfl
              · refine g1 (pc' := 74) (w_aload_n X dX7_goesOn_73 rfl 1 rfl) ?_
                refine g1 (pc' := 75) (w_dup X dX7_goesOn_74 rfl) ?_
                refine g1 (pc' := 78) (gt_7_3 X hk0 mw_165 dX7_goesOn_75) ?_
                refine g1 (pc' := 79) (w_iconst X (1) dX7_goesOn_78 (by decide)) ?_
                refine g1 (pc' := 80) (w_iadd X dX7_goesOn_79) ?_
                refine g_lt (pc' := 83) (fun M19 => [(6, .int j10), (0, .ref (xb x + o0)), (5, .int j6)]) (fun M19 => []) (fun M19 => M19) (pt_7_3 X Z hk0 mw_165 dX7_goesOn_80) (fun M19 => ?_)
                show Gz x 7 83 [(6, .int j10), (0, .ref (xb x + o0)), (5, .int j6)] [] KDF M19 _ _
                refine g1 (pc' := 95) (w_goto X dX7_goesOn_83 (by decide)) ?_
                exact g_end [2] rfl rfl rfl
            · refine g1 (pc' := 74) (w_aload_n X dX7_goesOn_73 rfl 1 rfl) ?_
              refine g1 (pc' := 75) (w_dup X dX7_goesOn_74 rfl) ?_
              refine g1 (pc' := 78) (gt_7_3 X hk0 mw_165 dX7_goesOn_75) ?_
              refine g1 (pc' := 79) (w_iconst X (1) dX7_goesOn_78 (by decide)) ?_
              refine g1 (pc' := 80) (w_iadd X dX7_goesOn_79) ?_
              refine g_lt (pc' := 83) (fun M20 => [(6, .int j10), (0, .ref (xb x + o0)), (5, .int j6)]) (fun M20 => []) (fun M20 => M20) (pt_7_3 X Z hk0 mw_165 dX7_goesOn_80) (fun M20 => ?_)
              show Gz x 7 83 [(6, .int j10), (0, .ref (xb x + o0)), (5, .int j6)] [] KDF M20 _ _
              refine g1 (pc' := 95) (w_goto X dX7_goesOn_83 (by decide)) ?_
              exact g_end [2] rfl rfl rfl
          · show Gz x 7 95 [(5, .int j6)] [] KDF j15 _ _
            refine g1 (pc' := 97) (w_iload X dX7_goesOn_95 0 rfl) ?_
            refine g_gd (fun h21 => ?_)
            exact g_rZ2 X h21 dX7_goesOn_97
  exact G _ h _ rfl
theorem k_X7_goesOn {x : Cxt} {cc : ByteArray} {nL : Nat} {own : String} {ret : Option FieldType} (X : Ok x cc nL own ret) {d : Nat} (hR : Rm x d KDF) (hN : Nst x) (Z : xz x = 0) {pc : Nat} {lv : List (Nat × Value)} {rest : List Value} {M : Mm} {o0 : Nat} {x1 : Int32} {x2 : Int32} (hk0 : KDF[o0]? = some (7, 0)) {idx : Nat} (hw : Cond.methodLink own idx yX7_goesOn ∈ tbG) (hdd : 3 + 1 ≤ d) (hrm : (rest.map fun v => v.category).sum ≤ 8) (hd : decode cc pc = .ok (.invokevirtual idx, 3)) {r : Int32} {M' : Mm} (h : f_X7_goesOn o0 x1 x2 M = some (r, M')) : StpZ x nL pc lv (.int x2 :: .int x1 :: .ref (xb x + o0) :: rest) KDF M (pc + 3) lv (.int r :: rest) KDF M' :=
  w_callV (st := []) (As := [.int x1, .int x2]) X hR hN (CtX0 Z (c_X7_goesOn hk0 h)) ⟨Nat.le_refl _, Nat.le_refl _⟩ ⟨Nat.le_refl _, Nat.le_refl _⟩ hk0 (ci := 7) (fs := fs_7 o0) (fun _ _ _ => rfl) rfl hw mw_462 mw_5 mw_64 mw_463 (n := 2) (by decide +kernel) rfl hdd (by decide) hrm hd
def b_X7_readClause_47 (o0 : Nat) (o1 : Nat) (r1 : Int32) (r5 : Int32) (s47 : Int32 × Int32 × Mm) : Option ((Int32 × Int32 × Mm) ⊕ (Mm)) :=
  (if r5 < s47.2.1 then some (.inr s47.2.2) else (if s47.1 = 0 then some (.inr s47.2.2) else Bd (f_X7_readNumber o0 r1 o1 s47.2.2) (fun r8 => Bd (((if (r8.2 o0 5) = 0 then Bd (f_X7_enter r1 r8.1 o1 r8.2) (fun r12 => (if r12.1 = 0 then Bd (f_X7_fail o0 (4 : Int32) (r12.2 o0 4) r12.2) (fun r14 => some r14) else some r12.2)) else some r8.2)) : Option (Mm)) (fun j10 => Bd (((if (j10 o0 5) = 0 then Bd (f_X7_goesOn o0 r1 s47.2.1 j10) (fun r18 => (if r18.1 = 0 then some ((0 : Int32), r18.2) else some ((1 : Int32), r18.2))) else some ((0 : Int32), j10))) : Option (Int32 × Mm)) (fun j16 => Lt (s47.2.1 + (1 : Int32)) (fun v20 => some (.inl (j16.1, v20, j16.2))))))))
def f_X7_readClause (o0 : Nat) (o1 : Nat) (M : Mm) : Option (Mm) :=
  Bd (f_X7_letterHere o0 M) (fun r1 => Bd (f_X7_faultOfWord r1 o1 M) (fun r2 => (if r2 = 0 then Lt (st2 M o0 3 ((M o0 3) + (1 : Int32))) (fun M4 => Bd (f_X7_mostNumbers r1) (fun r5 => Bd (Lp (b_X7_readClause_47 o0 o1 r1 r5) 100000 ((1 : Int32), (1 : Int32), M4)) (fun e21 => some e21))) else Bd (f_X7_fail o0 r2 (M o0 3) M) (fun r22 => some r22))))
set_option maxRecDepth 100000 in
set_option maxHeartbeats 4000000 in
theorem c_X7_readClause {l : Launch} {D : va_G} {an : An} {b : Nat} {o0 : Nat} {o1 : Nat} (hk0 : KDF[o0]? = some (7, 0)) (hk1 : KDF[o1]? = some (9, 0)) {M : Mm} {M' : Mm} (h : f_X7_readClause o0 o1 M = some M') : Ct l D an b 0 yX7_readClause cX7_readClause 8 none 5 [.ref (b + o0), .ref (b + o1)] KDF M none KDF M' := by
  refine CtX.mk (as := fun b => [.ref (b + o0), .ref (b + o1)]) (rv := fun b => none) (by decide) (fun b => Nat.le_of_ble_eq_true rfl) ⟨Nat.le_refl _, Nat.le_refl _⟩ (fun x X hR Z hN _ _ => ?_)
  have X : Ok x cX7_readClause 8 RX7 none := X
  have G : Gz x 8 0 [(0, .ref (xb x + o0)), (1, .ref (xb x + o1))] [] KDF M (f_X7_readClause o0 o1 M) (PsM x KDF) := by
    unfold f_X7_readClause
    refine g1 (pc' := 1) (w_aload_n X dX7_readClause_0 rfl 0 rfl) ?_
    refine g_bd (pc' := 4) (fun r1 => [(0, .ref (xb x + o0)), (1, .ref (xb x + o1))]) (fun r1 => [.int r1]) (fun r1 => M) (fun r1 h => k_X7_letterHere X hR hN Z hk0 mw_398 (by decide) (Nat.le_of_ble_eq_true rfl) dX7_readClause_1 h) (fun r1 => ?_)
    show Gz x 8 4 [(0, .ref (xb x + o0)), (1, .ref (xb x + o1))] [.int r1] KDF M _ _
    refine g1 (pc' := 5) (lv' := [(2, .int r1), (0, .ref (xb x + o0)), (1, .ref (xb x + o1))]) (w_istore_n X dX7_readClause_4 rfl (by decide) rfl) ?_
    refine g1 (pc' := 6) (w_iload_n X dX7_readClause_5 rfl 0 rfl) ?_
    refine g1 (pc' := 7) (w_aload_n X dX7_readClause_6 rfl 2 rfl) ?_
    refine g_bd (pc' := 10) (fun r2 => [(2, .int r1), (0, .ref (xb x + o0)), (1, .ref (xb x + o1))]) (fun r2 => [.int r2]) (fun r2 => M) (fun r2 h => k_X7_faultOfWord X hR hN Z hk1 mw_406 (by decide) (Nat.le_of_ble_eq_true rfl) dX7_readClause_7 h) (fun r2 => ?_)
    show Gz x 8 10 [(2, .int r1), (0, .ref (xb x + o0)), (1, .ref (xb x + o1))] [.int r2] KDF M _ _
    refine g1 (pc' := 11) (lv' := [(3, .int r2), (2, .int r1), (0, .ref (xb x + o0)), (1, .ref (xb x + o1))]) (w_istore_n X dX7_readClause_10 rfl (by decide) rfl) ?_
    refine g1 (pc' := 12) (w_iload_n X dX7_readClause_11 rfl 0 rfl) ?_
    refine g_if (pcT := 25) (pcF := 15) (w_if_eq (tgt := 25) X dX7_readClause_12 (by decide)) (fun h3 => ?_) (fun h3 => ?_)
    · refine g1 (pc' := 26) (w_aload_n X dX7_readClause_25 rfl 2 rfl) ?_
      refine g1 (pc' := 27) (w_dup X dX7_readClause_26 rfl) ?_
      refine g1 (pc' := 30) (gt_7_3 X hk0 mw_165 dX7_readClause_27) ?_
      refine g1 (pc' := 31) (w_iconst X (1) dX7_readClause_30 (by decide)) ?_
      refine g1 (pc' := 32) (w_iadd X dX7_readClause_31) ?_
      refine g_lt (pc' := 35) (fun M4 => [(3, .int r2), (2, .int r1), (0, .ref (xb x + o0)), (1, .ref (xb x + o1))]) (fun M4 => []) (fun M4 => M4) (pt_7_3 X Z hk0 mw_165 dX7_readClause_32) (fun M4 => ?_)
      show Gz x 8 35 [(3, .int r2), (2, .int r1), (0, .ref (xb x + o0)), (1, .ref (xb x + o1))] [] KDF M4 _ _
      refine g1 (pc' := 36) (w_iload_n X dX7_readClause_35 rfl 1 rfl) ?_
      refine g_bd (pc' := 39) (fun r5 => [(3, .int r2), (2, .int r1), (0, .ref (xb x + o0)), (1, .ref (xb x + o1))]) (fun r5 => [.int r5]) (fun r5 => M4) (fun r5 h => k_X7_mostNumbers X hR hN Z  mw_417 (by decide) (Nat.le_of_ble_eq_true rfl) dX7_readClause_36 h) (fun r5 => ?_)
      show Gz x 8 39 [(3, .int r2), (2, .int r1), (0, .ref (xb x + o0)), (1, .ref (xb x + o1))] [.int r5] KDF M4 _ _
      refine g1 (pc' := 41) (lv' := [(4, .int r5), (3, .int r2), (2, .int r1), (0, .ref (xb x + o0)), (1, .ref (xb x + o1))]) (w_istore X dX7_readClause_39 (by decide) rfl) ?_
      refine g1 (pc' := 42) (w_iconst X (1) dX7_readClause_41 (by decide)) ?_
      refine g1 (pc' := 44) (lv' := [(5, .int (1 : Int32)), (4, .int r5), (3, .int r2), (2, .int r1), (0, .ref (xb x + o0)), (1, .ref (xb x + o1))]) (w_istore X dX7_readClause_42 (by decide) rfl) ?_
      refine g1 (pc' := 45) (w_iconst X (1) dX7_readClause_44 (by decide)) ?_
      refine g1 (pc' := 47) (lv' := [(6, .int (1 : Int32)), (5, .int (1 : Int32)), (4, .int r5), (3, .int r2), (2, .int r1), (0, .ref (xb x + o0)), (1, .ref (xb x + o1))]) (w_istore X dX7_readClause_45 (by decide) rfl) ?_
      refine g_pick (lv' := [(0, .ref (xb x + o0)), (1, .ref (xb x + o1)), (2, .int r1), (4, .int r5), (5, .int (1 : Int32)), (6, .int (1 : Int32))]) [5, 6, 4, 2, 1, 0] rfl ?_
      refine g_bdJ (J := 123) (fun e21 => []) (fun e21 => []) (fun e21 => e21) (g_lp (fun s47 => [(0, .ref (xb x + o0)), (1, .ref (xb x + o1)), (2, .int r1), (4, .int r5), (5, .int s47.1), (6, .int s47.2.1)]) (fun s47 => s47.2.2) (fun s47 => ?_) 100000 ((1 : Int32), (1 : Int32), M4)) (fun e21 => ?_)
      · show Gz x 8 47 [(0, .ref (xb x + o0)), (1, .ref (xb x + o1)), (2, .int r1), (4, .int r5), (5, .int s47.1), (6, .int s47.2.1)] [] KDF s47.2.2 (b_X7_readClause_47 o0 o1 r1 r5 s47) _
        unfold b_X7_readClause_47
        refine g1 (pc' := 49) (w_iload X dX7_readClause_47 5 rfl) ?_
        refine g1 (pc' := 51) (w_iload X dX7_readClause_49 3 rfl) ?_
        refine g_if (pcT := 123) (pcF := 54) (w_icmp_gt (tgt := 123) X dX7_readClause_51 (by decide)) (fun h6 => ?_) (fun h6 => ?_)
        · refine g_inr ?_
          exact g_end [] rfl rfl rfl
        · refine g1 (pc' := 56) (w_iload X dX7_readClause_54 4 rfl) ?_
          refine g_if (pcT := 123) (pcF := 59) (w_if_eq (tgt := 123) X dX7_readClause_56 (by decide)) (fun h7 => ?_) (fun h7 => ?_)
          · refine g_inr ?_
            exact g_end [] rfl rfl rfl
          · refine g1 (pc' := 60) (w_aload_n X dX7_readClause_59 rfl 0 rfl) ?_
            refine g1 (pc' := 61) (w_iload_n X dX7_readClause_60 rfl 2 rfl) ?_
            refine g1 (pc' := 62) (w_aload_n X dX7_readClause_61 rfl 1 rfl) ?_
            refine g_bd (pc' := 65) (fun r8 => [(0, .ref (xb x + o0)), (1, .ref (xb x + o1)), (2, .int r1), (4, .int r5), (5, .int s47.1), (6, .int s47.2.1)]) (fun r8 => [.int r8.1]) (fun r8 => r8.2) (fun r8 h => k_X7_readNumber X hR hN Z hk0 hk1 mw_420 (by decide) (Nat.le_of_ble_eq_true rfl) dX7_readClause_62 h) (fun r8 => ?_)
            show Gz x 8 65 [(0, .ref (xb x + o0)), (1, .ref (xb x + o1)), (2, .int r1), (4, .int r5), (5, .int s47.1), (6, .int s47.2.1)] [.int r8.1] KDF r8.2 _ _
            refine g1 (pc' := 67) (lv' := [(7, .int r8.1), (0, .ref (xb x + o0)), (1, .ref (xb x + o1)), (2, .int r1), (4, .int r5), (5, .int s47.1), (6, .int s47.2.1)]) (w_istore X dX7_readClause_65 (by decide) rfl) ?_
            refine g1 (pc' := 68) (w_aload_n X dX7_readClause_67 rfl 1 rfl) ?_
            refine g1 (pc' := 71) (gt_7_5 X hk0 mw_167 dX7_readClause_68) ?_
            refine g_bdJ (J := 93) (fun j10 => [(0, .ref (xb x + o0)), (1, .ref (xb x + o1)), (2, .int r1), (4, .int r5), (6, .int s47.2.1)]) (fun j10 => []) (fun j10 => j10) ?_ (fun j10 => ?_)
            · refine g_if (pcT := 74) (pcF := 93) (w_if_ne (tgt := 93) X dX7_readClause_71 (by decide)) (fun h11 => ?_) (fun h11 => ?_)
              · refine g1 (pc' := 75) (w_iload_n X dX7_readClause_74 rfl 3 rfl) ?_
                refine g1 (pc' := 77) (w_iload X dX7_readClause_75 0 rfl) ?_
                refine g1 (pc' := 78) (w_aload_n X dX7_readClause_77 rfl 2 rfl) ?_
                refine g_bd (pc' := 81) (fun r12 => [(7, .int r8.1), (0, .ref (xb x + o0)), (1, .ref (xb x + o1)), (2, .int r1), (4, .int r5), (5, .int s47.1), (6, .int s47.2.1)]) (fun r12 => [.int r12.1]) (fun r12 => r12.2) (fun r12 h => k_X7_enter X hR hN Z hk1 mw_434 (by decide) (Nat.le_of_ble_eq_true rfl) dX7_readClause_78 h) (fun r12 => ?_)
                show Gz x 8 81 [(7, .int r8.1), (0, .ref (xb x + o0)), (1, .ref (xb x + o1)), (2, .int r1), (4, .int r5), (5, .int s47.1), (6, .int s47.2.1)] [.int r12.1] KDF r12.2 _ _
                refine g_if (pcT := 84) (pcF := 93) (w_if_ne (tgt := 93) X dX7_readClause_81 (by decide)) (fun h13 => ?_) (fun h13 => ?_)
                · refine g1 (pc' := 85) (w_aload_n X dX7_readClause_84 rfl 1 rfl) ?_
                  refine g1 (pc' := 86) (w_iconst X (4) dX7_readClause_85 (by decide)) ?_
                  refine g1 (pc' := 87) (w_aload_n X dX7_readClause_86 rfl 1 rfl) ?_
                  refine g1 (pc' := 90) (gt_7_4 X hk0 mw_166 dX7_readClause_87) ?_
                  refine g_bd (pc' := 93) (fun r14 => [(7, .int r8.1), (0, .ref (xb x + o0)), (1, .ref (xb x + o1)), (2, .int r1), (4, .int r5), (5, .int s47.1), (6, .int s47.2.1)]) (fun r14 => []) (fun r14 => r14) (fun r14 h => k_X7_fail X hR hN Z hk0 mw_413 (by decide) (Nat.le_of_ble_eq_true rfl) dX7_readClause_90 h) (fun r14 => ?_)
                  show Gz x 8 93 [(7, .int r8.1), (0, .ref (xb x + o0)), (1, .ref (xb x + o1)), (2, .int r1), (4, .int r5), (5, .int s47.1), (6, .int s47.2.1)] [] KDF r14 _ _
                  exact g_end [1, 2, 3, 4, 6] rfl rfl rfl
                · exact g_end [1, 2, 3, 4, 6] rfl rfl rfl
              · exact g_end [1, 2, 3, 4, 6] rfl rfl rfl
            · show Gz x 8 93 [(0, .ref (xb x + o0)), (1, .ref (xb x + o1)), (2, .int r1), (4, .int r5), (6, .int s47.2.1)] [] KDF j10 _ _
              refine g1 (pc' := 94) (w_aload_n X dX7_readClause_93 rfl 0 rfl) ?_
              refine g1 (pc' := 97) (gt_7_5 X hk0 mw_167 dX7_readClause_94) ?_
              refine g_bdJ (J := 115) (fun j16 => [(0, .ref (xb x + o0)), (1, .ref (xb x + o1)), (2, .int r1), (4, .int r5), (6, .int s47.2.1)]) (fun j16 => [.int j16.1]) (fun j16 => j16.2) ?_ (fun j16 => ?_)
              · refine g_if (pcT := 100) (pcF := 114) (w_if_ne (tgt := 114) X dX7_readClause_97 (by decide)) (fun h17 => ?_) (fun h17 => ?_)
                · refine g1 (pc' := 101) (w_aload_n X dX7_readClause_100 rfl 0 rfl) ?_
                  refine g1 (pc' := 102) (w_iload_n X dX7_readClause_101 rfl 2 rfl) ?_
                  refine g1 (pc' := 104) (w_iload X dX7_readClause_102 4 rfl) ?_
                  refine g_bd (pc' := 107) (fun r18 => [(0, .ref (xb x + o0)), (1, .ref (xb x + o1)), (2, .int r1), (4, .int r5), (6, .int s47.2.1)]) (fun r18 => [.int r18.1]) (fun r18 => r18.2) (fun r18 h => k_X7_goesOn X hR hN Z hk0 mw_460 (by decide) (Nat.le_of_ble_eq_true rfl) dX7_readClause_104 h) (fun r18 => ?_)
                  show Gz x 8 107 [(0, .ref (xb x + o0)), (1, .ref (xb x + o1)), (2, .int r1), (4, .int r5), (6, .int s47.2.1)] [.int r18.1] KDF r18.2 _ _
                  refine g_if (pcT := 114) (pcF := 110) (w_if_eq (tgt := 114) X dX7_readClause_107 (by decide)) (fun h19 => ?_) (fun h19 => ?_)
                  · refine g1 (pc' := 115) (w_iconst X (0) dX7_readClause_114 (by decide)) ?_
                    exact g_end [0, 1, 2, 3, 4] rfl rfl rfl
                  · refine g1 (pc' := 111) (w_iconst X (1) dX7_readClause_110 (by decide)) ?_
                    refine g1 (pc' := 115) (w_goto X dX7_readClause_111 (by decide)) ?_
                    exact g_end [0, 1, 2, 3, 4] rfl rfl rfl
                · refine g1 (pc' := 115) (w_iconst X (0) dX7_readClause_114 (by decide)) ?_
                  exact g_end [0, 1, 2, 3, 4] rfl rfl rfl
              · show Gz x 8 115 [(0, .ref (xb x + o0)), (1, .ref (xb x + o1)), (2, .int r1), (4, .int r5), (6, .int s47.2.1)] [.int j16.1] KDF j16.2 _ _
                refine g1 (pc' := 117) (lv' := [(5, .int j16.1), (0, .ref (xb x + o0)), (1, .ref (xb x + o1)), (2, .int r1), (4, .int r5), (6, .int s47.2.1)]) (w_istore X dX7_readClause_115 (by decide) rfl) ?_
                refine g_lt (pc' := 120) (fun v20 => [(6, .int v20), (5, .int j16.1), (0, .ref (xb x + o0)), (1, .ref (xb x + o1)), (2, .int r1), (4, .int r5)]) (fun v20 => []) (fun v20 => j16.2) (w_iinc X dX7_readClause_117 5 rfl rfl (by decide) rfl) (fun v20 => ?_)
                show Gz x 8 120 [(6, .int v20), (5, .int j16.1), (0, .ref (xb x + o0)), (1, .ref (xb x + o1)), (2, .int r1), (4, .int r5)] [] KDF j16.2 _ _
                refine g1 (pc' := 47) (w_goto X dX7_readClause_120 (by decide)) ?_
                refine g_inl ?_
                exact g_end [2, 3, 4, 5, 1, 0] rfl rfl rfl
      · show Gz x 8 123 [] [] KDF e21 _ _
        exact g_rM X dX7_readClause_123
    · refine g1 (pc' := 16) (w_aload_n X dX7_readClause_15 rfl 2 rfl) ?_
      refine g1 (pc' := 17) (w_iload_n X dX7_readClause_16 rfl 0 rfl) ?_
      refine g1 (pc' := 18) (w_aload_n X dX7_readClause_17 rfl 2 rfl) ?_
      refine g1 (pc' := 21) (gt_7_3 X hk0 mw_165 dX7_readClause_18) ?_
      refine g_bd (pc' := 24) (fun r22 => [(3, .int r2), (2, .int r1), (0, .ref (xb x + o0)), (1, .ref (xb x + o1))]) (fun r22 => []) (fun r22 => r22) (fun r22 h => k_X7_fail X hR hN Z hk0 mw_413 (by decide) (Nat.le_of_ble_eq_true rfl) dX7_readClause_21 h) (fun r22 => ?_)
      show Gz x 8 24 [(3, .int r2), (2, .int r1), (0, .ref (xb x + o0)), (1, .ref (xb x + o1))] [] KDF r22 _ _
      exact g_rM X dX7_readClause_24
  exact G _ h _ rfl
theorem k_X7_readClause {x : Cxt} {cc : ByteArray} {nL : Nat} {own : String} {ret : Option FieldType} (X : Ok x cc nL own ret) {d : Nat} (hR : Rm x d KDF) (hN : Nst x) (Z : xz x = 0) {pc : Nat} {lv : List (Nat × Value)} {rest : List Value} {M : Mm} {o0 : Nat} {o1 : Nat} (hk0 : KDF[o0]? = some (7, 0)) (hk1 : KDF[o1]? = some (9, 0)) {idx : Nat} (hw : Cond.methodLink own idx yX7_readClause ∈ tbG) (hdd : 5 + 1 ≤ d) (hrm : (rest.map fun v => v.category).sum ≤ 8) (hd : decode cc pc = .ok (.invokevirtual idx, 3)) {M' : Mm} (h : f_X7_readClause o0 o1 M = some M') : StpZ x nL pc lv (.ref (xb x + o1) :: .ref (xb x + o0) :: rest) KDF M (pc + 3) lv (rest) KDF M' :=
  w_callV (st := []) (As := [.ref (xb x + o1)]) X hR hN (CtX0 Z (c_X7_readClause hk0 hk1 h)) ⟨Nat.le_refl _, Nat.le_refl _⟩ ⟨Nat.le_refl _, Nat.le_refl _⟩ hk0 (ci := 7) (fs := fs_7 o0) (fun _ _ _ => rfl) rfl hw mw_404 mw_2 mw_64 mw_405 (n := 1) (by decide +kernel) rfl hdd (by decide) hrm hd
