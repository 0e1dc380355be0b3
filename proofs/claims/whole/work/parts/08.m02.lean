def f_X3_forget (o0 : Nat) (M : Mm) : Option (Mm) :=
  Lt (st2 M o0 0 (0 : Int32)) (fun M1 => Lt (st2 M1 o0 1 (0 : Int32)) (fun M2 => some M2))
set_option maxRecDepth 100000 in
set_option maxHeartbeats 4000000 in
theorem c_X3_forget {l : Launch} {D : va_G} {an : An} {b : Nat} {o0 : Nat} (hk0 : KDF[o0]? = some (3, 0)) {M : Mm} {M' : Mm} (h : f_X3_forget o0 M = some M') : Ct l D an b 0 yX3_forget cX3_forget 1 none 1 [.ref (b + o0)] KDF M none KDF M' := by
  refine CtX.mk (as := fun b => [.ref (b + o0)]) (rv := fun b => none) (by decide) (fun b => Nat.le_of_ble_eq_true rfl) ⟨Nat.le_refl _, Nat.le_refl _⟩ (fun x X hR Z hN _ _ => ?_)
  have X : Ok x cX3_forget 1 RX3 none := X
  have G : Gz x 1 0 [(0, .ref (xb x + o0))] [] KDF M (f_X3_forget o0 M) (PsM x KDF) := by
    unfold f_X3_forget
    refine g1 (pc' := 1) (w_aload_n X dX3_forget_0 rfl 0 rfl) ?_
    refine g1 (pc' := 2) (w_iconst X (0) dX3_forget_1 (by decide)) ?_
    refine g_lt (pc' := 5) (fun M1 => [(0, .ref (xb x + o0))]) (fun M1 => []) (fun M1 => M1) (pt_3_0 X Z hk0 mw_239 dX3_forget_2) (fun M1 => ?_)
    show Gz x 1 5 [(0, .ref (xb x + o0))] [] KDF M1 _ _
    refine g1 (pc' := 6) (w_aload_n X dX3_forget_5 rfl 0 rfl) ?_
    refine g1 (pc' := 7) (w_iconst X (0) dX3_forget_6 (by decide)) ?_
    refine g_lt (pc' := 10) (fun M2 => [(0, .ref (xb x + o0))]) (fun M2 => []) (fun M2 => M2) (pt_3_1 X Z hk0 mw_241 dX3_forget_7) (fun M2 => ?_)
    show Gz x 1 10 [(0, .ref (xb x + o0))] [] KDF M2 _ _
    exact g_rM X dX3_forget_10
  exact G _ h _ rfl
theorem k_X3_forget {x : Cxt} {cc : ByteArray} {nL : Nat} {own : String} {ret : Option FieldType} (X : Ok x cc nL own ret) {d : Nat} (hR : Rm x d KDF) (hN : Nst x) (Z : xz x = 0) {pc : Nat} {lv : List (Nat × Value)} {rest : List Value} {M : Mm} {o0 : Nat} (hk0 : KDF[o0]? = some (3, 0)) {idx : Nat} (hw : Cond.methodLink own idx yX3_forget ∈ tbG) (hdd : 1 + 1 ≤ d) (hrm : (rest.map fun v => v.category).sum ≤ 8) (hd : decode cc pc = .ok (.invokevirtual idx, 3)) {M' : Mm} (h : f_X3_forget o0 M = some M') : StpZ x nL pc lv (.ref (xb x + o0) :: rest) KDF M (pc + 3) lv (rest) KDF M' :=
  w_callV (st := []) (As := []) X hR hN (CtX0 Z (c_X3_forget hk0 h)) ⟨Nat.le_refl _, Nat.le_refl _⟩ ⟨Nat.le_refl _, Nat.le_refl _⟩ hk0 (ci := 3) (fs := fs_3 o0) (fun _ _ _ => rfl) rfl hw mw_497 mw_498 mw_67 mw_499 (n := 0) (by decide +kernel) rfl hdd (by decide) hrm hd
def f_X3_within (x0 : Int32) : Int32 :=
  (x0 &&& (15 : Int32))
set_option maxRecDepth 100000 in
set_option maxHeartbeats 4000000 in
theorem c_X3_within {l : Launch} {D : va_G} {an : An} {b : Nat} {x0 : Int32}  {M : Mm}  : Ct l D an b 0 yX3_within cX3_within 1 (some .int) 1 [.int x0] KDF M (some (.int (f_X3_within x0))) KDF M := by
  refine CtX.mk (as := fun b => [.int x0]) (rv := fun b => (some (.int (f_X3_within x0)))) (by decide) (fun b => Nat.le_of_ble_eq_true rfl) ⟨Nat.le_refl _, Nat.le_refl _⟩ (fun x X hR Z hN _ _ => ?_)
  have X : Ok x cX3_within 1 RX3 (some .int) := X
  have G : Gz x 1 0 [(0, .int x0)] [] KDF M (some (f_X3_within x0)) (PsI x KDF M) := by
    unfold f_X3_within
    refine g1 (pc' := 1) (w_iload_n X dX3_within_0 rfl 0 rfl) ?_
    refine g1 (pc' := 3) (w_bipush X (15) dX3_within_1 (by decide)) ?_
    refine g1 (pc' := 4) (w_iand X dX3_within_3) ?_
    exact g_rI X dX3_within_4
  exact G _ rfl _ rfl
theorem k_X3_within {x : Cxt} {cc : ByteArray} {nL : Nat} {own : String} {ret : Option FieldType} (X : Ok x cc nL own ret) {d : Nat} (hR : Rm x d KDF) (hN : Nst x) (Z : xz x = 0) {pc : Nat} {lv : List (Nat × Value)} {rest : List Value} {M : Mm} {x0 : Int32}  {idx : Nat} (hw : Cond.methodLink own idx yX3_within ∈ tbG) (hdd : 1 + 1 ≤ d) (hrm : (rest.map fun v => v.category).sum ≤ 8) (hd : decode cc pc = .ok (.invokestatic idx, 3))  : StpZ x nL pc lv (.int x0 :: rest) KDF M (pc + 3) lv (.int (f_X3_within x0) :: rest) KDF M :=
  w_callS (st := []) (As := [.int x0]) X hR hN (CtX0 Z (c_X3_within  )) ⟨Nat.le_refl _, Nat.le_refl _⟩ ⟨Nat.le_refl _, Nat.le_refl _⟩ hw mw_603 mw_67 mw_604 (n := 1) (by decide +kernel) rfl hdd (by decide) hrm hd
def f_X3_remember (o0 : Nat) (o1 : Nat) (M : Mm) : Option (Mm) :=
  Gd (ib (f_X3_within (M o0 1)) 16) (Gd (KDF[(42 + 1 + 4 * ix (f_X3_within (M o0 1)))]? = some (1, 0)) (Bd (f_X1_copyFrom (42 + 1 + 4 * ix (f_X3_within (M o0 1))) o1 M) (fun r3 => Lt (st2 r3 o0 1 (f_X3_within ((r3 o0 1) + (1 : Int32)))) (fun M4 => Lt (st2 M4 o0 0 (if ((M4 o0 0) + (1 : Int32)) < (16 : Int32) then ((M4 o0 0) + (1 : Int32)) else (16 : Int32))) (fun M5 => some M5)))))
set_option maxRecDepth 100000 in
set_option maxHeartbeats 4000000 in
theorem c_X3_remember {l : Launch} {D : va_G} {an : An} {b : Nat} {o0 : Nat} {o1 : Nat} (hk0 : KDF[o0]? = some (3, 0)) (hk1 : KDF[o1]? = some (1, 0)) {M : Mm} {M' : Mm} (h : f_X3_remember o0 o1 M = some M') : Ct l D an b 0 yX3_remember cX3_remember 2 none 3 [.ref (b + o0), .ref (b + o1)] KDF M none KDF M' := by
  refine CtX.mk (as := fun b => [.ref (b + o0), .ref (b + o1)]) (rv := fun b => none) (by decide) (fun b => Nat.le_of_ble_eq_true rfl) ⟨Nat.le_refl _, Nat.le_refl _⟩ (fun x X hR Z hN _ _ => ?_)
  have X : Ok x cX3_remember 2 RX3 none := X
  have G : Gz x 2 0 [(0, .ref (xb x + o0)), (1, .ref (xb x + o1))] [] KDF M (f_X3_remember o0 o1 M) (PsM x KDF) := by
    unfold f_X3_remember
    refine g1 (pc' := 1) (w_aload_n X dX3_remember_0 rfl 0 rfl) ?_
    refine g1 (pc' := 4) (gt_3_2 X hk0 mw_242 dX3_remember_1) ?_
    refine g1 (pc' := 5) (w_aload_n X dX3_remember_4 rfl 0 rfl) ?_
    refine g1 (pc' := 8) (gt_3_1 X hk0 mw_241 dX3_remember_5) ?_
    refine g1 (pc' := 11) (k_X3_within X hR hN Z  mw_602 (by decide) (Nat.le_of_ble_eq_true rfl) dX3_remember_8) ?_
    refine g_gd (fun h1 => ?_)
    refine g1 (pc' := 12) (w_aald16 X kd_42 h1 dX3_remember_11) ?_
    refine g_gd (fun h2 => ?_)
    refine g1 (pc' := 13) (w_aload_n X dX3_remember_12 rfl 1 rfl) ?_
    refine g_bd (pc' := 16) (fun r3 => [(0, .ref (xb x + o0)), (1, .ref (xb x + o1))]) (fun r3 => []) (fun r3 => r3) (fun r3 h => k_X1_copyFrom X hR hN Z h2 hk1 mw_605 (by decide) (Nat.le_of_ble_eq_true rfl) dX3_remember_13 h) (fun r3 => ?_)
    show Gz x 2 16 [(0, .ref (xb x + o0)), (1, .ref (xb x + o1))] [] KDF r3 _ _
    refine g1 (pc' := 17) (w_aload_n X dX3_remember_16 rfl 0 rfl) ?_
    refine g1 (pc' := 18) (w_aload_n X dX3_remember_17 rfl 0 rfl) ?_
    refine g1 (pc' := 21) (gt_3_1 X hk0 mw_241 dX3_remember_18) ?_
    refine g1 (pc' := 22) (w_iconst X (1) dX3_remember_21 (by decide)) ?_
    refine g1 (pc' := 23) (w_iadd X dX3_remember_22) ?_
    refine g1 (pc' := 26) (k_X3_within X hR hN Z  mw_602 (by decide) (Nat.le_of_ble_eq_true rfl) dX3_remember_23) ?_
    refine g_lt (pc' := 29) (fun M4 => [(0, .ref (xb x + o0)), (1, .ref (xb x + o1))]) (fun M4 => []) (fun M4 => M4) (pt_3_1 X Z hk0 mw_241 dX3_remember_26) (fun M4 => ?_)
    show Gz x 2 29 [(0, .ref (xb x + o0)), (1, .ref (xb x + o1))] [] KDF M4 _ _
    refine g1 (pc' := 30) (w_aload_n X dX3_remember_29 rfl 0 rfl) ?_
    refine g1 (pc' := 32) (w_bipush X (16) dX3_remember_30 (by decide)) ?_
    refine g1 (pc' := 33) (w_aload_n X dX3_remember_32 rfl 0 rfl) ?_
    refine g1 (pc' := 36) (gt_3_0 X hk0 mw_239 dX3_remember_33) ?_
    refine g1 (pc' := 37) (w_iconst X (1) dX3_remember_36 (by decide)) ?_
    refine g1 (pc' := 38) (w_iadd X dX3_remember_37) ?_
    refine g1 (pc' := 41) (w_mmin X hR mw_616 mw_617 mw_77 mw_618 (by decide) (Nat.le_of_ble_eq_true rfl) ⟨Nat.le_refl _, Nat.le_refl _⟩ dX3_remember_38) ?_
    refine g_lt (pc' := 44) (fun M5 => [(0, .ref (xb x + o0)), (1, .ref (xb x + o1))]) (fun M5 => []) (fun M5 => M5) (pt_3_0 X Z hk0 mw_239 dX3_remember_41) (fun M5 => ?_)
    show Gz x 2 44 [(0, .ref (xb x + o0)), (1, .ref (xb x + o1))] [] KDF M5 _ _
    exact g_rM X dX3_remember_44
  exact G _ h _ rfl
theorem k_X3_remember {x : Cxt} {cc : ByteArray} {nL : Nat} {own : String} {ret : Option FieldType} (X : Ok x cc nL own ret) {d : Nat} (hR : Rm x d KDF) (hN : Nst x) (Z : xz x = 0) {pc : Nat} {lv : List (Nat × Value)} {rest : List Value} {M : Mm} {o0 : Nat} {o1 : Nat} (hk0 : KDF[o0]? = some (3, 0)) (hk1 : KDF[o1]? = some (1, 0)) {idx : Nat} (hw : Cond.methodLink own idx yX3_remember ∈ tbG) (hdd : 3 + 1 ≤ d) (hrm : (rest.map fun v => v.category).sum ≤ 8) (hd : decode cc pc = .ok (.invokevirtual idx, 3)) {M' : Mm} (h : f_X3_remember o0 o1 M = some M') : StpZ x nL pc lv (.ref (xb x + o1) :: .ref (xb x + o0) :: rest) KDF M (pc + 3) lv (rest) KDF M' :=
  w_callV (st := []) (As := [.ref (xb x + o1)]) X hR hN (CtX0 Z (c_X3_remember hk0 hk1 h)) ⟨Nat.le_refl _, Nat.le_refl _⟩ ⟨Nat.le_refl _, Nat.le_refl _⟩ hk0 (ci := 3) (fs := fs_3 o0) (fun _ _ _ => rfl) rfl hw mw_599 mw_600 mw_67 mw_601 (n := 1) (by decide +kernel) rfl hdd (by decide) hrm hd
def f_X3_restore (o0 : Nat) (o1 : Nat) (M : Mm) : Option (Int32 × Mm) :=
  (if (M o0 0) = 0 then some ((0 : Int32), M) else Lt (st2 M o0 1 (f_X3_within ((M o0 1) - (1 : Int32)))) (fun M2 => Lt (st2 M2 o0 0 ((M2 o0 0) - (1 : Int32))) (fun M3 => Gd (ib (M3 o0 1) 16) (Gd (KDF[(42 + 1 + 4 * ix (M3 o0 1))]? = some (1, 0)) (Bd (f_X1_copyFrom o1 (42 + 1 + 4 * ix (M3 o0 1)) M3) (fun r6 => some ((1 : Int32), r6)))))))
set_option maxRecDepth 100000 in
set_option maxHeartbeats 4000000 in
theorem c_X3_restore {l : Launch} {D : va_G} {an : An} {b : Nat} {o0 : Nat} {o1 : Nat} (hk0 : KDF[o0]? = some (3, 0)) (hk1 : KDF[o1]? = some (1, 0)) {M : Mm} {r : Int32} {M' : Mm} (h : f_X3_restore o0 o1 M = some (r, M')) : Ct l D an b 0 yX3_restore cX3_restore 2 (some .boolean) 3 [.ref (b + o0), .ref (b + o1)] KDF M (some (.int r)) KDF M' := by
  refine CtX.mk (as := fun b => [.ref (b + o0), .ref (b + o1)]) (rv := fun b => (some (.int r))) (by decide) (fun b => Nat.le_of_ble_eq_true rfl) ⟨Nat.le_refl _, Nat.le_refl _⟩ (fun x X hR Z hN _ _ => ?_)
  have X : Ok x cX3_restore 2 RX3 (some .boolean) := X
  have G : Gz x 2 0 [(0, .ref (xb x + o0)), (1, .ref (xb x + o1))] [] KDF M (f_X3_restore o0 o1 M) (PsI2 x KDF) := by
    unfold f_X3_restore
    refine g1 (pc' := 1) (w_aload_n X dX3_restore_0 rfl 0 rfl) ?_
    refine g1 (pc' := 4) (gt_3_0 X hk0 mw_239 dX3_restore_1) ?_
    refine g_if (pcT := 7) (pcF := 9) (w_if_ne (tgt := 9) X dX3_restore_4 (by decide)) (fun h1 => ?_) (fun h1 => ?_)
    · refine g1 (pc' := 8) (w_iconst X (0) dX3_restore_7 (by decide)) ?_
      exact g_rZ2 X zb0 dX3_restore_8
    · refine g1 (pc' := 10) (w_aload_n X dX3_restore_9 rfl 0 rfl) ?_
      refine g1 (pc' := 11) (w_aload_n X dX3_restore_10 rfl 0 rfl) ?_
      refine g1 (pc' := 14) (gt_3_1 X hk0 mw_241 dX3_restore_11) ?_
      refine g1 (pc' := 15) (w_iconst X (1) dX3_restore_14 (by decide)) ?_
      refine g1 (pc' := 16) (w_isub X dX3_restore_15) ?_
      refine g1 (pc' := 19) (k_X3_within X hR hN Z  mw_602 (by decide) (Nat.le_of_ble_eq_true rfl) dX3_restore_16) ?_
      refine g_lt (pc' := 22) (fun M2 => [(0, .ref (xb x + o0)), (1, .ref (xb x + o1))]) (fun M2 => []) (fun M2 => M2) (pt_3_1 X Z hk0 mw_241 dX3_restore_19) (fun M2 => ?_)
      show Gz x 2 22 [(0, .ref (xb x + o0)), (1, .ref (xb x + o1))] [] KDF M2 _ _
      refine g1 (pc' := 23) (w_aload_n X dX3_restore_22 rfl 0 rfl) ?_
      refine g1 (pc' := 24) (w_dup X dX3_restore_23 rfl) ?_
      refine g1 (pc' := 27) (gt_3_0 X hk0 mw_239 dX3_restore_24) ?_
      refine g1 (pc' := 28) (w_iconst X (1) dX3_restore_27 (by decide)) ?_
      refine g1 (pc' := 29) (w_isub X dX3_restore_28) ?_
      refine g_lt (pc' := 32) (fun M3 => [(0, .ref (xb x + o0)), (1, .ref (xb x + o1))]) (fun M3 => []) (fun M3 => M3) (pt_3_0 X Z hk0 mw_239 dX3_restore_29) (fun M3 => ?_)
      show Gz x 2 32 [(0, .ref (xb x + o0)), (1, .ref (xb x + o1))] [] KDF M3 _ _
      refine g1 (pc' := 33) (w_aload_n X dX3_restore_32 rfl 1 rfl) ?_
      refine g1 (pc' := 34) (w_aload_n X dX3_restore_33 rfl 0 rfl) ?_
      refine g1 (pc' := 37) (gt_3_2 X hk0 mw_242 dX3_restore_34) ?_
      refine g1 (pc' := 38) (w_aload_n X dX3_restore_37 rfl 0 rfl) ?_
      refine g1 (pc' := 41) (gt_3_1 X hk0 mw_241 dX3_restore_38) ?_
      refine g_gd (fun h4 => ?_)
      refine g1 (pc' := 42) (w_aald16 X kd_42 h4 dX3_restore_41) ?_
      refine g_gd (fun h5 => ?_)
      refine g_bd (pc' := 45) (fun r6 => [(0, .ref (xb x + o0)), (1, .ref (xb x + o1))]) (fun r6 => []) (fun r6 => r6) (fun r6 h => k_X1_copyFrom X hR hN Z hk1 h5 mw_605 (by decide) (Nat.le_of_ble_eq_true rfl) dX3_restore_42 h) (fun r6 => ?_)
      show Gz x 2 45 [(0, .ref (xb x + o0)), (1, .ref (xb x + o1))] [] KDF r6 _ _
      refine g1 (pc' := 46) (w_iconst X (1) dX3_restore_45 (by decide)) ?_
      exact g_rZ2 X zb1 dX3_restore_46
  exact G _ h _ rfl
theorem k_X3_restore {x : Cxt} {cc : ByteArray} {nL : Nat} {own : String} {ret : Option FieldType} (X : Ok x cc nL own ret) {d : Nat} (hR : Rm x d KDF) (hN : Nst x) (Z : xz x = 0) {pc : Nat} {lv : List (Nat × Value)} {rest : List Value} {M : Mm} {o0 : Nat} {o1 : Nat} (hk0 : KDF[o0]? = some (3, 0)) (hk1 : KDF[o1]? = some (1, 0)) {idx : Nat} (hw : Cond.methodLink own idx yX3_restore ∈ tbG) (hdd : 3 + 1 ≤ d) (hrm : (rest.map fun v => v.category).sum ≤ 8) (hd : decode cc pc = .ok (.invokevirtual idx, 3)) {r : Int32} {M' : Mm} (h : f_X3_restore o0 o1 M = some (r, M')) : StpZ x nL pc lv (.ref (xb x + o1) :: .ref (xb x + o0) :: rest) KDF M (pc + 3) lv (.int r :: rest) KDF M' :=
  w_callV (st := []) (As := [.ref (xb x + o1)]) X hR hN (CtX0 Z (c_X3_restore hk0 hk1 h)) ⟨Nat.le_refl _, Nat.le_refl _⟩ ⟨Nat.le_refl _, Nat.le_refl _⟩ hk0 (ci := 3) (fs := fs_3 o0) (fun _ _ _ => rfl) rfl hw mw_710 mw_711 mw_67 mw_712 (n := 1) (by decide +kernel) rfl hdd (by decide) hrm hd
def f_J6_numberOfTrailingZeros_0f7a4 (x0 : Int32) : Int32 :=
  Lt ((x0 ^^^ (-1 : Int32)) &&& (x0 - (1 : Int32))) (fun v1 => (if 0 < v1 then Lt (((if v1 ≤ (65536 : Int32) then (v1, (1 : Int32)) else Lt ((1 : Int32) + (16 : Int32)) (fun v5 => Lt (us v1 (16 : Int32)) (fun v6 => (v6, v5))))) : Int32 × Int32) (fun j3 => Lt (((if j3.1 ≤ (256 : Int32) then (j3.1, j3.2) else Lt (j3.2 + (8 : Int32)) (fun v9 => Lt (us j3.1 (8 : Int32)) (fun v10 => (v10, v9))))) : Int32 × Int32) (fun j7 => Lt (((if j7.1 ≤ (16 : Int32) then (j7.1, j7.2) else Lt (j7.2 + (4 : Int32)) (fun v13 => Lt (us j7.1 (4 : Int32)) (fun v14 => (v14, v13))))) : Int32 × Int32) (fun j11 => Lt (((if j11.1 ≤ (4 : Int32) then (j11.1, j11.2) else Lt (j11.2 + (2 : Int32)) (fun v17 => Lt (us j11.1 (2 : Int32)) (fun v18 => (v18, v17))))) : Int32 × Int32) (fun j15 => (j15.2 + (us j15.1 (1 : Int32))))))) else (v1 &&& (32 : Int32))))
set_option maxRecDepth 100000 in
set_option maxHeartbeats 4000000 in
theorem c_J6_numberOfTrailingZeros_0f7a4 {l : Launch} {D : va_G} {an : An} {b : Nat} {x0 : Int32}  {M : Mm}  : Ct l D an b 0 yJ6_numberOfTrailingZeros_0f7a4 cJ6_numberOfTrailingZeros_0f7a4 2 (some .int) 1 [.int x0] KDF M (some (.int (f_J6_numberOfTrailingZeros_0f7a4 x0))) KDF M := by
  refine CtX.mk (as := fun b => [.int x0]) (rv := fun b => (some (.int (f_J6_numberOfTrailingZeros_0f7a4 x0)))) (by decide) (fun b => Nat.le_of_ble_eq_true rfl) ⟨Nat.le_refl _, Nat.le_refl _⟩ (fun x X hR Z hN _ _ => ?_)
  have X : Ok x cJ6_numberOfTrailingZeros_0f7a4 2 RJ6 (some .int) := X
  have G : Gz x 2 0 [(0, .int x0)] [] KDF M (some (f_J6_numberOfTrailingZeros_0f7a4 x0)) (PsI x KDF M) := by
    unfold f_J6_numberOfTrailingZeros_0f7a4
    refine g1 (pc' := 1) (w_iload_n X dJ6_numberOfTrailingZeros_0f7a4_0 rfl 0 rfl) ?_
    refine g1 (pc' := 2) (w_iconst X (-1) dJ6_numberOfTrailingZeros_0f7a4_1 (by decide)) ?_
    refine g1 (pc' := 3) (w_ixor X dJ6_numberOfTrailingZeros_0f7a4_2) ?_
    refine g1 (pc' := 4) (w_iload_n X dJ6_numberOfTrailingZeros_0f7a4_3 rfl 0 rfl) ?_
    refine g1 (pc' := 5) (w_iconst X (1) dJ6_numberOfTrailingZeros_0f7a4_4 (by decide)) ?_
    refine g1 (pc' := 6) (w_isub X dJ6_numberOfTrailingZeros_0f7a4_5) ?_
    refine g1 (pc' := 7) (w_iand X dJ6_numberOfTrailingZeros_0f7a4_6) ?_
    refine g_ltT (pc' := 8) (fun v1 => [(0, .int v1)]) (fun v1 => []) (fun v1 => M) (w_istore_n X dJ6_numberOfTrailingZeros_0f7a4_7 rfl (by decide) rfl) (fun v1 => ?_)
    show Gz x 2 8 [(0, .int v1)] [] KDF M _ _
    refine g1 (pc' := 9) (w_iload_n X dJ6_numberOfTrailingZeros_0f7a4_8 rfl 0 rfl) ?_
    refine g_ifS (pcT := 17) (pcF := 12) (w_if_gt (tgt := 17) X dJ6_numberOfTrailingZeros_0f7a4_9 (by decide)) (fun h2 => ?_) (fun h2 => ?_)
    · refine g1 (pc' := 18) (w_iconst X (1) dJ6_numberOfTrailingZeros_0f7a4_17 (by decide)) ?_
      refine g1 (pc' := 19) (lv' := [(1, .int (1 : Int32)), (0, .int v1)]) (w_istore_n X dJ6_numberOfTrailingZeros_0f7a4_18 rfl (by decide) rfl) ?_
      refine g1 (pc' := 20) (w_iload_n X dJ6_numberOfTrailingZeros_0f7a4_19 rfl 1 rfl) ?_
      refine g1 (pc' := 23) (w_ldcw (v := 65536) X dJ6_numberOfTrailingZeros_0f7a4_20 mw_794) ?_
      refine g_ltJT (J := 34) (fun j3 => [(0, .int j3.1), (1, .int j3.2)]) (fun j3 => []) (fun j3 => M) ?_ (fun j3 => ?_)
      · refine g_ifS (pcT := 34) (pcF := 26) (w_icmp_le (tgt := 34) X dJ6_numberOfTrailingZeros_0f7a4_23 (by decide)) (fun h4 => ?_) (fun h4 => ?_)
        · exact g_end [1, 0] rfl rfl rfl
        · refine g_ltT (pc' := 29) (fun v5 => [(1, .int v5), (0, .int v1)]) (fun v5 => []) (fun v5 => M) (w_iinc X dJ6_numberOfTrailingZeros_0f7a4_26 0 rfl rfl (by decide) rfl) (fun v5 => ?_)
          show Gz x 2 29 [(1, .int v5), (0, .int v1)] [] KDF M _ _
          refine g1 (pc' := 30) (w_iload_n X dJ6_numberOfTrailingZeros_0f7a4_29 rfl 1 rfl) ?_
          refine g1 (pc' := 32) (w_bipush X (16) dJ6_numberOfTrailingZeros_0f7a4_30 (by decide)) ?_
          refine g1 (pc' := 33) (w_iushr X dJ6_numberOfTrailingZeros_0f7a4_32) ?_
          refine g_ltT (pc' := 34) (fun v6 => [(0, .int v6), (1, .int v5)]) (fun v6 => []) (fun v6 => M) (w_istore_n X dJ6_numberOfTrailingZeros_0f7a4_33 rfl (by decide) rfl) (fun v6 => ?_)
          show Gz x 2 34 [(0, .int v6), (1, .int v5)] [] KDF M _ _
          exact g_end [0, 1] rfl rfl rfl
      · show Gz x 2 34 [(0, .int j3.1), (1, .int j3.2)] [] KDF M _ _
        refine g1 (pc' := 35) (w_iload_n X dJ6_numberOfTrailingZeros_0f7a4_34 rfl 0 rfl) ?_
        refine g1 (pc' := 38) (w_sipush X (256) dJ6_numberOfTrailingZeros_0f7a4_35 (by decide)) ?_
        refine g_ltJT (J := 49) (fun j7 => [(0, .int j7.1), (1, .int j7.2)]) (fun j7 => []) (fun j7 => M) ?_ (fun j7 => ?_)
        · refine g_ifS (pcT := 49) (pcF := 41) (w_icmp_le (tgt := 49) X dJ6_numberOfTrailingZeros_0f7a4_38 (by decide)) (fun h8 => ?_) (fun h8 => ?_)
          · exact g_end [0, 1] rfl rfl rfl
          · refine g_ltT (pc' := 44) (fun v9 => [(1, .int v9), (0, .int j3.1)]) (fun v9 => []) (fun v9 => M) (w_iinc X dJ6_numberOfTrailingZeros_0f7a4_41 1 rfl rfl (by decide) rfl) (fun v9 => ?_)
            show Gz x 2 44 [(1, .int v9), (0, .int j3.1)] [] KDF M _ _
            refine g1 (pc' := 45) (w_iload_n X dJ6_numberOfTrailingZeros_0f7a4_44 rfl 1 rfl) ?_
            refine g1 (pc' := 47) (w_bipush X (8) dJ6_numberOfTrailingZeros_0f7a4_45 (by decide)) ?_
            refine g1 (pc' := 48) (w_iushr X dJ6_numberOfTrailingZeros_0f7a4_47) ?_
            refine g_ltT (pc' := 49) (fun v10 => [(0, .int v10), (1, .int v9)]) (fun v10 => []) (fun v10 => M) (w_istore_n X dJ6_numberOfTrailingZeros_0f7a4_48 rfl (by decide) rfl) (fun v10 => ?_)
            show Gz x 2 49 [(0, .int v10), (1, .int v9)] [] KDF M _ _
            exact g_end [0, 1] rfl rfl rfl
        · show Gz x 2 49 [(0, .int j7.1), (1, .int j7.2)] [] KDF M _ _
          refine g1 (pc' := 50) (w_iload_n X dJ6_numberOfTrailingZeros_0f7a4_49 rfl 0 rfl) ?_
          refine g1 (pc' := 52) (w_bipush X (16) dJ6_numberOfTrailingZeros_0f7a4_50 (by decide)) ?_
          refine g_ltJT (J := 62) (fun j11 => [(0, .int j11.1), (1, .int j11.2)]) (fun j11 => []) (fun j11 => M) ?_ (fun j11 => ?_)
          · refine g_ifS (pcT := 62) (pcF := 55) (w_icmp_le (tgt := 62) X dJ6_numberOfTrailingZeros_0f7a4_52 (by decide)) (fun h12 => ?_) (fun h12 => ?_)
            · exact g_end [0, 1] rfl rfl rfl
            · refine g_ltT (pc' := 58) (fun v13 => [(1, .int v13), (0, .int j7.1)]) (fun v13 => []) (fun v13 => M) (w_iinc X dJ6_numberOfTrailingZeros_0f7a4_55 1 rfl rfl (by decide) rfl) (fun v13 => ?_)
              show Gz x 2 58 [(1, .int v13), (0, .int j7.1)] [] KDF M _ _
              refine g1 (pc' := 59) (w_iload_n X dJ6_numberOfTrailingZeros_0f7a4_58 rfl 1 rfl) ?_
              refine g1 (pc' := 60) (w_iconst X (4) dJ6_numberOfTrailingZeros_0f7a4_59 (by decide)) ?_
              refine g1 (pc' := 61) (w_iushr X dJ6_numberOfTrailingZeros_0f7a4_60) ?_
              refine g_ltT (pc' := 62) (fun v14 => [(0, .int v14), (1, .int v13)]) (fun v14 => []) (fun v14 => M) (w_istore_n X dJ6_numberOfTrailingZeros_0f7a4_61 rfl (by decide) rfl) (fun v14 => ?_)
              show Gz x 2 62 [(0, .int v14), (1, .int v13)] [] KDF M _ _
              exact g_end [0, 1] rfl rfl rfl
          · show Gz x 2 62 [(0, .int j11.1), (1, .int j11.2)] [] KDF M _ _
            refine g1 (pc' := 63) (w_iload_n X dJ6_numberOfTrailingZeros_0f7a4_62 rfl 0 rfl) ?_
            refine g1 (pc' := 64) (w_iconst X (4) dJ6_numberOfTrailingZeros_0f7a4_63 (by decide)) ?_
            refine g_ltJT (J := 74) (fun j15 => [(0, .int j15.1), (1, .int j15.2)]) (fun j15 => []) (fun j15 => M) ?_ (fun j15 => ?_)
            · refine g_ifS (pcT := 74) (pcF := 67) (w_icmp_le (tgt := 74) X dJ6_numberOfTrailingZeros_0f7a4_64 (by decide)) (fun h16 => ?_) (fun h16 => ?_)
              · exact g_end [0, 1] rfl rfl rfl
              · refine g_ltT (pc' := 70) (fun v17 => [(1, .int v17), (0, .int j11.1)]) (fun v17 => []) (fun v17 => M) (w_iinc X dJ6_numberOfTrailingZeros_0f7a4_67 1 rfl rfl (by decide) rfl) (fun v17 => ?_)
                show Gz x 2 70 [(1, .int v17), (0, .int j11.1)] [] KDF M _ _
                refine g1 (pc' := 71) (w_iload_n X dJ6_numberOfTrailingZeros_0f7a4_70 rfl 1 rfl) ?_
                refine g1 (pc' := 72) (w_iconst X (2) dJ6_numberOfTrailingZeros_0f7a4_71 (by decide)) ?_
                refine g1 (pc' := 73) (w_iushr X dJ6_numberOfTrailingZeros_0f7a4_72) ?_
                refine g_ltT (pc' := 74) (fun v18 => [(0, .int v18), (1, .int v17)]) (fun v18 => []) (fun v18 => M) (w_istore_n X dJ6_numberOfTrailingZeros_0f7a4_73 rfl (by decide) rfl) (fun v18 => ?_)
                show Gz x 2 74 [(0, .int v18), (1, .int v17)] [] KDF M _ _
                exact g_end [0, 1] rfl rfl rfl
            · show Gz x 2 74 [(0, .int j15.1), (1, .int j15.2)] [] KDF M _ _
              refine g1 (pc' := 75) (w_iload_n X dJ6_numberOfTrailingZeros_0f7a4_74 rfl 1 rfl) ?_
              refine g1 (pc' := 76) (w_iload_n X dJ6_numberOfTrailingZeros_0f7a4_75 rfl 0 rfl) ?_
              refine g1 (pc' := 77) (w_iconst X (1) dJ6_numberOfTrailingZeros_0f7a4_76 (by decide)) ?_
              refine g1 (pc' := 78) (w_iushr X dJ6_numberOfTrailingZeros_0f7a4_77) ?_
              refine g1 (pc' := 79) (w_iadd X dJ6_numberOfTrailingZeros_0f7a4_78) ?_
              exact g_rI X dJ6_numberOfTrailingZeros_0f7a4_79
    · refine g1 (pc' := 13) (w_iload_n X dJ6_numberOfTrailingZeros_0f7a4_12 rfl 0 rfl) ?_
      refine g1 (pc' := 15) (w_bipush X (32) dJ6_numberOfTrailingZeros_0f7a4_13 (by decide)) ?_
      refine g1 (pc' := 16) (w_iand X dJ6_numberOfTrailingZeros_0f7a4_15) ?_
      exact g_rI X dJ6_numberOfTrailingZeros_0f7a4_16
  exact G _ rfl _ rfl
theorem k_J6_numberOfTrailingZeros_0f7a4 {x : Cxt} {cc : ByteArray} {nL : Nat} {own : String} {ret : Option FieldType} (X : Ok x cc nL own ret) {d : Nat} (hR : Rm x d KDF) (hN : Nst x) (Z : xz x = 0) {pc : Nat} {lv : List (Nat × Value)} {rest : List Value} {M : Mm} {x0 : Int32}  {idx : Nat} (hw : Cond.methodLink own idx yJ6_numberOfTrailingZeros_0f7a4 ∈ tbG) (hdd : 1 + 1 ≤ d) (hrm : (rest.map fun v => v.category).sum ≤ 8) (hd : decode cc pc = .ok (.invokestatic idx, 3))  : StpZ x nL pc lv (.int x0 :: rest) KDF M (pc + 3) lv (.int (f_J6_numberOfTrailingZeros_0f7a4 x0) :: rest) KDF M :=
  w_callS (st := []) (As := [.int x0]) X hR hN (CtX0 Z (c_J6_numberOfTrailingZeros_0f7a4  )) ⟨Nat.le_refl _, Nat.le_refl _⟩ ⟨Nat.le_refl _, Nat.le_refl _⟩ hw mw_792 mw_75 mw_793 (n := 1) (by decide +kernel) rfl hdd (by decide) hrm hd
def f_X4_leastFrom (o0 : Nat) (x1 : Int32) (x2 : Int32) (x3 : Int32) (o4 : Nat) (M : Mm) : Option (Int32) :=
  Lt ((x3 &&& ((sl (1 : Int32) x2) ^^^ (-1 : Int32))) &&& ((nI 64) - (1 : Int32))) (fun v1 => Bd (f_X9_excess o4 x1 x2 M) (fun r2 => Gd (ib v1 64) (some (r2 + (M 113 (ix v1))))))
set_option maxRecDepth 100000 in
set_option maxHeartbeats 4000000 in
theorem c_X4_leastFrom {l : Launch} {D : va_G} {an : An} {b : Nat} {o0 : Nat} {x1 : Int32} {x2 : Int32} {x3 : Int32} {o4 : Nat} (hk0 : KDF[o0]? = some (4, 0)) (hk4 : KDF[o4]? = some (9, 0)) {M : Mm} {r : Int32} (h : f_X4_leastFrom o0 x1 x2 x3 o4 M = some r) : Ct l D an b 0 yX4_leastFrom cX4_leastFrom 6 (some .int) 4 [.ref (b + o0), .int x1, .int x2, .int x3, .ref (b + o4)] KDF M (some (.int r)) KDF M := by
  refine CtX.mk (as := fun b => [.ref (b + o0), .int x1, .int x2, .int x3, .ref (b + o4)]) (rv := fun b => (some (.int r))) (by decide) (fun b => Nat.le_of_ble_eq_true rfl) ⟨Nat.le_refl _, Nat.le_refl _⟩ (fun x X hR Z hN _ _ => ?_)
  have X : Ok x cX4_leastFrom 6 RX4 (some .int) := X
  have G : Gz x 6 0 [(0, .ref (xb x + o0)), (1, .int x1), (2, .int x2), (3, .int x3), (4, .ref (xb x + o4))] [] KDF M (f_X4_leastFrom o0 x1 x2 x3 o4 M) (PsI x KDF M) := by
    unfold f_X4_leastFrom
    refine g1 (pc' := 1) (w_iload_n X dX4_leastFrom_0 rfl 3 rfl) ?_
    refine g1 (pc' := 2) (w_iconst X (1) dX4_leastFrom_1 (by decide)) ?_
    refine g1 (pc' := 3) (w_iload_n X dX4_leastFrom_2 rfl 2 rfl) ?_
    refine g1 (pc' := 4) (w_ishl X dX4_leastFrom_3) ?_
    refine g1 (pc' := 5) (w_iconst X (-1) dX4_leastFrom_4 (by decide)) ?_
    refine g1 (pc' := 6) (w_ixor X dX4_leastFrom_5) ?_
    refine g1 (pc' := 7) (w_iand X dX4_leastFrom_6) ?_
    refine g1 (pc' := 8) (w_aload_n X dX4_leastFrom_7 rfl 0 rfl) ?_
    refine g1 (pc' := 11) (gt_4_0 X hk0 mw_287 dX4_leastFrom_8) ?_
    refine g1 (pc' := 12) (w_alen X kd_113 dX4_leastFrom_11) ?_
    refine g1 (pc' := 13) (w_iconst X (1) dX4_leastFrom_12 (by decide)) ?_
    refine g1 (pc' := 14) (w_isub X dX4_leastFrom_13) ?_
    refine g1 (pc' := 15) (w_iand X dX4_leastFrom_14) ?_
    refine g_lt (pc' := 17) (fun v1 => [(5, .int v1), (0, .ref (xb x + o0)), (1, .int x1), (2, .int x2), (3, .int x3), (4, .ref (xb x + o4))]) (fun v1 => []) (fun v1 => M) (w_istore X dX4_leastFrom_15 (by decide) rfl) (fun v1 => ?_)
    show Gz x 6 17 [(5, .int v1), (0, .ref (xb x + o0)), (1, .int x1), (2, .int x2), (3, .int x3), (4, .ref (xb x + o4))] [] KDF M _ _
    refine g1 (pc' := 19) (w_aload X dX4_leastFrom_17 5 rfl) ?_
    refine g1 (pc' := 20) (w_iload_n X dX4_leastFrom_19 rfl 2 rfl) ?_
    refine g1 (pc' := 21) (w_iload_n X dX4_leastFrom_20 rfl 3 rfl) ?_
    refine g_bd (pc' := 24) (fun r2 => [(5, .int v1), (0, .ref (xb x + o0)), (1, .int x1), (2, .int x2), (3, .int x3), (4, .ref (xb x + o4))]) (fun r2 => [.int r2]) (fun r2 => M) (fun r2 h => k_X9_excess X hR hN Z hk4 mw_799 (by decide) (Nat.le_of_ble_eq_true rfl) dX4_leastFrom_21 h) (fun r2 => ?_)
    show Gz x 6 24 [(5, .int v1), (0, .ref (xb x + o0)), (1, .int x1), (2, .int x2), (3, .int x3), (4, .ref (xb x + o4))] [.int r2] KDF M _ _
    refine g1 (pc' := 25) (w_aload_n X dX4_leastFrom_24 rfl 1 rfl) ?_
    refine g1 (pc' := 28) (gt_4_0 X hk0 mw_287 dX4_leastFrom_25) ?_
    refine g1 (pc' := 30) (w_iload X dX4_leastFrom_28 0 rfl) ?_
    refine g_gd (fun h3 => ?_)
    refine g1 (pc' := 31) (w_iald X kd_113 h3 dX4_leastFrom_30) ?_
    refine g1 (pc' := 32) (w_iadd X dX4_leastFrom_31) ?_
    exact g_rI X dX4_leastFrom_32
  exact G _ h _ rfl
theorem k_X4_leastFrom {x : Cxt} {cc : ByteArray} {nL : Nat} {own : String} {ret : Option FieldType} (X : Ok x cc nL own ret) {d : Nat} (hR : Rm x d KDF) (hN : Nst x) (Z : xz x = 0) {pc : Nat} {lv : List (Nat × Value)} {rest : List Value} {M : Mm} {o0 : Nat} {x1 : Int32} {x2 : Int32} {x3 : Int32} {o4 : Nat} (hk0 : KDF[o0]? = some (4, 0)) (hk4 : KDF[o4]? = some (9, 0)) {idx : Nat} (hw : Cond.methodLink own idx yX4_leastFrom ∈ tbG) (hdd : 4 + 1 ≤ d) (hrm : (rest.map fun v => v.category).sum ≤ 8) (hd : decode cc pc = .ok (.invokevirtual idx, 3)) {r : Int32} (h : f_X4_leastFrom o0 x1 x2 x3 o4 M = some r) : StpZ x nL pc lv (.ref (xb x + o4) :: .int x3 :: .int x2 :: .int x1 :: .ref (xb x + o0) :: rest) KDF M (pc + 3) lv (.int r :: rest) KDF M :=
  w_callV (st := []) (As := [.int x1, .int x2, .int x3, .ref (xb x + o4)]) X hR hN (CtX0 Z (c_X4_leastFrom hk0 hk4 h)) ⟨Nat.le_refl _, Nat.le_refl _⟩ ⟨Nat.le_refl _, Nat.le_refl _⟩ hk0 (ci := 4) (fs := fs_4 o0) (fun _ _ _ => rfl) rfl hw mw_797 mw_19 mw_70 mw_798 (n := 4) (by decide +kernel) rfl hdd (by decide) hrm hd
def b_X4_firstBell_12 (o0 : Nat) (o1 : Nat) (x2 : Int32) (x3 : Int32) (M : Mm) (s12 : Int32 × Int32) : Option ((Int32 × Int32) ⊕ (Int32)) :=
  (if (M o1 2) ≤ s12.2 then some (.inr s12.1) else Lt (((if ((sr x3 s12.2) &&& (1 : Int32)) = 0 then (0 : Int32) else (1 : Int32))) : Int32) (fun j4 => Bd (((if j4 = 0 then some s12.1 else Bd (f_X4_leastFrom o0 x2 s12.2 x3 o1 M) (fun r9 => Bd (f_X4_leastFrom o0 x2 s12.1 x3 o1 M) (fun r10 => (if r10 ≤ r9 then some s12.1 else some s12.2))))) : Option (Int32)) (fun j7 => Lt (s12.2 + (1 : Int32)) (fun v12 => some (.inl (j7, v12))))))
def f_X4_firstBell (o0 : Nat) (o1 : Nat) (x2 : Int32) (x3 : Int32) (M : Mm) : Option (Int32) :=
  Lt (f_J6_numberOfTrailingZeros_0f7a4 x3) (fun v1 => Lt (v1 + (1 : Int32)) (fun v2 => Bd (Lp (b_X4_firstBell_12 o0 o1 x2 x3 M) 100000 (v1, v2)) (fun e13 => some e13)))
set_option maxRecDepth 100000 in
set_option maxHeartbeats 4000000 in
theorem c_X4_firstBell {l : Launch} {D : va_G} {an : An} {b : Nat} {o0 : Nat} {o1 : Nat} {x2 : Int32} {x3 : Int32} (hk0 : KDF[o0]? = some (4, 0)) (hk1 : KDF[o1]? = some (9, 0)) {M : Mm} {r : Int32} (h : f_X4_firstBell o0 o1 x2 x3 M = some r) : Ct l D an b 0 yX4_firstBell cX4_firstBell 7 (some .int) 5 [.ref (b + o0), .ref (b + o1), .int x2, .int x3] KDF M (some (.int r)) KDF M := by
  refine CtX.mk (as := fun b => [.ref (b + o0), .ref (b + o1), .int x2, .int x3]) (rv := fun b => (some (.int r))) (by decide) (fun b => Nat.le_of_ble_eq_true rfl) ⟨Nat.le_refl _, Nat.le_refl _⟩ (fun x X hR Z hN _ _ => ?_)
  have X : Ok x cX4_firstBell 7 RX4 (some .int) := X
  have G : Gz x 7 0 [(0, .ref (xb x + o0)), (1, .ref (xb x + o1)), (2, .int x2), (3, .int x3)] [] KDF M (f_X4_firstBell o0 o1 x2 x3 M) (PsI x KDF M) := by
    unfold f_X4_firstBell
    refine g1 (pc' := 1) (w_iload_n X dX4_firstBell_0 rfl 3 rfl) ?_
    refine g1 (pc' := 4) (k_J6_numberOfTrailingZeros_0f7a4 X hR hN Z  mw_791 (by decide) (Nat.le_of_ble_eq_true rfl) dX4_firstBell_1) ?_
    refine g_lt (pc' := 6) (fun v1 => [(4, .int v1), (0, .ref (xb x + o0)), (1, .ref (xb x + o1)), (2, .int x2), (3, .int x3)]) (fun v1 => []) (fun v1 => M) (w_istore X dX4_firstBell_4 (by decide) rfl) (fun v1 => ?_)
    show Gz x 7 6 [(4, .int v1), (0, .ref (xb x + o0)), (1, .ref (xb x + o1)), (2, .int x2), (3, .int x3)] [] KDF M _ _
    refine g1 (pc' := 8) (w_iload X dX4_firstBell_6 0 rfl) ?_
    refine g1 (pc' := 9) (w_iconst X (1) dX4_firstBell_8 (by decide)) ?_
    refine g1 (pc' := 10) (w_iadd X dX4_firstBell_9) ?_
    refine g_lt (pc' := 12) (fun v2 => [(5, .int v2), (4, .int v1), (0, .ref (xb x + o0)), (1, .ref (xb x + o1)), (2, .int x2), (3, .int x3)]) (fun v2 => []) (fun v2 => M) (w_istore X dX4_firstBell_10 (by decide) rfl) (fun v2 => ?_)
    show Gz x 7 12 [(5, .int v2), (4, .int v1), (0, .ref (xb x + o0)), (1, .ref (xb x + o1)), (2, .int x2), (3, .int x3)] [] KDF M _ _
    refine g_pick (lv' := [(0, .ref (xb x + o0)), (1, .ref (xb x + o1)), (2, .int x2), (3, .int x3), (4, .int v1), (5, .int v2)]) [2, 3, 4, 5, 1, 0] rfl ?_
    refine g_bdJ (J := 73) (fun e13 => [(4, .int e13)]) (fun e13 => []) (fun e13 => M) (g_lp (fun s12 => [(0, .ref (xb x + o0)), (1, .ref (xb x + o1)), (2, .int x2), (3, .int x3), (4, .int s12.1), (5, .int s12.2)]) (fun s12 => M) (fun s12 => ?_) 100000 (v1, v2)) (fun e13 => ?_)
    · show Gz x 7 12 [(0, .ref (xb x + o0)), (1, .ref (xb x + o1)), (2, .int x2), (3, .int x3), (4, .int s12.1), (5, .int s12.2)] [] KDF M (b_X4_firstBell_12 o0 o1 x2 x3 M s12) _
      unfold b_X4_firstBell_12
      refine g1 (pc' := 14) (w_iload X dX4_firstBell_12 5 rfl) ?_
      refine g1 (pc' := 15) (w_aload_n X dX4_firstBell_14 rfl 1 rfl) ?_
      refine g1 (pc' := 18) (gt_9_2 X hk1 mw_123 dX4_firstBell_15) ?_
      refine g_if (pcT := 73) (pcF := 21) (w_icmp_ge (tgt := 73) X dX4_firstBell_18 (by decide)) (fun h3 => ?_) (fun h3 => ?_)
      · refine g_inr ?_
        exact g_end [4] rfl rfl rfl
      · refine g1 (pc' := 22) (w_iload_n X dX4_firstBell_21 rfl 3 rfl) ?_
        refine g1 (pc' := 24) (w_iload X dX4_firstBell_22 5 rfl) ?_
        refine g1 (pc' := 25) (w_ishr X dX4_firstBell_24) ?_
        refine g1 (pc' := 26) (w_iconst X (1) dX4_firstBell_25 (by decide)) ?_
        refine g1 (pc' := 27) (w_iand X dX4_firstBell_26) ?_
        refine g_ltJ (J := 35) (fun j4 => [(0, .ref (xb x + o0)), (1, .ref (xb x + o1)), (2, .int x2), (3, .int x3), (4, .int s12.1), (5, .int s12.2)]) (fun j4 => [.int j4]) (fun j4 => M) ?_ (fun j4 => ?_)
        · refine g_ifS (pcT := 34) (pcF := 30) (w_if_eq (tgt := 34) X dX4_firstBell_27 (by decide)) (fun h5 => ?_) (fun h5 => ?_)
          · refine g1 (pc' := 35) (w_iconst X (0) dX4_firstBell_34 (by decide)) ?_
            exact g_end [0, 1, 2, 3, 4, 5] rfl rfl rfl
          · refine g1 (pc' := 31) (w_iconst X (1) dX4_firstBell_30 (by decide)) ?_
            refine g1 (pc' := 35) (w_goto X dX4_firstBell_31 (by decide)) ?_
            exact g_end [0, 1, 2, 3, 4, 5] rfl rfl rfl
        · show Gz x 7 35 [(0, .ref (xb x + o0)), (1, .ref (xb x + o1)), (2, .int x2), (3, .int x3), (4, .int s12.1), (5, .int s12.2)] [.int j4] KDF M _ _
          refine g1 (pc' := 37) (lv' := [(6, .int j4), (0, .ref (xb x + o0)), (1, .ref (xb x + o1)), (2, .int x2), (3, .int x3), (4, .int s12.1), (5, .int s12.2)]) (w_istore X dX4_firstBell_35 (by decide) rfl) ?_
          refine g1 (pc' := 39) (w_iload X dX4_firstBell_37 0 rfl) ?_
          refine g_bdJ (J := 67) (fun j7 => [(0, .ref (xb x + o0)), (1, .ref (xb x + o1)), (2, .int x2), (3, .int x3), (4, .int j7), (5, .int s12.2)]) (fun j7 => []) (fun j7 => M) ?_ (fun j7 => ?_)
          · refine g_if (pcT := 67) (pcF := 42) (w_if_eq (tgt := 67) X dX4_firstBell_39 (by decide)) (fun h8 => ?_) (fun h8 => ?_)
            · exact g_end [1, 2, 3, 4, 5, 6] rfl rfl rfl
            · refine g1 (pc' := 43) (w_aload_n X dX4_firstBell_42 rfl 1 rfl) ?_
              refine g1 (pc' := 44) (w_iload_n X dX4_firstBell_43 rfl 3 rfl) ?_
              refine g1 (pc' := 46) (w_iload X dX4_firstBell_44 6 rfl) ?_
              refine g1 (pc' := 47) (w_iload_n X dX4_firstBell_46 rfl 4 rfl) ?_
              refine g1 (pc' := 48) (w_aload_n X dX4_firstBell_47 rfl 2 rfl) ?_
              refine g_bd (pc' := 51) (fun r9 => [(6, .int j4), (0, .ref (xb x + o0)), (1, .ref (xb x + o1)), (2, .int x2), (3, .int x3), (4, .int s12.1), (5, .int s12.2)]) (fun r9 => [.int r9]) (fun r9 => M) (fun r9 h => k_X4_leastFrom X hR hN Z hk0 hk1 mw_795 (by decide) (Nat.le_of_ble_eq_true rfl) dX4_firstBell_48 h) (fun r9 => ?_)
              show Gz x 7 51 [(6, .int j4), (0, .ref (xb x + o0)), (1, .ref (xb x + o1)), (2, .int x2), (3, .int x3), (4, .int s12.1), (5, .int s12.2)] [.int r9] KDF M _ _
              refine g1 (pc' := 52) (w_aload_n X dX4_firstBell_51 rfl 1 rfl) ?_
              refine g1 (pc' := 53) (w_iload_n X dX4_firstBell_52 rfl 3 rfl) ?_
              refine g1 (pc' := 55) (w_iload X dX4_firstBell_53 5 rfl) ?_
              refine g1 (pc' := 56) (w_iload_n X dX4_firstBell_55 rfl 4 rfl) ?_
              refine g1 (pc' := 57) (w_aload_n X dX4_firstBell_56 rfl 2 rfl) ?_
              refine g_bd (pc' := 60) (fun r10 => [(6, .int j4), (0, .ref (xb x + o0)), (1, .ref (xb x + o1)), (2, .int x2), (3, .int x3), (4, .int s12.1), (5, .int s12.2)]) (fun r10 => [.int r10, .int r9]) (fun r10 => M) (fun r10 h => k_X4_leastFrom X hR hN Z hk0 hk1 mw_795 (by decide) (Nat.le_of_ble_eq_true rfl) dX4_firstBell_57 h) (fun r10 => ?_)
              show Gz x 7 60 [(6, .int j4), (0, .ref (xb x + o0)), (1, .ref (xb x + o1)), (2, .int x2), (3, .int x3), (4, .int s12.1), (5, .int s12.2)] [.int r10, .int r9] KDF M _ _
              refine g_if (pcT := 67) (pcF := 63) (w_icmp_ge (tgt := 67) X dX4_firstBell_60 (by decide)) (fun h11 => ?_) (fun h11 => ?_)
              · exact g_end [1, 2, 3, 4, 5, 6] rfl rfl rfl
              · refine g1 (pc' := 65) (w_iload X dX4_firstBell_63 6 rfl) ?_
                refine g1 (pc' := 67) (lv' := [(4, .int s12.2), (6, .int j4), (0, .ref (xb x + o0)), (1, .ref (xb x + o1)), (2, .int x2), (3, .int x3), (5, .int s12.2)]) (w_istore X dX4_firstBell_65 (by decide) rfl) ?_
                exact g_end [2, 3, 4, 5, 0, 6] rfl rfl rfl
          · show Gz x 7 67 [(0, .ref (xb x + o0)), (1, .ref (xb x + o1)), (2, .int x2), (3, .int x3), (4, .int j7), (5, .int s12.2)] [] KDF M _ _
            refine g_lt (pc' := 70) (fun v12 => [(5, .int v12), (0, .ref (xb x + o0)), (1, .ref (xb x + o1)), (2, .int x2), (3, .int x3), (4, .int j7)]) (fun v12 => []) (fun v12 => M) (w_iinc X dX4_firstBell_67 5 rfl rfl (by decide) rfl) (fun v12 => ?_)
            show Gz x 7 70 [(5, .int v12), (0, .ref (xb x + o0)), (1, .ref (xb x + o1)), (2, .int x2), (3, .int x3), (4, .int j7)] [] KDF M _ _
            refine g1 (pc' := 12) (w_goto X dX4_firstBell_70 (by decide)) ?_
            refine g_inl ?_
            exact g_end [1, 2, 3, 4, 5, 0] rfl rfl rfl
    · show Gz x 7 73 [(4, .int e13)] [] KDF M _ _
      refine g1 (pc' := 75) (w_iload X dX4_firstBell_73 0 rfl) ?_
      exact g_rI X dX4_firstBell_75
  exact G _ h _ rfl
theorem k_X4_firstBell {x : Cxt} {cc : ByteArray} {nL : Nat} {own : String} {ret : Option FieldType} (X : Ok x cc nL own ret) {d : Nat} (hR : Rm x d KDF) (hN : Nst x) (Z : xz x = 0) {pc : Nat} {lv : List (Nat × Value)} {rest : List Value} {M : Mm} {o0 : Nat} {o1 : Nat} {x2 : Int32} {x3 : Int32} (hk0 : KDF[o0]? = some (4, 0)) (hk1 : KDF[o1]? = some (9, 0)) {idx : Nat} (hw : Cond.methodLink own idx yX4_firstBell ∈ tbG) (hdd : 5 + 1 ≤ d) (hrm : (rest.map fun v => v.category).sum ≤ 8) (hd : decode cc pc = .ok (.invokevirtual idx, 3)) {r : Int32} (h : f_X4_firstBell o0 o1 x2 x3 M = some r) : StpZ x nL pc lv (.int x3 :: .int x2 :: .ref (xb x + o1) :: .ref (xb x + o0) :: rest) KDF M (pc + 3) lv (.int r :: rest) KDF M :=
  w_callV (st := []) (As := [.ref (xb x + o1), .int x2, .int x3]) X hR hN (CtX0 Z (c_X4_firstBell hk0 hk1 h)) ⟨Nat.le_refl _, Nat.le_refl _⟩ ⟨Nat.le_refl _, Nat.le_refl _⟩ hk0 (ci := 4) (fs := fs_4 o0) (fun _ _ _ => rfl) rfl hw mw_789 mw_18 mw_70 mw_790 (n := 3) (by decide +kernel) rfl hdd (by decide) hrm hd
def f_X4_allBells (o0 : Nat) (M : Mm) : Int32 :=
  ((sl (1 : Int32) (if (6 : Int32) < (M o0 2) then (6 : Int32) else (M o0 2))) - (1 : Int32))
set_option maxRecDepth 100000 in
set_option maxHeartbeats 4000000 in
theorem c_X4_allBells {l : Launch} {D : va_G} {an : An} {b : Nat} {o0 : Nat} (hk0 : KDF[o0]? = some (9, 0)) {M : Mm}  : Ct l D an b 0 yX4_allBells cX4_allBells 1 (some .int) 2 [.ref (b + o0)] KDF M (some (.int (f_X4_allBells o0 M))) KDF M := by
  refine CtX.mk (as := fun b => [.ref (b + o0)]) (rv := fun b => (some (.int (f_X4_allBells o0 M)))) (by decide) (fun b => Nat.le_of_ble_eq_true rfl) ⟨Nat.le_refl _, Nat.le_refl _⟩ (fun x X hR Z hN _ _ => ?_)
  have X : Ok x cX4_allBells 1 RX4 (some .int) := X
  have G : Gz x 1 0 [(0, .ref (xb x + o0))] [] KDF M (some (f_X4_allBells o0 M)) (PsI x KDF M) := by
    unfold f_X4_allBells
    refine g1 (pc' := 1) (w_iconst X (1) dX4_allBells_0 (by decide)) ?_
    refine g1 (pc' := 2) (w_aload_n X dX4_allBells_1 rfl 0 rfl) ?_
    refine g1 (pc' := 5) (gt_9_2 X hk0 mw_123 dX4_allBells_2) ?_
    refine g1 (pc' := 7) (w_bipush X (6) dX4_allBells_5 (by decide)) ?_
    refine g1 (pc' := 10) (w_mmin X hR mw_803 mw_617 mw_77 mw_618 (by decide) (Nat.le_of_ble_eq_true rfl) ⟨Nat.le_refl _, Nat.le_refl _⟩ dX4_allBells_7) ?_
    refine g1 (pc' := 11) (w_ishl X dX4_allBells_10) ?_
    refine g1 (pc' := 12) (w_iconst X (1) dX4_allBells_11 (by decide)) ?_
    refine g1 (pc' := 13) (w_isub X dX4_allBells_12) ?_
    exact g_rI X dX4_allBells_13
  exact G _ rfl _ rfl
theorem k_X4_allBells {x : Cxt} {cc : ByteArray} {nL : Nat} {own : String} {ret : Option FieldType} (X : Ok x cc nL own ret) {d : Nat} (hR : Rm x d KDF) (hN : Nst x) (Z : xz x = 0) {pc : Nat} {lv : List (Nat × Value)} {rest : List Value} {M : Mm} {o0 : Nat} (hk0 : KDF[o0]? = some (9, 0)) {idx : Nat} (hw : Cond.methodLink own idx yX4_allBells ∈ tbG) (hdd : 2 + 1 ≤ d) (hrm : (rest.map fun v => v.category).sum ≤ 8) (hd : decode cc pc = .ok (.invokestatic idx, 3))  : StpZ x nL pc lv (.ref (xb x + o0) :: rest) KDF M (pc + 3) lv (.int (f_X4_allBells o0 M) :: rest) KDF M :=
  w_callS (st := []) (As := [.ref (xb x + o0)]) X hR hN (CtX0 Z (c_X4_allBells hk0 )) ⟨Nat.le_refl _, Nat.le_refl _⟩ ⟨Nat.le_refl _, Nat.le_refl _⟩ hw mw_801 mw_70 mw_802 (n := 1) (by decide +kernel) rfl hdd (by decide) hrm hd
def b_X4_share_9 (o0 : Nat) (o1 : Nat) (s9 : Int32 × Mm) : Option ((Int32 × Mm) ⊕ (Mm)) :=
  (if (sl (1 : Int32) (s9.2 o1 2)) ≤ s9.1 then some (.inr s9.2) else (if (nI 64) ≤ s9.1 then some (.inr s9.2) else Lt ((s9.2 o1 2) - (f_J6_bitCount_0f7a4 s9.1)) (fun v4 => Bd (f_X4_firstBell o0 o1 v4 s9.1 s9.2) (fun r5 => Bd (f_X4_leastFrom o0 v4 r5 s9.1 o1 s9.2) (fun r6 => Gd (ib s9.1 64) (Lt (st2 s9.2 113 (ix s9.1) r6) (fun M8 => Lt (s9.1 + (1 : Int32)) (fun v9 => some (.inl (v9, M8))))))))))
def b_X4_share_71 (o0 : Nat) (o1 : Nat) (s71 : Int32 × Int32 × Mm) : Option ((Int32 × Int32 × Mm) ⊕ (Mm)) :=
  (if (s71.2.2 o1 2) ≤ s71.2.1 then some (.inr s71.2.2) else (if (6 : Int32) ≤ s71.2.1 then some (.inr s71.2.2) else Bd (f_X4_firstBell o0 o1 s71.2.1 s71.1 s71.2.2) (fun r14 => Gd (ib s71.2.1 6) (Lt (st2 s71.2.2 114 (ix s71.2.1) r14) (fun M16 => Gd (ib s71.2.1 6) (Lt (s71.1 &&& ((sl (1 : Int32) (M16 114 (ix s71.2.1))) ^^^ (-1 : Int32))) (fun v18 => Lt (s71.2.1 + (1 : Int32)) (fun v19 => some (.inl (v18, v19, M16))))))))))
def f_X4_share (o0 : Nat) (o1 : Nat) (M : Mm) : Option (Mm) :=
  Lt (st2 M 113 (ix (0 : Int32)) (0 : Int32)) (fun M1 => Bd (Lp (b_X4_share_9 o0 o1) 100000 ((1 : Int32), M1)) (fun e10 => Lt (f_X4_allBells o1 e10) (fun v11 => Bd (Lp (b_X4_share_71 o0 o1) 100000 (v11, (0 : Int32), e10)) (fun e20 => some e20))))
set_option maxRecDepth 100000 in
set_option maxHeartbeats 4000000 in
theorem c_X4_share {l : Launch} {D : va_G} {an : An} {b : Nat} {o0 : Nat} {o1 : Nat} (hk0 : KDF[o0]? = some (4, 0)) (hk1 : KDF[o1]? = some (9, 0)) {M : Mm} {M' : Mm} (h : f_X4_share o0 o1 M = some M') : Ct l D an b 0 yX4_share cX4_share 4 none 6 [.ref (b + o0), .ref (b + o1)] KDF M none KDF M' := by
  refine CtX.mk (as := fun b => [.ref (b + o0), .ref (b + o1)]) (rv := fun b => none) (by decide) (fun b => Nat.le_of_ble_eq_true rfl) ⟨Nat.le_refl _, Nat.le_refl _⟩ (fun x X hR Z hN _ _ => ?_)
  have X : Ok x cX4_share 4 RX4 none := X
  have G : Gz x 4 0 [(0, .ref (xb x + o0)), (1, .ref (xb x + o1))] [] KDF M (f_X4_share o0 o1 M) (PsM x KDF) := by
    unfold f_X4_share
    refine g1 (pc' := 1) (w_aload_n X dX4_share_0 rfl 0 rfl) ?_
    refine g1 (pc' := 4) (gt_4_0 X hk0 mw_287 dX4_share_1) ?_
    refine g1 (pc' := 5) (w_iconst X (0) dX4_share_4 (by decide)) ?_
    refine g1 (pc' := 6) (w_iconst X (0) dX4_share_5 (by decide)) ?_
    refine g_lt (pc' := 7) (fun M1 => [(0, .ref (xb x + o0)), (1, .ref (xb x + o1))]) (fun M1 => []) (fun M1 => M1) (w_iast X Z kd_113 (ib_lit (by decide)) dX4_share_6) (fun M1 => ?_)
    show Gz x 4 7 [(0, .ref (xb x + o0)), (1, .ref (xb x + o1))] [] KDF M1 _ _
    refine g1 (pc' := 8) (w_iconst X (1) dX4_share_7 (by decide)) ?_
    refine g1 (pc' := 9) (lv' := [(2, .int (1 : Int32)), (0, .ref (xb x + o0)), (1, .ref (xb x + o1))]) (w_istore_n X dX4_share_8 rfl (by decide) rfl) ?_
    refine g_pick (lv' := [(0, .ref (xb x + o0)), (1, .ref (xb x + o1)), (2, .int (1 : Int32))]) [1, 2, 0] rfl ?_
    refine g_bdJ (J := 64) (fun e10 => [(0, .ref (xb x + o0)), (1, .ref (xb x + o1))]) (fun e10 => []) (fun e10 => e10) (g_lp (fun s9 => [(0, .ref (xb x + o0)), (1, .ref (xb x + o1)), (2, .int s9.1)]) (fun s9 => s9.2) (fun s9 => ?_) 100000 ((1 : Int32), M1)) (fun e10 => ?_)
    · show Gz x 4 9 [(0, .ref (xb x + o0)), (1, .ref (xb x + o1)), (2, .int s9.1)] [] KDF s9.2 (b_X4_share_9 o0 o1 s9) _
      unfold b_X4_share_9
      refine g1 (pc' := 10) (w_iload_n X dX4_share_9 rfl 2 rfl) ?_
      refine g1 (pc' := 11) (w_iconst X (1) dX4_share_10 (by decide)) ?_
      refine g1 (pc' := 12) (w_aload_n X dX4_share_11 rfl 1 rfl) ?_
      refine g1 (pc' := 15) (gt_9_2 X hk1 mw_123 dX4_share_12) ?_
      refine g1 (pc' := 16) (w_ishl X dX4_share_15) ?_
      refine g_if (pcT := 64) (pcF := 19) (w_icmp_ge (tgt := 64) X dX4_share_16 (by decide)) (fun h2 => ?_) (fun h2 => ?_)
      · refine g_inr ?_
        exact g_end [0, 1] rfl rfl rfl
      · refine g1 (pc' := 20) (w_iload_n X dX4_share_19 rfl 2 rfl) ?_
        refine g1 (pc' := 21) (w_aload_n X dX4_share_20 rfl 0 rfl) ?_
        refine g1 (pc' := 24) (gt_4_0 X hk0 mw_287 dX4_share_21) ?_
        refine g1 (pc' := 25) (w_alen X kd_113 dX4_share_24) ?_
        refine g_if (pcT := 64) (pcF := 28) (w_icmp_ge (tgt := 64) X dX4_share_25 (by decide)) (fun h3 => ?_) (fun h3 => ?_)
        · refine g_inr ?_
          exact g_end [0, 1] rfl rfl rfl
        · refine g1 (pc' := 29) (w_aload_n X dX4_share_28 rfl 1 rfl) ?_
          refine g1 (pc' := 32) (gt_9_2 X hk1 mw_123 dX4_share_29) ?_
          refine g1 (pc' := 33) (w_iload_n X dX4_share_32 rfl 2 rfl) ?_
          refine g1 (pc' := 36) (k_J6_bitCount_0f7a4 X hR hN Z  mw_786 (by decide) (Nat.le_of_ble_eq_true rfl) dX4_share_33) ?_
          refine g1 (pc' := 37) (w_isub X dX4_share_36) ?_
          refine g_lt (pc' := 38) (fun v4 => [(3, .int v4), (0, .ref (xb x + o0)), (1, .ref (xb x + o1)), (2, .int s9.1)]) (fun v4 => []) (fun v4 => s9.2) (w_istore_n X dX4_share_37 rfl (by decide) rfl) (fun v4 => ?_)
          show Gz x 4 38 [(3, .int v4), (0, .ref (xb x + o0)), (1, .ref (xb x + o1)), (2, .int s9.1)] [] KDF s9.2 _ _
          refine g1 (pc' := 39) (w_aload_n X dX4_share_38 rfl 1 rfl) ?_
          refine g1 (pc' := 42) (gt_4_0 X hk0 mw_287 dX4_share_39) ?_
          refine g1 (pc' := 43) (w_iload_n X dX4_share_42 rfl 3 rfl) ?_
          refine g1 (pc' := 44) (w_aload_n X dX4_share_43 rfl 1 rfl) ?_
          refine g1 (pc' := 45) (w_iload_n X dX4_share_44 rfl 0 rfl) ?_
          refine g1 (pc' := 46) (w_aload_n X dX4_share_45 rfl 1 rfl) ?_
          refine g1 (pc' := 47) (w_aload_n X dX4_share_46 rfl 2 rfl) ?_
          refine g1 (pc' := 48) (w_iload_n X dX4_share_47 rfl 0 rfl) ?_
          refine g1 (pc' := 49) (w_iload_n X dX4_share_48 rfl 3 rfl) ?_
          refine g_bd (pc' := 52) (fun r5 => [(3, .int v4), (0, .ref (xb x + o0)), (1, .ref (xb x + o1)), (2, .int s9.1)]) (fun r5 => [.int r5, .int v4, .ref (xb x + o0), .int s9.1, .ref (xb x + 113)]) (fun r5 => s9.2) (fun r5 h => k_X4_firstBell X hR hN Z hk0 hk1 mw_787 (by decide) (Nat.le_of_ble_eq_true rfl) dX4_share_49 h) (fun r5 => ?_)
          show Gz x 4 52 [(3, .int v4), (0, .ref (xb x + o0)), (1, .ref (xb x + o1)), (2, .int s9.1)] [.int r5, .int v4, .ref (xb x + o0), .int s9.1, .ref (xb x + 113)] KDF s9.2 _ _
          refine g1 (pc' := 53) (w_iload_n X dX4_share_52 rfl 3 rfl) ?_
          refine g1 (pc' := 54) (w_aload_n X dX4_share_53 rfl 2 rfl) ?_
          refine g_bd (pc' := 57) (fun r6 => [(3, .int v4), (0, .ref (xb x + o0)), (1, .ref (xb x + o1)), (2, .int s9.1)]) (fun r6 => [.int r6, .int s9.1, .ref (xb x + 113)]) (fun r6 => s9.2) (fun r6 h => k_X4_leastFrom X hR hN Z hk0 hk1 mw_795 (by decide) (Nat.le_of_ble_eq_true rfl) dX4_share_54 h) (fun r6 => ?_)
          show Gz x 4 57 [(3, .int v4), (0, .ref (xb x + o0)), (1, .ref (xb x + o1)), (2, .int s9.1)] [.int r6, .int s9.1, .ref (xb x + 113)] KDF s9.2 _ _
          refine g_gd (fun h7 => ?_)
          refine g_lt (pc' := 58) (fun M8 => [(3, .int v4), (0, .ref (xb x + o0)), (1, .ref (xb x + o1)), (2, .int s9.1)]) (fun M8 => []) (fun M8 => M8) (w_iast X Z kd_113 h7 dX4_share_57) (fun M8 => ?_)
          show Gz x 4 58 [(3, .int v4), (0, .ref (xb x + o0)), (1, .ref (xb x + o1)), (2, .int s9.1)] [] KDF M8 _ _
          refine g_lt (pc' := 61) (fun v9 => [(2, .int v9), (3, .int v4), (0, .ref (xb x + o0)), (1, .ref (xb x + o1))]) (fun v9 => []) (fun v9 => M8) (w_iinc X dX4_share_58 3 rfl rfl (by decide) rfl) (fun v9 => ?_)
          show Gz x 4 61 [(2, .int v9), (3, .int v4), (0, .ref (xb x + o0)), (1, .ref (xb x + o1))] [] KDF M8 _ _
          refine g1 (pc' := 9) (w_goto X dX4_share_61 (by decide)) ?_
          refine g_inl ?_
          exact g_end [2, 3, 0] rfl rfl rfl
    · show Gz x 4 64 [(0, .ref (xb x + o0)), (1, .ref (xb x + o1))] [] KDF e10 _ _
      refine g1 (pc' := 65) (w_aload_n X dX4_share_64 rfl 1 rfl) ?_
      refine g1 (pc' := 68) (k_X4_allBells X hR hN Z hk1 mw_800 (by decide) (Nat.le_of_ble_eq_true rfl) dX4_share_65) ?_
      refine g_lt (pc' := 69) (fun v11 => [(2, .int v11), (0, .ref (xb x + o0)), (1, .ref (xb x + o1))]) (fun v11 => []) (fun v11 => e10) (w_istore_n X dX4_share_68 rfl (by decide) rfl) (fun v11 => ?_)
      show Gz x 4 69 [(2, .int v11), (0, .ref (xb x + o0)), (1, .ref (xb x + o1))] [] KDF e10 _ _
      refine g1 (pc' := 70) (w_iconst X (0) dX4_share_69 (by decide)) ?_
      refine g1 (pc' := 71) (lv' := [(3, .int (0 : Int32)), (2, .int v11), (0, .ref (xb x + o0)), (1, .ref (xb x + o1))]) (w_istore_n X dX4_share_70 rfl (by decide) rfl) ?_
      refine g_pick (lv' := [(0, .ref (xb x + o0)), (1, .ref (xb x + o1)), (2, .int v11), (3, .int (0 : Int32))]) [2, 3, 1, 0] rfl ?_
      refine g_bdJ (J := 117) (fun e20 => []) (fun e20 => []) (fun e20 => e20) (g_lp (fun s71 => [(0, .ref (xb x + o0)), (1, .ref (xb x + o1)), (2, .int s71.1), (3, .int s71.2.1)]) (fun s71 => s71.2.2) (fun s71 => ?_) 100000 (v11, (0 : Int32), e10)) (fun e20 => ?_)
      · show Gz x 4 71 [(0, .ref (xb x + o0)), (1, .ref (xb x + o1)), (2, .int s71.1), (3, .int s71.2.1)] [] KDF s71.2.2 (b_X4_share_71 o0 o1 s71) _
        unfold b_X4_share_71
        refine g1 (pc' := 72) (w_iload_n X dX4_share_71 rfl 3 rfl) ?_
        refine g1 (pc' := 73) (w_aload_n X dX4_share_72 rfl 1 rfl) ?_
        refine g1 (pc' := 76) (gt_9_2 X hk1 mw_123 dX4_share_73) ?_
        refine g_if (pcT := 117) (pcF := 79) (w_icmp_ge (tgt := 117) X dX4_share_76 (by decide)) (fun h12 => ?_) (fun h12 => ?_)
        · refine g_inr ?_
          exact g_end [] rfl rfl rfl
        · refine g1 (pc' := 80) (w_iload_n X dX4_share_79 rfl 3 rfl) ?_
          refine g1 (pc' := 82) (w_bipush X (6) dX4_share_80 (by decide)) ?_
          refine g_if (pcT := 117) (pcF := 85) (w_icmp_ge (tgt := 117) X dX4_share_82 (by decide)) (fun h13 => ?_) (fun h13 => ?_)
          · refine g_inr ?_
            exact g_end [] rfl rfl rfl
          · refine g1 (pc' := 86) (w_aload_n X dX4_share_85 rfl 0 rfl) ?_
            refine g1 (pc' := 89) (gt_4_1 X hk0 mw_288 dX4_share_86) ?_
            refine g1 (pc' := 90) (w_iload_n X dX4_share_89 rfl 3 rfl) ?_
            refine g1 (pc' := 91) (w_aload_n X dX4_share_90 rfl 0 rfl) ?_
            refine g1 (pc' := 92) (w_aload_n X dX4_share_91 rfl 1 rfl) ?_
            refine g1 (pc' := 93) (w_iload_n X dX4_share_92 rfl 3 rfl) ?_
            refine g1 (pc' := 94) (w_iload_n X dX4_share_93 rfl 2 rfl) ?_
            refine g_bd (pc' := 97) (fun r14 => [(0, .ref (xb x + o0)), (1, .ref (xb x + o1)), (2, .int s71.1), (3, .int s71.2.1)]) (fun r14 => [.int r14, .int s71.2.1, .ref (xb x + 114)]) (fun r14 => s71.2.2) (fun r14 h => k_X4_firstBell X hR hN Z hk0 hk1 mw_787 (by decide) (Nat.le_of_ble_eq_true rfl) dX4_share_94 h) (fun r14 => ?_)
            show Gz x 4 97 [(0, .ref (xb x + o0)), (1, .ref (xb x + o1)), (2, .int s71.1), (3, .int s71.2.1)] [.int r14, .int s71.2.1, .ref (xb x + 114)] KDF s71.2.2 _ _
            refine g_gd (fun h15 => ?_)
            refine g_lt (pc' := 98) (fun M16 => [(0, .ref (xb x + o0)), (1, .ref (xb x + o1)), (2, .int s71.1), (3, .int s71.2.1)]) (fun M16 => []) (fun M16 => M16) (w_iast X Z kd_114 h15 dX4_share_97) (fun M16 => ?_)
            show Gz x 4 98 [(0, .ref (xb x + o0)), (1, .ref (xb x + o1)), (2, .int s71.1), (3, .int s71.2.1)] [] KDF M16 _ _
            refine g1 (pc' := 99) (w_iload_n X dX4_share_98 rfl 2 rfl) ?_
            refine g1 (pc' := 100) (w_iconst X (1) dX4_share_99 (by decide)) ?_
            refine g1 (pc' := 101) (w_aload_n X dX4_share_100 rfl 0 rfl) ?_
            refine g1 (pc' := 104) (gt_4_1 X hk0 mw_288 dX4_share_101) ?_
            refine g1 (pc' := 105) (w_iload_n X dX4_share_104 rfl 3 rfl) ?_
            refine g_gd (fun h17 => ?_)
            refine g1 (pc' := 106) (w_iald X kd_114 h17 dX4_share_105) ?_
            refine g1 (pc' := 107) (w_ishl X dX4_share_106) ?_
            refine g1 (pc' := 108) (w_iconst X (-1) dX4_share_107 (by decide)) ?_
            refine g1 (pc' := 109) (w_ixor X dX4_share_108) ?_
            refine g1 (pc' := 110) (w_iand X dX4_share_109) ?_
            refine g_lt (pc' := 111) (fun v18 => [(2, .int v18), (0, .ref (xb x + o0)), (1, .ref (xb x + o1)), (3, .int s71.2.1)]) (fun v18 => []) (fun v18 => M16) (w_istore_n X dX4_share_110 rfl (by decide) rfl) (fun v18 => ?_)
            show Gz x 4 111 [(2, .int v18), (0, .ref (xb x + o0)), (1, .ref (xb x + o1)), (3, .int s71.2.1)] [] KDF M16 _ _
            refine g_lt (pc' := 114) (fun v19 => [(3, .int v19), (2, .int v18), (0, .ref (xb x + o0)), (1, .ref (xb x + o1))]) (fun v19 => []) (fun v19 => M16) (w_iinc X dX4_share_111 3 rfl rfl (by decide) rfl) (fun v19 => ?_)
            show Gz x 4 114 [(3, .int v19), (2, .int v18), (0, .ref (xb x + o0)), (1, .ref (xb x + o1))] [] KDF M16 _ _
            refine g1 (pc' := 71) (w_goto X dX4_share_114 (by decide)) ?_
            refine g_inl ?_
            exact g_end [2, 3, 1, 0] rfl rfl rfl
      · show Gz x 4 117 [] [] KDF e20 _ _
        exact g_rM X dX4_share_117
  exact G _ h _ rfl
theorem k_X4_share {x : Cxt} {cc : ByteArray} {nL : Nat} {own : String} {ret : Option FieldType} (X : Ok x cc nL own ret) {d : Nat} (hR : Rm x d KDF) (hN : Nst x) (Z : xz x = 0) {pc : Nat} {lv : List (Nat × Value)} {rest : List Value} {M : Mm} {o0 : Nat} {o1 : Nat} (hk0 : KDF[o0]? = some (4, 0)) (hk1 : KDF[o1]? = some (9, 0)) {idx : Nat} (hw : Cond.methodLink own idx yX4_share ∈ tbG) (hdd : 6 + 1 ≤ d) (hrm : (rest.map fun v => v.category).sum ≤ 8) (hd : decode cc pc = .ok (.invokevirtual idx, 3)) {M' : Mm} (h : f_X4_share o0 o1 M = some M') : StpZ x nL pc lv (.ref (xb x + o1) :: .ref (xb x + o0) :: rest) KDF M (pc + 3) lv (rest) KDF M' :=
  w_callV (st := []) (As := [.ref (xb x + o1)]) X hR hN (CtX0 Z (c_X4_share hk0 hk1 h)) ⟨Nat.le_refl _, Nat.le_refl _⟩ ⟨Nat.le_refl _, Nat.le_refl _⟩ hk0 (ci := 4) (fs := fs_4 o0) (fun _ _ _ => rfl) rfl hw mw_783 mw_784 mw_70 mw_785 (n := 1) (by decide +kernel) rfl hdd (by decide) hrm hd
def f_X4_leastTogether (o0 : Nat) (o1 : Nat) (M : Mm) : Option (Int32) :=
  Gd (ib (f_X4_allBells o1 M) 64) (some (M 113 (ix (f_X4_allBells o1 M))))
set_option maxRecDepth 100000 in
set_option maxHeartbeats 4000000 in
theorem c_X4_leastTogether {l : Launch} {D : va_G} {an : An} {b : Nat} {o0 : Nat} {o1 : Nat} (hk0 : KDF[o0]? = some (4, 0)) (hk1 : KDF[o1]? = some (9, 0)) {M : Mm} {r : Int32} (h : f_X4_leastTogether o0 o1 M = some r) : Ct l D an b 0 yX4_leastTogether cX4_leastTogether 2 (some .int) 3 [.ref (b + o0), .ref (b + o1)] KDF M (some (.int r)) KDF M := by
  refine CtX.mk (as := fun b => [.ref (b + o0), .ref (b + o1)]) (rv := fun b => (some (.int r))) (by decide) (fun b => Nat.le_of_ble_eq_true rfl) ⟨Nat.le_refl _, Nat.le_refl _⟩ (fun x X hR Z hN _ _ => ?_)
  have X : Ok x cX4_leastTogether 2 RX4 (some .int) := X
  have G : Gz x 2 0 [(0, .ref (xb x + o0)), (1, .ref (xb x + o1))] [] KDF M (f_X4_leastTogether o0 o1 M) (PsI x KDF M) := by
    unfold f_X4_leastTogether
    refine g1 (pc' := 1) (w_aload_n X dX4_leastTogether_0 rfl 0 rfl) ?_
    refine g1 (pc' := 4) (gt_4_0 X hk0 mw_287 dX4_leastTogether_1) ?_
    refine g1 (pc' := 5) (w_aload_n X dX4_leastTogether_4 rfl 1 rfl) ?_
    refine g1 (pc' := 8) (k_X4_allBells X hR hN Z hk1 mw_800 (by decide) (Nat.le_of_ble_eq_true rfl) dX4_leastTogether_5) ?_
    refine g_gd (fun h1 => ?_)
    refine g1 (pc' := 9) (w_iald X kd_113 h1 dX4_leastTogether_8) ?_
    exact g_rI X dX4_leastTogether_9
  exact G _ h _ rfl
theorem k_X4_leastTogether {x : Cxt} {cc : ByteArray} {nL : Nat} {own : String} {ret : Option FieldType} (X : Ok x cc nL own ret) {d : Nat} (hR : Rm x d KDF) (hN : Nst x) (Z : xz x = 0) {pc : Nat} {lv : List (Nat × Value)} {rest : List Value} {M : Mm} {o0 : Nat} {o1 : Nat} (hk0 : KDF[o0]? = some (4, 0)) (hk1 : KDF[o1]? = some (9, 0)) {idx : Nat} (hw : Cond.methodLink own idx yX4_leastTogether ∈ tbG) (hdd : 3 + 1 ≤ d) (hrm : (rest.map fun v => v.category).sum ≤ 8) (hd : decode cc pc = .ok (.invokevirtual idx, 3)) {r : Int32} (h : f_X4_leastTogether o0 o1 M = some r) : StpZ x nL pc lv (.ref (xb x + o1) :: .ref (xb x + o0) :: rest) KDF M (pc + 3) lv (.int r :: rest) KDF M :=
  w_callV (st := []) (As := [.ref (xb x + o1)]) X hR hN (CtX0 Z (c_X4_leastTogether hk0 hk1 h)) ⟨Nat.le_refl _, Nat.le_refl _⟩ ⟨Nat.le_refl _, Nat.le_refl _⟩ hk0 (ci := 4) (fs := fs_4 o0) (fun _ _ _ => rfl) rfl hw mw_805 mw_806 mw_70 mw_807 (n := 1) (by decide +kernel) rfl hdd (by decide) hrm hd
def f_X4_bellFor (o0 : Nat) (x1 : Int32) (M : Mm) : Option (Int32) :=
  (if x1 < 0 then some (-1 : Int32) else (if (6 : Int32) ≤ x1 then some (-1 : Int32) else Gd (ib x1 6) (some (M 114 (ix x1)))))
set_option maxRecDepth 100000 in
set_option maxHeartbeats 4000000 in
theorem c_X4_bellFor {l : Launch} {D : va_G} {an : An} {b : Nat} {o0 : Nat} {x1 : Int32} (hk0 : KDF[o0]? = some (4, 0)) {M : Mm} {r : Int32} (h : f_X4_bellFor o0 x1 M = some r) : Ct l D an b 0 yX4_bellFor cX4_bellFor 2 (some .int) 1 [.ref (b + o0), .int x1] KDF M (some (.int r)) KDF M := by
  refine CtX.mk (as := fun b => [.ref (b + o0), .int x1]) (rv := fun b => (some (.int r))) (by decide) (fun b => Nat.le_of_ble_eq_true rfl) ⟨Nat.le_refl _, Nat.le_refl _⟩ (fun x X hR Z hN _ _ => ?_)
  have X : Ok x cX4_bellFor 2 RX4 (some .int) := X
  have G : Gz x 2 0 [(0, .ref (xb x + o0)), (1, .int x1)] [] KDF M (f_X4_bellFor o0 x1 M) (PsI x KDF M) := by
    unfold f_X4_bellFor
    refine g1 (pc' := 1) (w_iload_n X dX4_bellFor_0 rfl 1 rfl) ?_
    refine g_if (pcT := 19) (pcF := 4) (w_if_lt (tgt := 19) X dX4_bellFor_1 (by decide)) (fun h1 => ?_) (fun h1 => ?_)
    · refine g1 (pc' := 20) (w_iconst X (-1) dX4_bellFor_19 (by decide)) ?_
      exact g_rI X dX4_bellFor_20
    · refine g1 (pc' := 5) (w_iload_n X dX4_bellFor_4 rfl 1 rfl) ?_
      refine g1 (pc' := 7) (w_bipush X (6) dX4_bellFor_5 (by decide)) ?_
      refine g_if (pcT := 19) (pcF := 10) (w_icmp_ge (tgt := 19) X dX4_bellFor_7 (by decide)) (fun h2 => ?_) (fun h2 => ?_)
      · refine g1 (pc' := 20) (w_iconst X (-1) dX4_bellFor_19 (by decide)) ?_
        exact g_rI X dX4_bellFor_20
      · refine g1 (pc' := 11) (w_aload_n X dX4_bellFor_10 rfl 0 rfl) ?_
        refine g1 (pc' := 14) (gt_4_1 X hk0 mw_288 dX4_bellFor_11) ?_
        refine g1 (pc' := 15) (w_iload_n X dX4_bellFor_14 rfl 1 rfl) ?_
        refine g_gd (fun h3 => ?_)
        refine g1 (pc' := 16) (w_iald X kd_114 h3 dX4_bellFor_15) ?_
        refine g1 (pc' := 20) (w_goto X dX4_bellFor_16 (by decide)) ?_
        exact g_rI X dX4_bellFor_20
  exact G _ h _ rfl
theorem k_X4_bellFor {x : Cxt} {cc : ByteArray} {nL : Nat} {own : String} {ret : Option FieldType} (X : Ok x cc nL own ret) {d : Nat} (hR : Rm x d KDF) (hN : Nst x) (Z : xz x = 0) {pc : Nat} {lv : List (Nat × Value)} {rest : List Value} {M : Mm} {o0 : Nat} {x1 : Int32} (hk0 : KDF[o0]? = some (4, 0)) {idx : Nat} (hw : Cond.methodLink own idx yX4_bellFor ∈ tbG) (hdd : 1 + 1 ≤ d) (hrm : (rest.map fun v => v.category).sum ≤ 8) (hd : decode cc pc = .ok (.invokevirtual idx, 3)) {r : Int32} (h : f_X4_bellFor o0 x1 M = some r) : StpZ x nL pc lv (.int x1 :: .ref (xb x + o0) :: rest) KDF M (pc + 3) lv (.int r :: rest) KDF M :=
  w_callV (st := []) (As := [.int x1]) X hR hN (CtX0 Z (c_X4_bellFor hk0 h)) ⟨Nat.le_refl _, Nat.le_refl _⟩ ⟨Nat.le_refl _, Nat.le_refl _⟩ hk0 (ci := 4) (fs := fs_4 o0) (fun _ _ _ => rfl) rfl hw mw_809 mw_810 mw_70 mw_811 (n := 1) (by decide +kernel) rfl hdd (by decide) hrm hd
def b_X5_figures_4 (x0 : Int32) (x1 : Int32) (s4 : Int32 × Int32) : Option ((Int32 × Int32) ⊕ (Int32)) :=
  (if x1 ≤ s4.2 then some (.inr s4.1) else Lt (((s4.1 * (10 : Int32)) + (f_X5_bellIn x0 s4.2)) + (1 : Int32)) (fun v2 => Lt (s4.2 + (1 : Int32)) (fun v3 => some (.inl (v2, v3)))))
def f_X5_figures (x0 : Int32) (x1 : Int32) : Option (Int32) :=
  Bd (Lp (b_X5_figures_4 x0 x1) 100000 ((0 : Int32), (0 : Int32))) (fun e4 => some e4)
set_option maxRecDepth 100000 in
set_option maxHeartbeats 4000000 in
theorem c_X5_figures {l : Launch} {D : va_G} {an : An} {b : Nat} {x0 : Int32} {x1 : Int32}  {M : Mm} {r : Int32} (h : f_X5_figures x0 x1 = some r) : Ct l D an b 0 yX5_figures cX5_figures 4 (some .int) 2 [.int x0, .int x1] KDF M (some (.int r)) KDF M := by
  refine CtX.mk (as := fun b => [.int x0, .int x1]) (rv := fun b => (some (.int r))) (by decide) (fun b => Nat.le_of_ble_eq_true rfl) ⟨Nat.le_refl _, Nat.le_refl _⟩ (fun x X hR Z hN _ _ => ?_)
  have X : Ok x cX5_figures 4 RX5 (some .int) := X
  have G : Gz x 4 0 [(0, .int x0), (1, .int x1)] [] KDF M (f_X5_figures x0 x1) (PsI x KDF M) := by
    unfold f_X5_figures
    refine g1 (pc' := 1) (w_iconst X (0) dX5_figures_0 (by decide)) ?_
    refine g1 (pc' := 2) (lv' := [(2, .int (0 : Int32)), (0, .int x0), (1, .int x1)]) (w_istore_n X dX5_figures_1 rfl (by decide) rfl) ?_
    refine g1 (pc' := 3) (w_iconst X (0) dX5_figures_2 (by decide)) ?_
    refine g1 (pc' := 4) (lv' := [(3, .int (0 : Int32)), (2, .int (0 : Int32)), (0, .int x0), (1, .int x1)]) (w_istore_n X dX5_figures_3 rfl (by decide) rfl) ?_
    refine g_pick (lv' := [(0, .int x0), (1, .int x1), (2, .int (0 : Int32)), (3, .int (0 : Int32))]) [2, 3, 1, 0] rfl ?_
    refine g_bdJ (J := 28) (fun e4 => [(2, .int e4)]) (fun e4 => []) (fun e4 => M) (g_lp (fun s4 => [(0, .int x0), (1, .int x1), (2, .int s4.1), (3, .int s4.2)]) (fun s4 => M) (fun s4 => ?_) 100000 ((0 : Int32), (0 : Int32))) (fun e4 => ?_)
    · show Gz x 4 4 [(0, .int x0), (1, .int x1), (2, .int s4.1), (3, .int s4.2)] [] KDF M (b_X5_figures_4 x0 x1 s4) _
      unfold b_X5_figures_4
      refine g1 (pc' := 5) (w_iload_n X dX5_figures_4 rfl 3 rfl) ?_
      refine g1 (pc' := 6) (w_iload_n X dX5_figures_5 rfl 1 rfl) ?_
      refine g_if (pcT := 28) (pcF := 9) (w_icmp_ge (tgt := 28) X dX5_figures_6 (by decide)) (fun h1 => ?_) (fun h1 => ?_)
      · refine g_inr ?_
        exact g_end [2] rfl rfl rfl
      · refine g1 (pc' := 10) (w_iload_n X dX5_figures_9 rfl 2 rfl) ?_
        refine g1 (pc' := 12) (w_bipush X (10) dX5_figures_10 (by decide)) ?_
        refine g1 (pc' := 13) (w_imul X dX5_figures_12) ?_
        refine g1 (pc' := 14) (w_iload_n X dX5_figures_13 rfl 0 rfl) ?_
        refine g1 (pc' := 15) (w_iload_n X dX5_figures_14 rfl 3 rfl) ?_
        refine g1 (pc' := 18) (k_X5_bellIn X hR hN Z  mw_515 (by decide) (Nat.le_of_ble_eq_true rfl) dX5_figures_15) ?_
        refine g1 (pc' := 19) (w_iadd X dX5_figures_18) ?_
        refine g1 (pc' := 20) (w_iconst X (1) dX5_figures_19 (by decide)) ?_
        refine g1 (pc' := 21) (w_iadd X dX5_figures_20) ?_
        refine g_lt (pc' := 22) (fun v2 => [(2, .int v2), (0, .int x0), (1, .int x1), (3, .int s4.2)]) (fun v2 => []) (fun v2 => M) (w_istore_n X dX5_figures_21 rfl (by decide) rfl) (fun v2 => ?_)
        show Gz x 4 22 [(2, .int v2), (0, .int x0), (1, .int x1), (3, .int s4.2)] [] KDF M _ _
        refine g_lt (pc' := 25) (fun v3 => [(3, .int v3), (2, .int v2), (0, .int x0), (1, .int x1)]) (fun v3 => []) (fun v3 => M) (w_iinc X dX5_figures_22 3 rfl rfl (by decide) rfl) (fun v3 => ?_)
        show Gz x 4 25 [(3, .int v3), (2, .int v2), (0, .int x0), (1, .int x1)] [] KDF M _ _
        refine g1 (pc' := 4) (w_goto X dX5_figures_25 (by decide)) ?_
        refine g_inl ?_
        exact g_end [2, 3, 1, 0] rfl rfl rfl
    · show Gz x 4 28 [(2, .int e4)] [] KDF M _ _
      refine g1 (pc' := 29) (w_iload_n X dX5_figures_28 rfl 0 rfl) ?_
      exact g_rI X dX5_figures_29
  exact G _ h _ rfl
theorem k_X5_figures {x : Cxt} {cc : ByteArray} {nL : Nat} {own : String} {ret : Option FieldType} (X : Ok x cc nL own ret) {d : Nat} (hR : Rm x d KDF) (hN : Nst x) (Z : xz x = 0) {pc : Nat} {lv : List (Nat × Value)} {rest : List Value} {M : Mm} {x0 : Int32} {x1 : Int32}  {idx : Nat} (hw : Cond.methodLink own idx yX5_figures ∈ tbG) (hdd : 2 + 1 ≤ d) (hrm : (rest.map fun v => v.category).sum ≤ 8) (hd : decode cc pc = .ok (.invokestatic idx, 3)) {r : Int32} (h : f_X5_figures x0 x1 = some r) : StpZ x nL pc lv (.int x1 :: .int x0 :: rest) KDF M (pc + 3) lv (.int r :: rest) KDF M :=
  w_callS (st := []) (As := [.int x0, .int x1]) X hR hN (CtX0 Z (c_X5_figures  h)) ⟨Nat.le_refl _, Nat.le_refl _⟩ ⟨Nat.le_refl _, Nat.le_refl _⟩ hw mw_513 mw_73 mw_514 (n := 2) (by decide +kernel) rfl hdd (by decide) hrm hd
def b_X5_fromFigures_12 (x1 : Int32) (s12 : Int32 × Int32 × Int32 × Int32) : Option ((Int32 × Int32 × Int32 × Int32) ⊕ ((Int32) ⊕ (Int32 × Int32))) :=
  (if s12.2.2.2 < 0 then some (.inr (.inr (s12.1, s12.2.2.1))) else Lt ((rm s12.2.2.1 (10 : Int32)) - (1 : Int32)) (fun v3 => (if v3 < 0 then some (.inr (.inl (-1 : Int32))) else (if x1 ≤ v3 then some (.inr (.inl (-1 : Int32))) else (if ((sr s12.2.1 v3) &&& (1 : Int32)) = 0 then Lt (s12.2.1 ||| (sl (1 : Int32) v3)) (fun v7 => Lt (s12.1 ||| (sl v3 ((3 : Int32) * s12.2.2.2))) (fun v8 => Lt (s12.2.2.1 / (10 : Int32)) (fun v9 => Lt (s12.2.2.2 + (-1 : Int32)) (fun v10 => some (.inl (v8, v7, v9, v10)))))) else some (.inr (.inl (-1 : Int32))))))))
def f_X5_fromFigures (x0 : Int32) (x1 : Int32) : Option (Int32) :=
  Lt (x1 - (1 : Int32)) (fun v1 => BdS (Lp (b_X5_fromFigures_12 x1) 100000 ((0 : Int32), (0 : Int32), x0, v1)) (fun e11 => (if x1 ≤ 0 then some (-1 : Int32) else (if e11.2 = 0 then some e11.1 else some (-1 : Int32)))))
set_option maxRecDepth 100000 in
set_option maxHeartbeats 4000000 in
theorem c_X5_fromFigures {l : Launch} {D : va_G} {an : An} {b : Nat} {x0 : Int32} {x1 : Int32}  {M : Mm} {r : Int32} (h : f_X5_fromFigures x0 x1 = some r) : Ct l D an b 0 yX5_fromFigures cX5_fromFigures 7 (some .int) 1 [.int x0, .int x1] KDF M (some (.int r)) KDF M := by
  refine CtX.mk (as := fun b => [.int x0, .int x1]) (rv := fun b => (some (.int r))) (by decide) (fun b => Nat.le_of_ble_eq_true rfl) ⟨Nat.le_refl _, Nat.le_refl _⟩ (fun x X hR Z hN _ _ => ?_)
  have X : Ok x cX5_fromFigures 7 RX5 (some .int) := X
  have G : Gz x 7 0 [(0, .int x0), (1, .int x1)] [] KDF M (f_X5_fromFigures x0 x1) (PsI x KDF M) := by
    unfold f_X5_fromFigures
    refine g1 (pc' := 1) (w_iconst X (0) dX5_fromFigures_0 (by decide)) ?_
    refine g1 (pc' := 2) (lv' := [(2, .int (0 : Int32)), (0, .int x0), (1, .int x1)]) (w_istore_n X dX5_fromFigures_1 rfl (by decide) rfl) ?_
    refine g1 (pc' := 3) (w_iconst X (0) dX5_fromFigures_2 (by decide)) ?_
    refine g1 (pc' := 4) (lv' := [(3, .int (0 : Int32)), (2, .int (0 : Int32)), (0, .int x0), (1, .int x1)]) (w_istore_n X dX5_fromFigures_3 rfl (by decide) rfl) ?_
    refine g1 (pc' := 5) (w_iload_n X dX5_fromFigures_4 rfl 2 rfl) ?_
    refine g1 (pc' := 7) (lv' := [(4, .int x0), (3, .int (0 : Int32)), (2, .int (0 : Int32)), (0, .int x0), (1, .int x1)]) (w_istore X dX5_fromFigures_5 (by decide) rfl) ?_
    refine g1 (pc' := 8) (w_iload_n X dX5_fromFigures_7 rfl 4 rfl) ?_
    refine g1 (pc' := 9) (w_iconst X (1) dX5_fromFigures_8 (by decide)) ?_
    refine g1 (pc' := 10) (w_isub X dX5_fromFigures_9) ?_
    refine g_lt (pc' := 12) (fun v1 => [(5, .int v1), (4, .int x0), (3, .int (0 : Int32)), (2, .int (0 : Int32)), (0, .int x0), (1, .int x1)]) (fun v1 => []) (fun v1 => M) (w_istore X dX5_fromFigures_10 (by decide) rfl) (fun v1 => ?_)
    show Gz x 7 12 [(5, .int v1), (4, .int x0), (3, .int (0 : Int32)), (2, .int (0 : Int32)), (0, .int x0), (1, .int x1)] [] KDF M _ _
    refine g_pick (lv' := [(1, .int x1), (2, .int (0 : Int32)), (3, .int (0 : Int32)), (4, .int x0), (5, .int v1)]) [5, 3, 2, 1, 0] rfl ?_
    refine g_bdS (J := 78) (fun e11 => [(1, .int x1), (2, .int e11.1), (4, .int e11.2)]) (fun e11 => []) (fun e11 => M) (g_lp (fun s12 => [(1, .int x1), (2, .int s12.1), (3, .int s12.2.1), (4, .int s12.2.2.1), (5, .int s12.2.2.2)]) (fun s12 => M) (fun s12 => ?_) 100000 ((0 : Int32), (0 : Int32), x0, v1)) (fun e11 => ?_)
    · show Gz x 7 12 [(1, .int x1), (2, .int s12.1), (3, .int s12.2.1), (4, .int s12.2.2.1), (5, .int s12.2.2.2)] [] KDF M (b_X5_fromFigures_12 x1 s12) _
      unfold b_X5_fromFigures_12
      refine g1 (pc' := 14) (w_iload X dX5_fromFigures_12 4 rfl) ?_
      refine g_if (pcT := 78) (pcF := 17) (w_if_lt (tgt := 78) X dX5_fromFigures_14 (by decide)) (fun h2 => ?_) (fun h2 => ?_)
      · refine g_inr ?_
        refine g_inr ?_
        exact g_end [0, 1, 3] rfl rfl rfl
      · refine g1 (pc' := 19) (w_iload X dX5_fromFigures_17 3 rfl) ?_
        refine g1 (pc' := 21) (w_bipush X (10) dX5_fromFigures_19 (by decide)) ?_
        refine g1 (pc' := 22) (w_irem X dX5_fromFigures_21 (by decide)) ?_
        refine g1 (pc' := 23) (w_iconst X (1) dX5_fromFigures_22 (by decide)) ?_
        refine g1 (pc' := 24) (w_isub X dX5_fromFigures_23) ?_
        refine g_lt (pc' := 26) (fun v3 => [(6, .int v3), (1, .int x1), (2, .int s12.1), (3, .int s12.2.1), (4, .int s12.2.2.1), (5, .int s12.2.2.2)]) (fun v3 => []) (fun v3 => M) (w_istore X dX5_fromFigures_24 (by decide) rfl) (fun v3 => ?_)
        show Gz x 7 26 [(6, .int v3), (1, .int x1), (2, .int s12.1), (3, .int s12.2.1), (4, .int s12.2.2.1), (5, .int s12.2.2.2)] [] KDF M _ _
        refine g1 (pc' := 28) (w_iload X dX5_fromFigures_26 0 rfl) ?_
        refine g_if (pcT := 46) (pcF := 31) (w_if_lt (tgt := 46) X dX5_fromFigures_28 (by decide)) (fun h4 => ?_) (fun h4 => ?_)
        · refine g1 (pc' := 47) (w_iconst X (-1) dX5_fromFigures_46 (by decide)) ?_
          refine g_inr ?_
          refine g_inl ?_
          exact g_rI X dX5_fromFigures_47
        · refine g1 (pc' := 33) (w_iload X dX5_fromFigures_31 0 rfl) ?_
          refine g1 (pc' := 34) (w_iload_n X dX5_fromFigures_33 rfl 1 rfl) ?_
          refine g_if (pcT := 46) (pcF := 37) (w_icmp_ge (tgt := 46) X dX5_fromFigures_34 (by decide)) (fun h5 => ?_) (fun h5 => ?_)
          · refine g1 (pc' := 47) (w_iconst X (-1) dX5_fromFigures_46 (by decide)) ?_
            refine g_inr ?_
            refine g_inl ?_
            exact g_rI X dX5_fromFigures_47
          · refine g1 (pc' := 38) (w_iload_n X dX5_fromFigures_37 rfl 3 rfl) ?_
            refine g1 (pc' := 40) (w_iload X dX5_fromFigures_38 0 rfl) ?_
            refine g1 (pc' := 41) (w_ishr X dX5_fromFigures_40) ?_
            refine g1 (pc' := 42) (w_iconst X (1) dX5_fromFigures_41 (by decide)) ?_
            refine g1 (pc' := 43) (w_iand X dX5_fromFigures_42) ?_
            refine g_if (pcT := 48) (pcF := 46) (w_if_eq (tgt := 48) X dX5_fromFigures_43 (by decide)) (fun h6 => ?_) (fun h6 => ?_)
            · refine g1 (pc' := 49) (w_iload_n X dX5_fromFigures_48 rfl 3 rfl) ?_
              refine g1 (pc' := 50) (w_iconst X (1) dX5_fromFigures_49 (by decide)) ?_
              refine g1 (pc' := 52) (w_iload X dX5_fromFigures_50 0 rfl) ?_
              refine g1 (pc' := 53) (w_ishl X dX5_fromFigures_52) ?_
              refine g1 (pc' := 54) (w_ior X dX5_fromFigures_53) ?_
              refine g_lt (pc' := 55) (fun v7 => [(3, .int v7), (6, .int v3), (1, .int x1), (2, .int s12.1), (4, .int s12.2.2.1), (5, .int s12.2.2.2)]) (fun v7 => []) (fun v7 => M) (w_istore_n X dX5_fromFigures_54 rfl (by decide) rfl) (fun v7 => ?_)
              show Gz x 7 55 [(3, .int v7), (6, .int v3), (1, .int x1), (2, .int s12.1), (4, .int s12.2.2.1), (5, .int s12.2.2.2)] [] KDF M _ _
              refine g1 (pc' := 56) (w_iload_n X dX5_fromFigures_55 rfl 3 rfl) ?_
              refine g1 (pc' := 58) (w_iload X dX5_fromFigures_56 1 rfl) ?_
              refine g1 (pc' := 59) (w_iconst X (3) dX5_fromFigures_58 (by decide)) ?_
              refine g1 (pc' := 61) (w_iload X dX5_fromFigures_59 5 rfl) ?_
              refine g1 (pc' := 62) (w_imul X dX5_fromFigures_61) ?_
              refine g1 (pc' := 63) (w_ishl X dX5_fromFigures_62) ?_
              refine g1 (pc' := 64) (w_ior X dX5_fromFigures_63) ?_
              refine g_lt (pc' := 65) (fun v8 => [(2, .int v8), (3, .int v7), (6, .int v3), (1, .int x1), (4, .int s12.2.2.1), (5, .int s12.2.2.2)]) (fun v8 => []) (fun v8 => M) (w_istore_n X dX5_fromFigures_64 rfl (by decide) rfl) (fun v8 => ?_)
              show Gz x 7 65 [(2, .int v8), (3, .int v7), (6, .int v3), (1, .int x1), (4, .int s12.2.2.1), (5, .int s12.2.2.2)] [] KDF M _ _
              refine g1 (pc' := 67) (w_iload X dX5_fromFigures_65 4 rfl) ?_
              refine g1 (pc' := 69) (w_bipush X (10) dX5_fromFigures_67 (by decide)) ?_
              refine g1 (pc' := 70) (w_idiv X dX5_fromFigures_69 (by decide)) ?_
              refine g_lt (pc' := 72) (fun v9 => [(4, .int v9), (2, .int v8), (3, .int v7), (6, .int v3), (1, .int x1), (5, .int s12.2.2.2)]) (fun v9 => []) (fun v9 => M) (w_istore X dX5_fromFigures_70 (by decide) rfl) (fun v9 => ?_)
              show Gz x 7 72 [(4, .int v9), (2, .int v8), (3, .int v7), (6, .int v3), (1, .int x1), (5, .int s12.2.2.2)] [] KDF M _ _
              refine g_lt (pc' := 75) (fun v10 => [(5, .int v10), (4, .int v9), (2, .int v8), (3, .int v7), (6, .int v3), (1, .int x1)]) (fun v10 => []) (fun v10 => M) (w_iinc X dX5_fromFigures_72 5 rfl rfl (by decide) rfl) (fun v10 => ?_)
              show Gz x 7 75 [(5, .int v10), (4, .int v9), (2, .int v8), (3, .int v7), (6, .int v3), (1, .int x1)] [] KDF M _ _
              refine g1 (pc' := 12) (w_goto X dX5_fromFigures_75 (by decide)) ?_
              refine g_inl ?_
              exact g_end [5, 2, 3, 1, 0] rfl rfl rfl
            · refine g1 (pc' := 47) (w_iconst X (-1) dX5_fromFigures_46 (by decide)) ?_
              refine g_inr ?_
              refine g_inl ?_
              exact g_rI X dX5_fromFigures_47
    · show Gz x 7 78 [(1, .int x1), (2, .int e11.1), (4, .int e11.2)] [] KDF M _ _
      refine g1 (pc' := 79) (w_iload_n X dX5_fromFigures_78 rfl 0 rfl) ?_
      refine g_if (pcT := 91) (pcF := 82) (w_if_le (tgt := 91) X dX5_fromFigures_79 (by decide)) (fun h12 => ?_) (fun h12 => ?_)
      · refine g1 (pc' := 92) (w_iconst X (-1) dX5_fromFigures_91 (by decide)) ?_
        exact g_rI X dX5_fromFigures_92
      · refine g1 (pc' := 84) (w_iload X dX5_fromFigures_82 2 rfl) ?_
        refine g_if (pcT := 87) (pcF := 91) (w_if_ne (tgt := 91) X dX5_fromFigures_84 (by decide)) (fun h13 => ?_) (fun h13 => ?_)
        · refine g1 (pc' := 88) (w_iload_n X dX5_fromFigures_87 rfl 1 rfl) ?_
          refine g1 (pc' := 92) (w_goto X dX5_fromFigures_88 (by decide)) ?_
          exact g_rI X dX5_fromFigures_92
        · refine g1 (pc' := 92) (w_iconst X (-1) dX5_fromFigures_91 (by decide)) ?_
          exact g_rI X dX5_fromFigures_92
  exact G _ h _ rfl
theorem k_X5_fromFigures {x : Cxt} {cc : ByteArray} {nL : Nat} {own : String} {ret : Option FieldType} (X : Ok x cc nL own ret) {d : Nat} (hR : Rm x d KDF) (hN : Nst x) (Z : xz x = 0) {pc : Nat} {lv : List (Nat × Value)} {rest : List Value} {M : Mm} {x0 : Int32} {x1 : Int32}  {idx : Nat} (hw : Cond.methodLink own idx yX5_fromFigures ∈ tbG) (hdd : 1 + 1 ≤ d) (hrm : (rest.map fun v => v.category).sum ≤ 8) (hd : decode cc pc = .ok (.invokestatic idx, 3)) {r : Int32} (h : f_X5_fromFigures x0 x1 = some r) : StpZ x nL pc lv (.int x1 :: .int x0 :: rest) KDF M (pc + 3) lv (.int r :: rest) KDF M :=
  w_callS (st := []) (As := [.int x0, .int x1]) X hR hN (CtX0 Z (c_X5_fromFigures  h)) ⟨Nat.le_refl _, Nat.le_refl _⟩ ⟨Nat.le_refl _, Nat.le_refl _⟩ hw mw_828 mw_73 mw_829 (n := 2) (by decide +kernel) rfl hdd (by decide) hrm hd
def b_X5_placesAlike_5 (x0 : Int32) (x1 : Int32) (x2 : Int32) (s5 : Int32 × Int32) : Option ((Int32 × Int32) ⊕ (Int32)) :=
  (if x2 ≤ s5.2 then some (.inr s5.1) else Lt (((if (f_X5_bellIn x0 s5.2) = (f_X5_bellIn x1 s5.2) then Lt (s5.1 ||| (sl (1 : Int32) s5.2)) (fun v4 => v4) else s5.1)) : Int32) (fun j2 => Lt (s5.2 + (1 : Int32)) (fun v5 => some (.inl (j2, v5)))))
def f_X5_placesAlike (x0 : Int32) (x1 : Int32) (x2 : Int32) : Option (Int32) :=
  Bd (Lp (b_X5_placesAlike_5 x0 x1 x2) 100000 ((0 : Int32), (0 : Int32))) (fun e6 => some e6)
set_option maxRecDepth 100000 in
set_option maxHeartbeats 4000000 in
theorem c_X5_placesAlike {l : Launch} {D : va_G} {an : An} {b : Nat} {x0 : Int32} {x1 : Int32} {x2 : Int32}  {M : Mm} {r : Int32} (h : f_X5_placesAlike x0 x1 x2 = some r) : Ct l D an b 0 yX5_placesAlike cX5_placesAlike 5 (some .int) 2 [.int x0, .int x1, .int x2] KDF M (some (.int r)) KDF M := by
  refine CtX.mk (as := fun b => [.int x0, .int x1, .int x2]) (rv := fun b => (some (.int r))) (by decide) (fun b => Nat.le_of_ble_eq_true rfl) ⟨Nat.le_refl _, Nat.le_refl _⟩ (fun x X hR Z hN _ _ => ?_)
  have X : Ok x cX5_placesAlike 5 RX5 (some .int) := X
  have G : Gz x 5 0 [(0, .int x0), (1, .int x1), (2, .int x2)] [] KDF M (f_X5_placesAlike x0 x1 x2) (PsI x KDF M) := by
    unfold f_X5_placesAlike
    refine g1 (pc' := 1) (w_iconst X (0) dX5_placesAlike_0 (by decide)) ?_
    refine g1 (pc' := 2) (lv' := [(3, .int (0 : Int32)), (0, .int x0), (1, .int x1), (2, .int x2)]) (w_istore_n X dX5_placesAlike_1 rfl (by decide) rfl) ?_
    refine g1 (pc' := 3) (w_iconst X (0) dX5_placesAlike_2 (by decide)) ?_
    refine g1 (pc' := 5) (lv' := [(4, .int (0 : Int32)), (3, .int (0 : Int32)), (0, .int x0), (1, .int x1), (2, .int x2)]) (w_istore X dX5_placesAlike_3 (by decide) rfl) ?_
    refine g_pick (lv' := [(0, .int x0), (1, .int x1), (2, .int x2), (3, .int (0 : Int32)), (4, .int (0 : Int32))]) [2, 3, 4, 1, 0] rfl ?_
    refine g_bdJ (J := 39) (fun e6 => [(3, .int e6)]) (fun e6 => []) (fun e6 => M) (g_lp (fun s5 => [(0, .int x0), (1, .int x1), (2, .int x2), (3, .int s5.1), (4, .int s5.2)]) (fun s5 => M) (fun s5 => ?_) 100000 ((0 : Int32), (0 : Int32))) (fun e6 => ?_)
    · show Gz x 5 5 [(0, .int x0), (1, .int x1), (2, .int x2), (3, .int s5.1), (4, .int s5.2)] [] KDF M (b_X5_placesAlike_5 x0 x1 x2 s5) _
      unfold b_X5_placesAlike_5
      refine g1 (pc' := 7) (w_iload X dX5_placesAlike_5 4 rfl) ?_
      refine g1 (pc' := 8) (w_iload_n X dX5_placesAlike_7 rfl 2 rfl) ?_
      refine g_if (pcT := 39) (pcF := 11) (w_icmp_ge (tgt := 39) X dX5_placesAlike_8 (by decide)) (fun h1 => ?_) (fun h1 => ?_)
      · refine g_inr ?_
        exact g_end [3] rfl rfl rfl
      · refine g1 (pc' := 12) (w_iload_n X dX5_placesAlike_11 rfl 0 rfl) ?_
        refine g1 (pc' := 14) (w_iload X dX5_placesAlike_12 4 rfl) ?_
        refine g1 (pc' := 17) (k_X5_bellIn X hR hN Z  mw_515 (by decide) (Nat.le_of_ble_eq_true rfl) dX5_placesAlike_14) ?_
        refine g1 (pc' := 18) (w_iload_n X dX5_placesAlike_17 rfl 1 rfl) ?_
        refine g1 (pc' := 20) (w_iload X dX5_placesAlike_18 4 rfl) ?_
        refine g1 (pc' := 23) (k_X5_bellIn X hR hN Z  mw_515 (by decide) (Nat.le_of_ble_eq_true rfl) dX5_placesAlike_20) ?_
        refine g_ltJ (J := 33) (fun j2 => [(0, .int x0), (1, .int x1), (2, .int x2), (3, .int j2), (4, .int s5.2)]) (fun j2 => []) (fun j2 => M) ?_ (fun j2 => ?_)
        · refine g_ifS (pcT := 26) (pcF := 33) (w_icmp_ne (tgt := 33) X dX5_placesAlike_23 (by decide)) (fun h3 => ?_) (fun h3 => ?_)
          · refine g1 (pc' := 27) (w_iload_n X dX5_placesAlike_26 rfl 3 rfl) ?_
            refine g1 (pc' := 28) (w_iconst X (1) dX5_placesAlike_27 (by decide)) ?_
            refine g1 (pc' := 30) (w_iload X dX5_placesAlike_28 4 rfl) ?_
            refine g1 (pc' := 31) (w_ishl X dX5_placesAlike_30) ?_
            refine g1 (pc' := 32) (w_ior X dX5_placesAlike_31) ?_
            refine g_ltT (pc' := 33) (fun v4 => [(3, .int v4), (0, .int x0), (1, .int x1), (2, .int x2), (4, .int s5.2)]) (fun v4 => []) (fun v4 => M) (w_istore_n X dX5_placesAlike_32 rfl (by decide) rfl) (fun v4 => ?_)
            show Gz x 5 33 [(3, .int v4), (0, .int x0), (1, .int x1), (2, .int x2), (4, .int s5.2)] [] KDF M _ _
            exact g_end [1, 2, 3, 0, 4] rfl rfl rfl
          · exact g_end [0, 1, 2, 3, 4] rfl rfl rfl
        · show Gz x 5 33 [(0, .int x0), (1, .int x1), (2, .int x2), (3, .int j2), (4, .int s5.2)] [] KDF M _ _
          refine g_lt (pc' := 36) (fun v5 => [(4, .int v5), (0, .int x0), (1, .int x1), (2, .int x2), (3, .int j2)]) (fun v5 => []) (fun v5 => M) (w_iinc X dX5_placesAlike_33 4 rfl rfl (by decide) rfl) (fun v5 => ?_)
          show Gz x 5 36 [(4, .int v5), (0, .int x0), (1, .int x1), (2, .int x2), (3, .int j2)] [] KDF M _ _
          refine g1 (pc' := 5) (w_goto X dX5_placesAlike_36 (by decide)) ?_
          refine g_inl ?_
          exact g_end [1, 2, 3, 4, 0] rfl rfl rfl
    · show Gz x 5 39 [(3, .int e6)] [] KDF M _ _
      refine g1 (pc' := 40) (w_iload_n X dX5_placesAlike_39 rfl 0 rfl) ?_
      exact g_rI X dX5_placesAlike_40
  exact G _ h _ rfl
theorem k_X5_placesAlike {x : Cxt} {cc : ByteArray} {nL : Nat} {own : String} {ret : Option FieldType} (X : Ok x cc nL own ret) {d : Nat} (hR : Rm x d KDF) (hN : Nst x) (Z : xz x = 0) {pc : Nat} {lv : List (Nat × Value)} {rest : List Value} {M : Mm} {x0 : Int32} {x1 : Int32} {x2 : Int32}  {idx : Nat} (hw : Cond.methodLink own idx yX5_placesAlike ∈ tbG) (hdd : 2 + 1 ≤ d) (hrm : (rest.map fun v => v.category).sum ≤ 8) (hd : decode cc pc = .ok (.invokestatic idx, 3)) {r : Int32} (h : f_X5_placesAlike x0 x1 x2 = some r) : StpZ x nL pc lv (.int x2 :: .int x1 :: .int x0 :: rest) KDF M (pc + 3) lv (.int r :: rest) KDF M :=
  w_callS (st := []) (As := [.int x0, .int x1, .int x2]) X hR hN (CtX0 Z (c_X5_placesAlike  h)) ⟨Nat.le_refl _, Nat.le_refl _⟩ ⟨Nat.le_refl _, Nat.le_refl _⟩ hw mw_831 mw_73 mw_832 (n := 3) (by decide +kernel) rfl hdd (by decide) hrm hd
def f_X5_without (x0 : Int32) (x1 : Int32) (x2 : Int32) : Option (Int32) :=
  Bd (f_X5_placeOf x0 x1 x2) (fun r1 => (if r1 = (-1 : Int32) then some x0 else Lt (x0 &&& ((sl (1 : Int32) ((3 : Int32) * r1)) - (1 : Int32))) (fun v3 => Lt (sr x0 ((3 : Int32) * (r1 + (1 : Int32)))) (fun v4 => some (v3 ||| (sl v4 ((3 : Int32) * r1)))))))
set_option maxRecDepth 100000 in
set_option maxHeartbeats 4000000 in
theorem c_X5_without {l : Launch} {D : va_G} {an : An} {b : Nat} {x0 : Int32} {x1 : Int32} {x2 : Int32}  {M : Mm} {r : Int32} (h : f_X5_without x0 x1 x2 = some r) : Ct l D an b 0 yX5_without cX5_without 6 (some .int) 3 [.int x0, .int x1, .int x2] KDF M (some (.int r)) KDF M := by
  refine CtX.mk (as := fun b => [.int x0, .int x1, .int x2]) (rv := fun b => (some (.int r))) (by decide) (fun b => Nat.le_of_ble_eq_true rfl) ⟨Nat.le_refl _, Nat.le_refl _⟩ (fun x X hR Z hN _ _ => ?_)
  have X : Ok x cX5_without 6 RX5 (some .int) := X
  have G : Gz x 6 0 [(0, .int x0), (1, .int x1), (2, .int x2)] [] KDF M (f_X5_without x0 x1 x2) (PsI x KDF M) := by
    unfold f_X5_without
    refine g1 (pc' := 1) (w_iload_n X dX5_without_0 rfl 0 rfl) ?_
    refine g1 (pc' := 2) (w_iload_n X dX5_without_1 rfl 1 rfl) ?_
    refine g1 (pc' := 3) (w_iload_n X dX5_without_2 rfl 2 rfl) ?_
    refine g_bd (pc' := 6) (fun r1 => [(0, .int x0), (1, .int x1), (2, .int x2)]) (fun r1 => [.int r1]) (fun r1 => M) (fun r1 h => k_X5_placeOf X hR hN Z  mw_848 (by decide) (Nat.le_of_ble_eq_true rfl) dX5_without_3 h) (fun r1 => ?_)
    show Gz x 6 6 [(0, .int x0), (1, .int x1), (2, .int x2)] [.int r1] KDF M _ _
    refine g1 (pc' := 7) (lv' := [(3, .int r1), (0, .int x0), (1, .int x1), (2, .int x2)]) (w_istore_n X dX5_without_6 rfl (by decide) rfl) ?_
    refine g1 (pc' := 8) (w_iload_n X dX5_without_7 rfl 0 rfl) ?_
    refine g1 (pc' := 9) (w_iconst X (-1) dX5_without_8 (by decide)) ?_
    refine g_if (pcT := 12) (pcF := 14) (w_icmp_ne (tgt := 14) X dX5_without_9 (by decide)) (fun h2 => ?_) (fun h2 => ?_)
    · refine g1 (pc' := 13) (w_iload_n X dX5_without_12 rfl 1 rfl) ?_
      exact g_rI X dX5_without_13
    · refine g1 (pc' := 15) (w_iload_n X dX5_without_14 rfl 1 rfl) ?_
      refine g1 (pc' := 16) (w_iconst X (1) dX5_without_15 (by decide)) ?_
      refine g1 (pc' := 17) (w_iconst X (3) dX5_without_16 (by decide)) ?_
      refine g1 (pc' := 18) (w_iload_n X dX5_without_17 rfl 0 rfl) ?_
      refine g1 (pc' := 19) (w_imul X dX5_without_18) ?_
      refine g1 (pc' := 20) (w_ishl X dX5_without_19) ?_
      refine g1 (pc' := 21) (w_iconst X (1) dX5_without_20 (by decide)) ?_
      refine g1 (pc' := 22) (w_isub X dX5_without_21) ?_
      refine g1 (pc' := 23) (w_iand X dX5_without_22) ?_
      refine g_lt (pc' := 25) (fun v3 => [(4, .int v3), (3, .int r1), (0, .int x0), (1, .int x1), (2, .int x2)]) (fun v3 => []) (fun v3 => M) (w_istore X dX5_without_23 (by decide) rfl) (fun v3 => ?_)
      show Gz x 6 25 [(4, .int v3), (3, .int r1), (0, .int x0), (1, .int x1), (2, .int x2)] [] KDF M _ _
      refine g1 (pc' := 26) (w_iload_n X dX5_without_25 rfl 2 rfl) ?_
      refine g1 (pc' := 27) (w_iconst X (3) dX5_without_26 (by decide)) ?_
      refine g1 (pc' := 28) (w_iload_n X dX5_without_27 rfl 1 rfl) ?_
      refine g1 (pc' := 29) (w_iconst X (1) dX5_without_28 (by decide)) ?_
      refine g1 (pc' := 30) (w_iadd X dX5_without_29) ?_
      refine g1 (pc' := 31) (w_imul X dX5_without_30) ?_
      refine g1 (pc' := 32) (w_ishr X dX5_without_31) ?_
      refine g_lt (pc' := 34) (fun v4 => [(5, .int v4), (4, .int v3), (3, .int r1), (0, .int x0), (1, .int x1), (2, .int x2)]) (fun v4 => []) (fun v4 => M) (w_istore X dX5_without_32 (by decide) rfl) (fun v4 => ?_)
      show Gz x 6 34 [(5, .int v4), (4, .int v3), (3, .int r1), (0, .int x0), (1, .int x1), (2, .int x2)] [] KDF M _ _
      refine g1 (pc' := 36) (w_iload X dX5_without_34 1 rfl) ?_
      refine g1 (pc' := 38) (w_iload X dX5_without_36 0 rfl) ?_
      refine g1 (pc' := 39) (w_iconst X (3) dX5_without_38 (by decide)) ?_
      refine g1 (pc' := 40) (w_iload_n X dX5_without_39 rfl 2 rfl) ?_
      refine g1 (pc' := 41) (w_imul X dX5_without_40) ?_
      refine g1 (pc' := 42) (w_ishl X dX5_without_41) ?_
      refine g1 (pc' := 43) (w_ior X dX5_without_42) ?_
      exact g_rI X dX5_without_43
  exact G _ h _ rfl
theorem k_X5_without {x : Cxt} {cc : ByteArray} {nL : Nat} {own : String} {ret : Option FieldType} (X : Ok x cc nL own ret) {d : Nat} (hR : Rm x d KDF) (hN : Nst x) (Z : xz x = 0) {pc : Nat} {lv : List (Nat × Value)} {rest : List Value} {M : Mm} {x0 : Int32} {x1 : Int32} {x2 : Int32}  {idx : Nat} (hw : Cond.methodLink own idx yX5_without ∈ tbG) (hdd : 3 + 1 ≤ d) (hrm : (rest.map fun v => v.category).sum ≤ 8) (hd : decode cc pc = .ok (.invokestatic idx, 3)) {r : Int32} (h : f_X5_without x0 x1 x2 = some r) : StpZ x nL pc lv (.int x2 :: .int x1 :: .int x0 :: rest) KDF M (pc + 3) lv (.int r :: rest) KDF M :=
  w_callS (st := []) (As := [.int x0, .int x1, .int x2]) X hR hN (CtX0 Z (c_X5_without  h)) ⟨Nat.le_refl _, Nat.le_refl _⟩ ⟨Nat.le_refl _, Nat.le_refl _⟩ hw mw_846 mw_73 mw_847 (n := 3) (by decide +kernel) rfl hdd (by decide) hrm hd
def f_X6_clear (o0 : Nat) (M : Mm) : Option (Mm) :=
  Bd (f_J7_fill_53178 110 (0 : Int32) M) (fun r1 => some r1)
set_option maxRecDepth 100000 in
set_option maxHeartbeats 4000000 in
theorem c_X6_clear {l : Launch} {D : va_G} {an : An} {b : Nat} {o0 : Nat} (hk0 : KDF[o0]? = some (6, 0)) {M : Mm} {M' : Mm} (h : f_X6_clear o0 M = some M') : Ct l D an b 0 yX6_clear cX6_clear 1 none 2 [.ref (b + o0)] KDF M none KDF M' := by
  refine CtX.mk (as := fun b => [.ref (b + o0)]) (rv := fun b => none) (by decide) (fun b => Nat.le_of_ble_eq_true rfl) ⟨Nat.le_refl _, Nat.le_refl _⟩ (fun x X hR Z hN _ _ => ?_)
  have X : Ok x cX6_clear 1 RX6 none := X
  have G : Gz x 1 0 [(0, .ref (xb x + o0))] [] KDF M (f_X6_clear o0 M) (PsM x KDF) := by
    unfold f_X6_clear
    refine g1 (pc' := 1) (w_aload_n X dX6_clear_0 rfl 0 rfl) ?_
    refine g1 (pc' := 4) (gt_6_0 X hk0 mw_256 dX6_clear_1) ?_
    refine g1 (pc' := 5) (w_iconst X (0) dX6_clear_4 (by decide)) ?_
    refine g_bd (pc' := 8) (fun r1 => [(0, .ref (xb x + o0))]) (fun r1 => []) (fun r1 => r1) (fun r1 h => k_J7_fill_53178 X hR hN Z (kln_of kd_110) mw_744 (by decide) (Nat.le_of_ble_eq_true rfl) dX6_clear_5 h) (fun r1 => ?_)
    show Gz x 1 8 [(0, .ref (xb x + o0))] [] KDF r1 _ _
    exact g_rM X dX6_clear_8
  exact G _ h _ rfl
theorem k_X6_clear {x : Cxt} {cc : ByteArray} {nL : Nat} {own : String} {ret : Option FieldType} (X : Ok x cc nL own ret) {d : Nat} (hR : Rm x d KDF) (hN : Nst x) (Z : xz x = 0) {pc : Nat} {lv : List (Nat × Value)} {rest : List Value} {M : Mm} {o0 : Nat} (hk0 : KDF[o0]? = some (6, 0)) {idx : Nat} (hw : Cond.methodLink own idx yX6_clear ∈ tbG) (hdd : 2 + 1 ≤ d) (hrm : (rest.map fun v => v.category).sum ≤ 8) (hd : decode cc pc = .ok (.invokevirtual idx, 3)) {M' : Mm} (h : f_X6_clear o0 M = some M') : StpZ x nL pc lv (.ref (xb x + o0) :: rest) KDF M (pc + 3) lv (rest) KDF M' :=
  w_callV (st := []) (As := []) X hR hN (CtX0 Z (c_X6_clear hk0 h)) ⟨Nat.le_refl _, Nat.le_refl _⟩ ⟨Nat.le_refl _, Nat.le_refl _⟩ hk0 (ci := 6) (fs := fs_6 o0) (fun _ _ _ => rfl) rfl hw mw_741 mw_742 mw_68 mw_743 (n := 0) (by decide +kernel) rfl hdd (by decide) hrm hd
def f_X6_add (o0 : Nat) (x1 : Int32) (M : Mm) : Option (Int32 × Mm) :=
  Lt (x1 &&& (32767 : Int32)) (fun v1 => Lt (sl (1 : Int32) (rm v1 (32 : Int32))) (fun v2 => Lt (v1 / (32 : Int32)) (fun v3 => Gd (ib v3 1024) ((if ((M 110 (ix v3)) &&& v2) = 0 then Gd (ib v3 1024) (Gd (ib v3 1024) (Lt (st2 M 110 (ix v3) ((M 110 (ix v3)) ||| v2)) (fun M8 => some ((1 : Int32), M8)))) else some ((0 : Int32), M))))))
set_option maxRecDepth 100000 in
set_option maxHeartbeats 4000000 in
theorem c_X6_add {l : Launch} {D : va_G} {an : An} {b : Nat} {o0 : Nat} {x1 : Int32} (hk0 : KDF[o0]? = some (6, 0)) {M : Mm} {r : Int32} {M' : Mm} (h : f_X6_add o0 x1 M = some (r, M')) : Ct l D an b 0 yX6_add cX6_add 5 (some .boolean) 1 [.ref (b + o0), .int x1] KDF M (some (.int r)) KDF M' := by
  refine CtX.mk (as := fun b => [.ref (b + o0), .int x1]) (rv := fun b => (some (.int r))) (by decide) (fun b => Nat.le_of_ble_eq_true rfl) ⟨Nat.le_refl _, Nat.le_refl _⟩ (fun x X hR Z hN _ _ => ?_)
  have X : Ok x cX6_add 5 RX6 (some .boolean) := X
  have G : Gz x 5 0 [(0, .ref (xb x + o0)), (1, .int x1)] [] KDF M (f_X6_add o0 x1 M) (PsI2 x KDF) := by
    unfold f_X6_add
    refine g1 (pc' := 1) (w_iload_n X dX6_add_0 rfl 1 rfl) ?_
    refine g1 (pc' := 4) (w_sipush X (32767) dX6_add_1 (by decide)) ?_
    refine g1 (pc' := 5) (w_iand X dX6_add_4) ?_
    refine g_lt (pc' := 6) (fun v1 => [(2, .int v1), (0, .ref (xb x + o0)), (1, .int x1)]) (fun v1 => []) (fun v1 => M) (w_istore_n X dX6_add_5 rfl (by decide) rfl) (fun v1 => ?_)
    show Gz x 5 6 [(2, .int v1), (0, .ref (xb x + o0)), (1, .int x1)] [] KDF M _ _
    refine g1 (pc' := 7) (w_iconst X (1) dX6_add_6 (by decide)) ?_
    refine g1 (pc' := 8) (w_iload_n X dX6_add_7 rfl 0 rfl) ?_
    refine g1 (pc' := 10) (w_bipush X (32) dX6_add_8 (by decide)) ?_
    refine g1 (pc' := 11) (w_irem X dX6_add_10 (by decide)) ?_
    refine g1 (pc' := 12) (w_ishl X dX6_add_11) ?_
    refine g_lt (pc' := 13) (fun v2 => [(3, .int v2), (2, .int v1), (0, .ref (xb x + o0)), (1, .int x1)]) (fun v2 => []) (fun v2 => M) (w_istore_n X dX6_add_12 rfl (by decide) rfl) (fun v2 => ?_)
    show Gz x 5 13 [(3, .int v2), (2, .int v1), (0, .ref (xb x + o0)), (1, .int x1)] [] KDF M _ _
    refine g1 (pc' := 14) (w_iload_n X dX6_add_13 rfl 1 rfl) ?_
    refine g1 (pc' := 16) (w_bipush X (32) dX6_add_14 (by decide)) ?_
    refine g1 (pc' := 17) (w_idiv X dX6_add_16 (by decide)) ?_
    refine g_lt (pc' := 19) (fun v3 => [(4, .int v3), (3, .int v2), (2, .int v1), (0, .ref (xb x + o0)), (1, .int x1)]) (fun v3 => []) (fun v3 => M) (w_istore X dX6_add_17 (by decide) rfl) (fun v3 => ?_)
    show Gz x 5 19 [(4, .int v3), (3, .int v2), (2, .int v1), (0, .ref (xb x + o0)), (1, .int x1)] [] KDF M _ _
    refine g1 (pc' := 20) (w_aload_n X dX6_add_19 rfl 3 rfl) ?_
    refine g1 (pc' := 23) (gt_6_0 X hk0 mw_256 dX6_add_20) ?_
    refine g1 (pc' := 25) (w_iload X dX6_add_23 0 rfl) ?_
    refine g_gd (fun h4 => ?_)
    refine g1 (pc' := 26) (w_iald X kd_110 h4 dX6_add_25) ?_
    refine g1 (pc' := 27) (w_iload_n X dX6_add_26 rfl 1 rfl) ?_
    refine g1 (pc' := 28) (w_iand X dX6_add_27) ?_
    refine g_if (pcT := 33) (pcF := 31) (w_if_eq (tgt := 33) X dX6_add_28 (by decide)) (fun h5 => ?_) (fun h5 => ?_)
    · refine g1 (pc' := 34) (w_aload_n X dX6_add_33 rfl 3 rfl) ?_
      refine g1 (pc' := 37) (gt_6_0 X hk0 mw_256 dX6_add_34) ?_
      refine g1 (pc' := 39) (w_iload X dX6_add_37 0 rfl) ?_
      refine g1 (pc' := 40) (w_dup2 X dX6_add_39 rfl rfl) ?_
      refine g_gd (fun h6 => ?_)
      refine g1 (pc' := 41) (w_iald X kd_110 h6 dX6_add_40) ?_
      refine g1 (pc' := 42) (w_iload_n X dX6_add_41 rfl 1 rfl) ?_
      refine g1 (pc' := 43) (w_ior X dX6_add_42) ?_
      refine g_gd (fun h7 => ?_)
      refine g_lt (pc' := 44) (fun M8 => [(4, .int v3), (3, .int v2), (2, .int v1), (0, .ref (xb x + o0)), (1, .int x1)]) (fun M8 => []) (fun M8 => M8) (w_iast X Z kd_110 h7 dX6_add_43) (fun M8 => ?_)
      show Gz x 5 44 [(4, .int v3), (3, .int v2), (2, .int v1), (0, .ref (xb x + o0)), (1, .int x1)] [] KDF M8 _ _
      refine g1 (pc' := 45) (w_iconst X (1) dX6_add_44 (by decide)) ?_
      exact g_rZ2 X zb1 dX6_add_45
    · refine g1 (pc' := 32) (w_iconst X (0) dX6_add_31 (by decide)) ?_
      exact g_rZ2 X zb0 dX6_add_32
  exact G _ h _ rfl
theorem k_X6_add {x : Cxt} {cc : ByteArray} {nL : Nat} {own : String} {ret : Option FieldType} (X : Ok x cc nL own ret) {d : Nat} (hR : Rm x d KDF) (hN : Nst x) (Z : xz x = 0) {pc : Nat} {lv : List (Nat × Value)} {rest : List Value} {M : Mm} {o0 : Nat} {x1 : Int32} (hk0 : KDF[o0]? = some (6, 0)) {idx : Nat} (hw : Cond.methodLink own idx yX6_add ∈ tbG) (hdd : 1 + 1 ≤ d) (hrm : (rest.map fun v => v.category).sum ≤ 8) (hd : decode cc pc = .ok (.invokevirtual idx, 3)) {r : Int32} {M' : Mm} (h : f_X6_add o0 x1 M = some (r, M')) : StpZ x nL pc lv (.int x1 :: .ref (xb x + o0) :: rest) KDF M (pc + 3) lv (.int r :: rest) KDF M' :=
  w_callV (st := []) (As := [.int x1]) X hR hN (CtX0 Z (c_X6_add hk0 h)) ⟨Nat.le_refl _, Nat.le_refl _⟩ ⟨Nat.le_refl _, Nat.le_refl _⟩ hk0 (ci := 6) (fs := fs_6 o0) (fun _ _ _ => rfl) rfl hw mw_746 mw_747 mw_68 mw_748 (n := 1) (by decide +kernel) rfl hdd (by decide) hrm hd
