def b_X0_firstsOf_4 (x0 : Int32) (x1 : Int32) (s4 : Int32 × Int32) : Option ((Int32 × Int32) ⊕ ((Int32) ⊕ (Int32))) :=
  (if x1 ≤ s4.2 then some (.inr (.inr s4.1)) else (if ((sr x0 s4.2) &&& (1 : Int32)) = 0 then (if (s4.2 + (1 : Int32)) = x1 then some (.inr (.inl (-1 : Int32))) else (if ((sr x0 (s4.2 + (1 : Int32))) &&& (1 : Int32)) = 0 then Lt (s4.1 ||| (sl (7 : Int32) ((3 : Int32) * s4.2))) (fun v5 => Lt (s4.2 + (1 : Int32)) (fun v6 => Lt (v6 + (1 : Int32)) (fun v7 => some (.inl (v5, v7))))) else some (.inr (.inl (-1 : Int32))))) else Lt (s4.2 + (1 : Int32)) (fun v8 => some (.inl (s4.1, v8)))))
def f_X0_firstsOf (x0 : Int32) (x1 : Int32) : Option (Int32) :=
  BdS (Lp (b_X0_firstsOf_4 x0 x1) 100000 ((0 : Int32), (0 : Int32))) (fun e9 => some e9)
set_option maxRecDepth 100000 in
set_option maxHeartbeats 4000000 in
theorem c_X0_firstsOf {l : Launch} {D : va_G} {an : An} {b : Nat} {x0 : Int32} {x1 : Int32}  {M : Mm} {r : Int32} (h : f_X0_firstsOf x0 x1 = some r) : Ct l D an b 0 yX0_firstsOf cX0_firstsOf 4 (some .int) 1 [.int x0, .int x1] KDF M (some (.int r)) KDF M := by
  refine CtX.mk (as := fun b => [.int x0, .int x1]) (rv := fun b => (some (.int r))) (by decide) (fun b => Nat.le_of_ble_eq_true rfl) ⟨Nat.le_refl _, Nat.le_refl _⟩ (fun x X hR Z hN _ _ => ?_)
  have X : Ok x cX0_firstsOf 4 RX0 (some .int) := X
  have G : Gz x 4 0 [(0, .int x0), (1, .int x1)] [] KDF M (f_X0_firstsOf x0 x1) (PsI x KDF M) := by
    unfold f_X0_firstsOf
    refine g1 (pc' := 1) (w_iconst X (0) dX0_firstsOf_0 (by decide)) ?_
    refine g1 (pc' := 2) (lv' := [(2, .int (0 : Int32)), (0, .int x0), (1, .int x1)]) (w_istore_n X dX0_firstsOf_1 rfl (by decide) rfl) ?_
    refine g1 (pc' := 3) (w_iconst X (0) dX0_firstsOf_2 (by decide)) ?_
    refine g1 (pc' := 4) (lv' := [(3, .int (0 : Int32)), (2, .int (0 : Int32)), (0, .int x0), (1, .int x1)]) (w_istore_n X dX0_firstsOf_3 rfl (by decide) rfl) ?_
    refine g_pick (lv' := [(0, .int x0), (1, .int x1), (2, .int (0 : Int32)), (3, .int (0 : Int32))]) [2, 3, 1, 0] rfl ?_
    refine g_bdS (J := 54) (fun e9 => [(2, .int e9)]) (fun e9 => []) (fun e9 => M) (g_lp (fun s4 => [(0, .int x0), (1, .int x1), (2, .int s4.1), (3, .int s4.2)]) (fun s4 => M) (fun s4 => ?_) 100000 ((0 : Int32), (0 : Int32))) (fun e9 => ?_)
    · show Gz x 4 4 [(0, .int x0), (1, .int x1), (2, .int s4.1), (3, .int s4.2)] [] KDF M (b_X0_firstsOf_4 x0 x1 s4) _
      unfold b_X0_firstsOf_4
      refine g1 (pc' := 5) (w_iload_n X dX0_firstsOf_4 rfl 3 rfl) ?_
      refine g1 (pc' := 6) (w_iload_n X dX0_firstsOf_5 rfl 1 rfl) ?_
      refine g_if (pcT := 54) (pcF := 9) (w_icmp_ge (tgt := 54) X dX0_firstsOf_6 (by decide)) (fun h1 => ?_) (fun h1 => ?_)
      · refine g_inr ?_
        refine g_inr ?_
        exact g_end [2] rfl rfl rfl
      · refine g1 (pc' := 10) (w_iload_n X dX0_firstsOf_9 rfl 0 rfl) ?_
        refine g1 (pc' := 11) (w_iload_n X dX0_firstsOf_10 rfl 3 rfl) ?_
        refine g1 (pc' := 12) (w_ishr X dX0_firstsOf_11) ?_
        refine g1 (pc' := 13) (w_iconst X (1) dX0_firstsOf_12 (by decide)) ?_
        refine g1 (pc' := 14) (w_iand X dX0_firstsOf_13) ?_
        refine g_if (pcT := 17) (pcF := 48) (w_if_ne (tgt := 48) X dX0_firstsOf_14 (by decide)) (fun h2 => ?_) (fun h2 => ?_)
        · refine g1 (pc' := 18) (w_iload_n X dX0_firstsOf_17 rfl 3 rfl) ?_
          refine g1 (pc' := 19) (w_iconst X (1) dX0_firstsOf_18 (by decide)) ?_
          refine g1 (pc' := 20) (w_iadd X dX0_firstsOf_19) ?_
          refine g1 (pc' := 21) (w_iload_n X dX0_firstsOf_20 rfl 1 rfl) ?_
          refine g_if (pcT := 34) (pcF := 24) (w_icmp_eq (tgt := 34) X dX0_firstsOf_21 (by decide)) (fun h3 => ?_) (fun h3 => ?_)
          · refine g1 (pc' := 35) (w_iconst X (-1) dX0_firstsOf_34 (by decide)) ?_
            refine g_inr ?_
            refine g_inl ?_
            exact g_rI X dX0_firstsOf_35
          · refine g1 (pc' := 25) (w_iload_n X dX0_firstsOf_24 rfl 0 rfl) ?_
            refine g1 (pc' := 26) (w_iload_n X dX0_firstsOf_25 rfl 3 rfl) ?_
            refine g1 (pc' := 27) (w_iconst X (1) dX0_firstsOf_26 (by decide)) ?_
            refine g1 (pc' := 28) (w_iadd X dX0_firstsOf_27) ?_
            refine g1 (pc' := 29) (w_ishr X dX0_firstsOf_28) ?_
            refine g1 (pc' := 30) (w_iconst X (1) dX0_firstsOf_29 (by decide)) ?_
            refine g1 (pc' := 31) (w_iand X dX0_firstsOf_30) ?_
            refine g_if (pcT := 36) (pcF := 34) (w_if_eq (tgt := 36) X dX0_firstsOf_31 (by decide)) (fun h4 => ?_) (fun h4 => ?_)
            · refine g1 (pc' := 37) (w_iload_n X dX0_firstsOf_36 rfl 2 rfl) ?_
              refine g1 (pc' := 39) (w_bipush X (7) dX0_firstsOf_37 (by decide)) ?_
              refine g1 (pc' := 40) (w_iconst X (3) dX0_firstsOf_39 (by decide)) ?_
              refine g1 (pc' := 41) (w_iload_n X dX0_firstsOf_40 rfl 3 rfl) ?_
              refine g1 (pc' := 42) (w_imul X dX0_firstsOf_41) ?_
              refine g1 (pc' := 43) (w_ishl X dX0_firstsOf_42) ?_
              refine g1 (pc' := 44) (w_ior X dX0_firstsOf_43) ?_
              refine g_lt (pc' := 45) (fun v5 => [(2, .int v5), (0, .int x0), (1, .int x1), (3, .int s4.2)]) (fun v5 => []) (fun v5 => M) (w_istore_n X dX0_firstsOf_44 rfl (by decide) rfl) (fun v5 => ?_)
              show Gz x 4 45 [(2, .int v5), (0, .int x0), (1, .int x1), (3, .int s4.2)] [] KDF M _ _
              refine g_lt (pc' := 48) (fun v6 => [(3, .int v6), (2, .int v5), (0, .int x0), (1, .int x1)]) (fun v6 => []) (fun v6 => M) (w_iinc X dX0_firstsOf_45 3 rfl rfl (by decide) rfl) (fun v6 => ?_)
              show Gz x 4 48 [(3, .int v6), (2, .int v5), (0, .int x0), (1, .int x1)] [] KDF M _ _
              refine g_lt (pc' := 51) (fun v7 => [(3, .int v7), (2, .int v5), (0, .int x0), (1, .int x1)]) (fun v7 => []) (fun v7 => M) (w_iinc X dX0_firstsOf_48 0 rfl rfl (by decide) rfl) (fun v7 => ?_)
              show Gz x 4 51 [(3, .int v7), (2, .int v5), (0, .int x0), (1, .int x1)] [] KDF M _ _
              refine g1 (pc' := 4) (w_goto X dX0_firstsOf_51 (by decide)) ?_
              refine g_inl ?_
              exact g_end [2, 3, 1, 0] rfl rfl rfl
            · refine g1 (pc' := 35) (w_iconst X (-1) dX0_firstsOf_34 (by decide)) ?_
              refine g_inr ?_
              refine g_inl ?_
              exact g_rI X dX0_firstsOf_35
        · refine g_lt (pc' := 51) (fun v8 => [(3, .int v8), (0, .int x0), (1, .int x1), (2, .int s4.1)]) (fun v8 => []) (fun v8 => M) (w_iinc X dX0_firstsOf_48 3 rfl rfl (by decide) rfl) (fun v8 => ?_)
          show Gz x 4 51 [(3, .int v8), (0, .int x0), (1, .int x1), (2, .int s4.1)] [] KDF M _ _
          refine g1 (pc' := 4) (w_goto X dX0_firstsOf_51 (by decide)) ?_
          refine g_inl ?_
          exact g_end [1, 2, 3, 0] rfl rfl rfl
    · show Gz x 4 54 [(2, .int e9)] [] KDF M _ _
      refine g1 (pc' := 55) (w_iload_n X dX0_firstsOf_54 rfl 0 rfl) ?_
      exact g_rI X dX0_firstsOf_55
  exact G _ h _ rfl
theorem k_X0_firstsOf {x : Cxt} {cc : ByteArray} {nL : Nat} {own : String} {ret : Option FieldType} (X : Ok x cc nL own ret) {d : Nat} (hR : Rm x d KDF) (hN : Nst x) (Z : xz x = 0) {pc : Nat} {lv : List (Nat × Value)} {rest : List Value} {M : Mm} {x0 : Int32} {x1 : Int32}  {idx : Nat} (hw : Cond.methodLink own idx yX0_firstsOf ∈ tbG) (hdd : 1 + 1 ≤ d) (hrm : (rest.map fun v => v.category).sum ≤ 8) (hd : decode cc pc = .ok (.invokestatic idx, 3)) {r : Int32} (h : f_X0_firstsOf x0 x1 = some r) : StpZ x nL pc lv (.int x1 :: .int x0 :: rest) KDF M (pc + 3) lv (.int r :: rest) KDF M :=
  w_callS (st := []) (As := [.int x0, .int x1]) X hR hN (CtX0 Z (c_X0_firstsOf  h)) ⟨Nat.le_refl _, Nat.le_refl _⟩ ⟨Nat.le_refl _, Nat.le_refl _⟩ hw mw_454 mw_63 mw_455 (n := 2) (by decide +kernel) rfl hdd (by decide) hrm hd
def f_X0_become (o0 : Nat) (x1 : Int32) (x2 : Int32) (M : Mm) : Option (Int32 × Mm) :=
  Bd (f_X0_firstsOf x1 x2) (fun r1 => (if r1 = (-1 : Int32) then some ((0 : Int32), M) else Lt (st2 M o0 0 x1) (fun M3 => Lt (st2 M3 o0 2 r1) (fun M4 => Lt (st2 M4 o0 1 (((sl (1 : Int32) ((3 : Int32) * x2)) - (1 : Int32)) &&& ((r1 ||| (sl r1 (3 : Int32))) ^^^ (-1 : Int32)))) (fun M5 => some ((1 : Int32), M5))))))
set_option maxRecDepth 100000 in
set_option maxHeartbeats 4000000 in
theorem c_X0_become {l : Launch} {D : va_G} {an : An} {b : Nat} {o0 : Nat} {x1 : Int32} {x2 : Int32} (hk0 : KDF[o0]? = some (0, 0)) {M : Mm} {r : Int32} {M' : Mm} (h : f_X0_become o0 x1 x2 M = some (r, M')) : Ct l D an b 0 yX0_become cX0_become 4 (some .boolean) 2 [.ref (b + o0), .int x1, .int x2] KDF M (some (.int r)) KDF M' := by
  refine CtX.mk (as := fun b => [.ref (b + o0), .int x1, .int x2]) (rv := fun b => (some (.int r))) (by decide) (fun b => Nat.le_of_ble_eq_true rfl) ⟨Nat.le_refl _, Nat.le_refl _⟩ (fun x X hR Z hN _ _ => ?_)
  have X : Ok x cX0_become 4 RX0 (some .boolean) := X
  have G : Gz x 4 0 [(0, .ref (xb x + o0)), (1, .int x1), (2, .int x2)] [] KDF M (f_X0_become o0 x1 x2 M) (PsI2 x KDF) := by
    unfold f_X0_become
    refine g1 (pc' := 1) (w_iload_n X dX0_become_0 rfl 1 rfl) ?_
    refine g1 (pc' := 2) (w_iload_n X dX0_become_1 rfl 2 rfl) ?_
    refine g_bd (pc' := 5) (fun r1 => [(0, .ref (xb x + o0)), (1, .int x1), (2, .int x2)]) (fun r1 => [.int r1]) (fun r1 => M) (fun r1 h => k_X0_firstsOf X hR hN Z  mw_453 (by decide) (Nat.le_of_ble_eq_true rfl) dX0_become_2 h) (fun r1 => ?_)
    show Gz x 4 5 [(0, .ref (xb x + o0)), (1, .int x1), (2, .int x2)] [.int r1] KDF M _ _
    refine g1 (pc' := 6) (lv' := [(3, .int r1), (0, .ref (xb x + o0)), (1, .int x1), (2, .int x2)]) (w_istore_n X dX0_become_5 rfl (by decide) rfl) ?_
    refine g1 (pc' := 7) (w_iload_n X dX0_become_6 rfl 0 rfl) ?_
    refine g1 (pc' := 8) (w_iconst X (-1) dX0_become_7 (by decide)) ?_
    refine g_if (pcT := 11) (pcF := 13) (w_icmp_ne (tgt := 13) X dX0_become_8 (by decide)) (fun h2 => ?_) (fun h2 => ?_)
    · refine g1 (pc' := 12) (w_iconst X (0) dX0_become_11 (by decide)) ?_
      exact g_rZ2 X zb0 dX0_become_12
    · refine g1 (pc' := 14) (w_aload_n X dX0_become_13 rfl 1 rfl) ?_
      refine g1 (pc' := 15) (w_iload_n X dX0_become_14 rfl 2 rfl) ?_
      refine g_lt (pc' := 18) (fun M3 => [(3, .int r1), (0, .ref (xb x + o0)), (1, .int x1), (2, .int x2)]) (fun M3 => []) (fun M3 => M3) (pt_0_0 X Z hk0 mw_98 dX0_become_15) (fun M3 => ?_)
      show Gz x 4 18 [(3, .int r1), (0, .ref (xb x + o0)), (1, .int x1), (2, .int x2)] [] KDF M3 _ _
      refine g1 (pc' := 19) (w_aload_n X dX0_become_18 rfl 1 rfl) ?_
      refine g1 (pc' := 20) (w_iload_n X dX0_become_19 rfl 0 rfl) ?_
      refine g_lt (pc' := 23) (fun M4 => [(3, .int r1), (0, .ref (xb x + o0)), (1, .int x1), (2, .int x2)]) (fun M4 => []) (fun M4 => M4) (pt_0_2 X Z hk0 mw_101 dX0_become_20) (fun M4 => ?_)
      show Gz x 4 23 [(3, .int r1), (0, .ref (xb x + o0)), (1, .int x1), (2, .int x2)] [] KDF M4 _ _
      refine g1 (pc' := 24) (w_aload_n X dX0_become_23 rfl 1 rfl) ?_
      refine g1 (pc' := 25) (w_iconst X (1) dX0_become_24 (by decide)) ?_
      refine g1 (pc' := 26) (w_iconst X (3) dX0_become_25 (by decide)) ?_
      refine g1 (pc' := 27) (w_iload_n X dX0_become_26 rfl 3 rfl) ?_
      refine g1 (pc' := 28) (w_imul X dX0_become_27) ?_
      refine g1 (pc' := 29) (w_ishl X dX0_become_28) ?_
      refine g1 (pc' := 30) (w_iconst X (1) dX0_become_29 (by decide)) ?_
      refine g1 (pc' := 31) (w_isub X dX0_become_30) ?_
      refine g1 (pc' := 32) (w_iload_n X dX0_become_31 rfl 0 rfl) ?_
      refine g1 (pc' := 33) (w_iload_n X dX0_become_32 rfl 0 rfl) ?_
      refine g1 (pc' := 34) (w_iconst X (3) dX0_become_33 (by decide)) ?_
      refine g1 (pc' := 35) (w_ishl X dX0_become_34) ?_
      refine g1 (pc' := 36) (w_ior X dX0_become_35) ?_
      refine g1 (pc' := 37) (w_iconst X (-1) dX0_become_36 (by decide)) ?_
      refine g1 (pc' := 38) (w_ixor X dX0_become_37) ?_
      refine g1 (pc' := 39) (w_iand X dX0_become_38) ?_
      refine g_lt (pc' := 42) (fun M5 => [(3, .int r1), (0, .ref (xb x + o0)), (1, .int x1), (2, .int x2)]) (fun M5 => []) (fun M5 => M5) (pt_0_1 X Z hk0 mw_100 dX0_become_39) (fun M5 => ?_)
      show Gz x 4 42 [(3, .int r1), (0, .ref (xb x + o0)), (1, .int x1), (2, .int x2)] [] KDF M5 _ _
      refine g1 (pc' := 43) (w_iconst X (1) dX0_become_42 (by decide)) ?_
      exact g_rZ2 X zb1 dX0_become_43
  exact G _ h _ rfl
theorem k_X0_become {x : Cxt} {cc : ByteArray} {nL : Nat} {own : String} {ret : Option FieldType} (X : Ok x cc nL own ret) {d : Nat} (hR : Rm x d KDF) (hN : Nst x) (Z : xz x = 0) {pc : Nat} {lv : List (Nat × Value)} {rest : List Value} {M : Mm} {o0 : Nat} {x1 : Int32} {x2 : Int32} (hk0 : KDF[o0]? = some (0, 0)) {idx : Nat} (hw : Cond.methodLink own idx yX0_become ∈ tbG) (hdd : 2 + 1 ≤ d) (hrm : (rest.map fun v => v.category).sum ≤ 8) (hd : decode cc pc = .ok (.invokevirtual idx, 3)) {r : Int32} {M' : Mm} (h : f_X0_become o0 x1 x2 M = some (r, M')) : StpZ x nL pc lv (.int x2 :: .int x1 :: .ref (xb x + o0) :: rest) KDF M (pc + 3) lv (.int r :: rest) KDF M' :=
  w_callV (st := []) (As := [.int x1, .int x2]) X hR hN (CtX0 Z (c_X0_become hk0 h)) ⟨Nat.le_refl _, Nat.le_refl _⟩ ⟨Nat.le_refl _, Nat.le_refl _⟩ hk0 (ci := 0) (fs := fs_0 o0) (fun _ _ _ => rfl) rfl hw mw_450 mw_451 mw_63 mw_452 (n := 2) (by decide +kernel) rfl hdd (by decide) hrm hd
def f_X0_next (o0 : Nat) (x1 : Int32) (M : Mm) : Int32 :=
  (((x1 &&& (M o0 1)) ||| (sl (x1 &&& (M o0 2)) (3 : Int32))) ||| ((sr x1 (3 : Int32)) &&& (M o0 2)))
set_option maxRecDepth 100000 in
set_option maxHeartbeats 4000000 in
theorem c_X0_next {l : Launch} {D : va_G} {an : An} {b : Nat} {o0 : Nat} {x1 : Int32} (hk0 : KDF[o0]? = some (0, 0)) {M : Mm}  : Ct l D an b 0 yX0_next cX0_next 2 (some .int) 1 [.ref (b + o0), .int x1] KDF M (some (.int (f_X0_next o0 x1 M))) KDF M := by
  refine CtX.mk (as := fun b => [.ref (b + o0), .int x1]) (rv := fun b => (some (.int (f_X0_next o0 x1 M)))) (by decide) (fun b => Nat.le_of_ble_eq_true rfl) ⟨Nat.le_refl _, Nat.le_refl _⟩ (fun x X hR Z hN _ _ => ?_)
  have X : Ok x cX0_next 2 RX0 (some .int) := X
  have G : Gz x 2 0 [(0, .ref (xb x + o0)), (1, .int x1)] [] KDF M (some (f_X0_next o0 x1 M)) (PsI x KDF M) := by
    unfold f_X0_next
    refine g1 (pc' := 1) (w_iload_n X dX0_next_0 rfl 1 rfl) ?_
    refine g1 (pc' := 2) (w_aload_n X dX0_next_1 rfl 0 rfl) ?_
    refine g1 (pc' := 5) (gt_0_1 X hk0 mw_100 dX0_next_2) ?_
    refine g1 (pc' := 6) (w_iand X dX0_next_5) ?_
    refine g1 (pc' := 7) (w_iload_n X dX0_next_6 rfl 1 rfl) ?_
    refine g1 (pc' := 8) (w_aload_n X dX0_next_7 rfl 0 rfl) ?_
    refine g1 (pc' := 11) (gt_0_2 X hk0 mw_101 dX0_next_8) ?_
    refine g1 (pc' := 12) (w_iand X dX0_next_11) ?_
    refine g1 (pc' := 13) (w_iconst X (3) dX0_next_12 (by decide)) ?_
    refine g1 (pc' := 14) (w_ishl X dX0_next_13) ?_
    refine g1 (pc' := 15) (w_ior X dX0_next_14) ?_
    refine g1 (pc' := 16) (w_iload_n X dX0_next_15 rfl 1 rfl) ?_
    refine g1 (pc' := 17) (w_iconst X (3) dX0_next_16 (by decide)) ?_
    refine g1 (pc' := 18) (w_ishr X dX0_next_17) ?_
    refine g1 (pc' := 19) (w_aload_n X dX0_next_18 rfl 0 rfl) ?_
    refine g1 (pc' := 22) (gt_0_2 X hk0 mw_101 dX0_next_19) ?_
    refine g1 (pc' := 23) (w_iand X dX0_next_22) ?_
    refine g1 (pc' := 24) (w_ior X dX0_next_23) ?_
    exact g_rI X dX0_next_24
  exact G _ rfl _ rfl
theorem k_X0_next {x : Cxt} {cc : ByteArray} {nL : Nat} {own : String} {ret : Option FieldType} (X : Ok x cc nL own ret) {d : Nat} (hR : Rm x d KDF) (hN : Nst x) (Z : xz x = 0) {pc : Nat} {lv : List (Nat × Value)} {rest : List Value} {M : Mm} {o0 : Nat} {x1 : Int32} (hk0 : KDF[o0]? = some (0, 0)) {idx : Nat} (hw : Cond.methodLink own idx yX0_next ∈ tbG) (hdd : 1 + 1 ≤ d) (hrm : (rest.map fun v => v.category).sum ≤ 8) (hd : decode cc pc = .ok (.invokevirtual idx, 3))  : StpZ x nL pc lv (.int x1 :: .ref (xb x + o0) :: rest) KDF M (pc + 3) lv (.int (f_X0_next o0 x1 M) :: rest) KDF M :=
  w_callV (st := []) (As := [.int x1]) X hR hN (CtX0 Z (c_X0_next hk0 )) ⟨Nat.le_refl _, Nat.le_refl _⟩ ⟨Nat.le_refl _, Nat.le_refl _⟩ hk0 (ci := 0) (fs := fs_0 o0) (fun _ _ _ => rfl) rfl hw mw_629 mw_630 mw_63 mw_631 (n := 1) (by decide +kernel) rfl hdd (by decide) hrm hd
def b_X5_rounds_4 (x0 : Int32) (s4 : Int32 × Int32) : Option ((Int32 × Int32) ⊕ (Int32)) :=
  (if x0 ≤ s4.2 then some (.inr s4.1) else Lt (s4.1 ||| (sl s4.2 ((3 : Int32) * s4.2))) (fun v2 => Lt (s4.2 + (1 : Int32)) (fun v3 => some (.inl (v2, v3)))))
def f_X5_rounds (x0 : Int32) : Option (Int32) :=
  Bd (Lp (b_X5_rounds_4 x0) 100000 ((0 : Int32), (0 : Int32))) (fun e4 => some e4)
set_option maxRecDepth 100000 in
set_option maxHeartbeats 4000000 in
theorem c_X5_rounds {l : Launch} {D : va_G} {an : An} {b : Nat} {x0 : Int32}  {M : Mm} {r : Int32} (h : f_X5_rounds x0 = some r) : Ct l D an b 0 yX5_rounds cX5_rounds 3 (some .int) 1 [.int x0] KDF M (some (.int r)) KDF M := by
  refine CtX.mk (as := fun b => [.int x0]) (rv := fun b => (some (.int r))) (by decide) (fun b => Nat.le_of_ble_eq_true rfl) ⟨Nat.le_refl _, Nat.le_refl _⟩ (fun x X hR Z hN _ _ => ?_)
  have X : Ok x cX5_rounds 3 RX5 (some .int) := X
  have G : Gz x 3 0 [(0, .int x0)] [] KDF M (f_X5_rounds x0) (PsI x KDF M) := by
    unfold f_X5_rounds
    refine g1 (pc' := 1) (w_iconst X (0) dX5_rounds_0 (by decide)) ?_
    refine g1 (pc' := 2) (lv' := [(1, .int (0 : Int32)), (0, .int x0)]) (w_istore_n X dX5_rounds_1 rfl (by decide) rfl) ?_
    refine g1 (pc' := 3) (w_iconst X (0) dX5_rounds_2 (by decide)) ?_
    refine g1 (pc' := 4) (lv' := [(2, .int (0 : Int32)), (1, .int (0 : Int32)), (0, .int x0)]) (w_istore_n X dX5_rounds_3 rfl (by decide) rfl) ?_
    refine g_pick (lv' := [(0, .int x0), (1, .int (0 : Int32)), (2, .int (0 : Int32))]) [2, 1, 0] rfl ?_
    refine g_bdJ (J := 23) (fun e4 => [(1, .int e4)]) (fun e4 => []) (fun e4 => M) (g_lp (fun s4 => [(0, .int x0), (1, .int s4.1), (2, .int s4.2)]) (fun s4 => M) (fun s4 => ?_) 100000 ((0 : Int32), (0 : Int32))) (fun e4 => ?_)
    · show Gz x 3 4 [(0, .int x0), (1, .int s4.1), (2, .int s4.2)] [] KDF M (b_X5_rounds_4 x0 s4) _
      unfold b_X5_rounds_4
      refine g1 (pc' := 5) (w_iload_n X dX5_rounds_4 rfl 2 rfl) ?_
      refine g1 (pc' := 6) (w_iload_n X dX5_rounds_5 rfl 0 rfl) ?_
      refine g_if (pcT := 23) (pcF := 9) (w_icmp_ge (tgt := 23) X dX5_rounds_6 (by decide)) (fun h1 => ?_) (fun h1 => ?_)
      · refine g_inr ?_
        exact g_end [1] rfl rfl rfl
      · refine g1 (pc' := 10) (w_iload_n X dX5_rounds_9 rfl 1 rfl) ?_
        refine g1 (pc' := 11) (w_iload_n X dX5_rounds_10 rfl 2 rfl) ?_
        refine g1 (pc' := 12) (w_iconst X (3) dX5_rounds_11 (by decide)) ?_
        refine g1 (pc' := 13) (w_iload_n X dX5_rounds_12 rfl 2 rfl) ?_
        refine g1 (pc' := 14) (w_imul X dX5_rounds_13) ?_
        refine g1 (pc' := 15) (w_ishl X dX5_rounds_14) ?_
        refine g1 (pc' := 16) (w_ior X dX5_rounds_15) ?_
        refine g_lt (pc' := 17) (fun v2 => [(1, .int v2), (0, .int x0), (2, .int s4.2)]) (fun v2 => []) (fun v2 => M) (w_istore_n X dX5_rounds_16 rfl (by decide) rfl) (fun v2 => ?_)
        show Gz x 3 17 [(1, .int v2), (0, .int x0), (2, .int s4.2)] [] KDF M _ _
        refine g_lt (pc' := 20) (fun v3 => [(2, .int v3), (1, .int v2), (0, .int x0)]) (fun v3 => []) (fun v3 => M) (w_iinc X dX5_rounds_17 2 rfl rfl (by decide) rfl) (fun v3 => ?_)
        show Gz x 3 20 [(2, .int v3), (1, .int v2), (0, .int x0)] [] KDF M _ _
        refine g1 (pc' := 4) (w_goto X dX5_rounds_20 (by decide)) ?_
        refine g_inl ?_
        exact g_end [2, 1, 0] rfl rfl rfl
    · show Gz x 3 23 [(1, .int e4)] [] KDF M _ _
      refine g1 (pc' := 24) (w_iload_n X dX5_rounds_23 rfl 0 rfl) ?_
      exact g_rI X dX5_rounds_24
  exact G _ h _ rfl
theorem k_X5_rounds {x : Cxt} {cc : ByteArray} {nL : Nat} {own : String} {ret : Option FieldType} (X : Ok x cc nL own ret) {d : Nat} (hR : Rm x d KDF) (hN : Nst x) (Z : xz x = 0) {pc : Nat} {lv : List (Nat × Value)} {rest : List Value} {M : Mm} {x0 : Int32}  {idx : Nat} (hw : Cond.methodLink own idx yX5_rounds ∈ tbG) (hdd : 1 + 1 ≤ d) (hrm : (rest.map fun v => v.category).sum ≤ 8) (hd : decode cc pc = .ok (.invokestatic idx, 3)) {r : Int32} (h : f_X5_rounds x0 = some r) : StpZ x nL pc lv (.int x0 :: rest) KDF M (pc + 3) lv (.int r :: rest) KDF M :=
  w_callS (st := []) (As := [.int x0]) X hR hN (CtX0 Z (c_X5_rounds  h)) ⟨Nat.le_refl _, Nat.le_refl _⟩ ⟨Nat.le_refl _, Nat.le_refl _⟩ hw mw_485 mw_73 mw_486 (n := 1) (by decide +kernel) rfl hdd (by decide) hrm hd
def f_X10_begin (o0 : Nat) (o1 : Nat) (M : Mm) : Option (Mm) :=
  Bd (f_X5_rounds (M o1 0)) (fun r1 => Lt (st2 M o0 0 r1) (fun M2 => Lt (st2 M2 o0 1 (0 : Int32)) (fun M3 => Lt (st2 M3 o0 2 (0 : Int32)) (fun M4 => some M4))))
set_option maxRecDepth 100000 in
set_option maxHeartbeats 4000000 in
theorem c_X10_begin {l : Launch} {D : va_G} {an : An} {b : Nat} {o0 : Nat} {o1 : Nat} (hk0 : KDF[o0]? = some (10, 0)) (hk1 : KDF[o1]? = some (9, 0)) {M : Mm} {M' : Mm} (h : f_X10_begin o0 o1 M = some M') : Ct l D an b 0 yX10_begin cX10_begin 2 none 2 [.ref (b + o0), .ref (b + o1)] KDF M none KDF M' := by
  refine CtX.mk (as := fun b => [.ref (b + o0), .ref (b + o1)]) (rv := fun b => none) (by decide) (fun b => Nat.le_of_ble_eq_true rfl) ⟨Nat.le_refl _, Nat.le_refl _⟩ (fun x X hR Z hN _ _ => ?_)
  have X : Ok x cX10_begin 2 RX10 none := X
  have G : Gz x 2 0 [(0, .ref (xb x + o0)), (1, .ref (xb x + o1))] [] KDF M (f_X10_begin o0 o1 M) (PsM x KDF) := by
    unfold f_X10_begin
    refine g1 (pc' := 1) (w_aload_n X dX10_begin_0 rfl 0 rfl) ?_
    refine g1 (pc' := 2) (w_aload_n X dX10_begin_1 rfl 1 rfl) ?_
    refine g1 (pc' := 5) (gt_9_0 X hk1 mw_111 dX10_begin_2) ?_
    refine g_bd (pc' := 8) (fun r1 => [(0, .ref (xb x + o0)), (1, .ref (xb x + o1))]) (fun r1 => [.int r1, .ref (xb x + o0)]) (fun r1 => M) (fun r1 h => k_X5_rounds X hR hN Z  mw_484 (by decide) (Nat.le_of_ble_eq_true rfl) dX10_begin_5 h) (fun r1 => ?_)
    show Gz x 2 8 [(0, .ref (xb x + o0)), (1, .ref (xb x + o1))] [.int r1, .ref (xb x + o0)] KDF M _ _
    refine g_lt (pc' := 11) (fun M2 => [(0, .ref (xb x + o0)), (1, .ref (xb x + o1))]) (fun M2 => []) (fun M2 => M2) (pt_10_0 X Z hk0 mw_193 dX10_begin_8) (fun M2 => ?_)
    show Gz x 2 11 [(0, .ref (xb x + o0)), (1, .ref (xb x + o1))] [] KDF M2 _ _
    refine g1 (pc' := 12) (w_aload_n X dX10_begin_11 rfl 0 rfl) ?_
    refine g1 (pc' := 13) (w_iconst X (0) dX10_begin_12 (by decide)) ?_
    refine g_lt (pc' := 16) (fun M3 => [(0, .ref (xb x + o0)), (1, .ref (xb x + o1))]) (fun M3 => []) (fun M3 => M3) (pt_10_1 X Z hk0 mw_196 dX10_begin_13) (fun M3 => ?_)
    show Gz x 2 16 [(0, .ref (xb x + o0)), (1, .ref (xb x + o1))] [] KDF M3 _ _
    refine g1 (pc' := 17) (w_aload_n X dX10_begin_16 rfl 0 rfl) ?_
    refine g1 (pc' := 18) (w_iconst X (0) dX10_begin_17 (by decide)) ?_
    refine g_lt (pc' := 21) (fun M4 => [(0, .ref (xb x + o0)), (1, .ref (xb x + o1))]) (fun M4 => []) (fun M4 => M4) (pt_10_2 X Z hk0 zb0 mw_198 dX10_begin_18) (fun M4 => ?_)
    show Gz x 2 21 [(0, .ref (xb x + o0)), (1, .ref (xb x + o1))] [] KDF M4 _ _
    exact g_rM X dX10_begin_21
  exact G _ h _ rfl
theorem k_X10_begin {x : Cxt} {cc : ByteArray} {nL : Nat} {own : String} {ret : Option FieldType} (X : Ok x cc nL own ret) {d : Nat} (hR : Rm x d KDF) (hN : Nst x) (Z : xz x = 0) {pc : Nat} {lv : List (Nat × Value)} {rest : List Value} {M : Mm} {o0 : Nat} {o1 : Nat} (hk0 : KDF[o0]? = some (10, 0)) (hk1 : KDF[o1]? = some (9, 0)) {idx : Nat} (hw : Cond.methodLink own idx yX10_begin ∈ tbG) (hdd : 2 + 1 ≤ d) (hrm : (rest.map fun v => v.category).sum ≤ 8) (hd : decode cc pc = .ok (.invokevirtual idx, 3)) {M' : Mm} (h : f_X10_begin o0 o1 M = some M') : StpZ x nL pc lv (.ref (xb x + o1) :: .ref (xb x + o0) :: rest) KDF M (pc + 3) lv (rest) KDF M' :=
  w_callV (st := []) (As := [.ref (xb x + o1)]) X hR hN (CtX0 Z (c_X10_begin hk0 hk1 h)) ⟨Nat.le_refl _, Nat.le_refl _⟩ ⟨Nat.le_refl _, Nat.le_refl _⟩ hk0 (ci := 10) (fs := fs_10 o0) (fun _ _ _ => rfl) rfl hw mw_481 mw_482 mw_66 mw_483 (n := 1) (by decide +kernel) rfl hdd (by decide) hrm hd
def b_J7_fill_53178_5 (o0 : Nat) (x1 : Int32) (v1 : Int32) (s5 : Int32 × Mm) : Option ((Int32 × Mm) ⊕ (Mm)) :=
  (if v1 ≤ s5.1 then some (.inr s5.2) else Gd (ib s5.1 (kln o0)) (Lt (st2 s5.2 o0 (ix s5.1) x1) (fun M4 => Lt (s5.1 + (1 : Int32)) (fun v5 => some (.inl (v5, M4))))))
def f_J7_fill_53178 (o0 : Nat) (x1 : Int32) (M : Mm) : Option (Mm) :=
  Lt (nI (kln o0)) (fun v1 => Bd (Lp (b_J7_fill_53178_5 o0 x1 v1) 100000 ((0 : Int32), M)) (fun e6 => some e6))
set_option maxRecDepth 100000 in
set_option maxHeartbeats 4000000 in
theorem c_J7_fill_53178 {l : Launch} {D : va_G} {an : An} {b : Nat} {o0 : Nat} {x1 : Int32} (hk0 : KDF[o0]? = some (13, kln o0)) {M : Mm} {M' : Mm} (h : f_J7_fill_53178 o0 x1 M = some M') : Ct l D an b 0 yJ7_fill_53178 cJ7_fill_53178 4 none 1 [.ref (b + o0), .int x1] KDF M none KDF M' := by
  refine CtX.mk (as := fun b => [.ref (b + o0), .int x1]) (rv := fun b => none) (by decide) (fun b => Nat.le_of_ble_eq_true rfl) ⟨Nat.le_refl _, Nat.le_refl _⟩ (fun x X hR Z hN _ _ => ?_)
  have X : Ok x cJ7_fill_53178 4 RJ7 none := X
  have G : Gz x 4 0 [(0, .ref (xb x + o0)), (1, .int x1)] [] KDF M (f_J7_fill_53178 o0 x1 M) (PsM x KDF) := by
    unfold f_J7_fill_53178
    refine g1 (pc' := 1) (w_iconst X (0) dJ7_fill_53178_0 (by decide)) ?_
    refine g1 (pc' := 2) (lv' := [(2, .int (0 : Int32)), (0, .ref (xb x + o0)), (1, .int x1)]) (w_istore_n X dJ7_fill_53178_1 rfl (by decide) rfl) ?_
    refine g1 (pc' := 3) (w_aload_n X dJ7_fill_53178_2 rfl 1 rfl) ?_
    refine g1 (pc' := 4) (w_alen X hk0 dJ7_fill_53178_3) ?_
    refine g_lt (pc' := 5) (fun v1 => [(3, .int v1), (2, .int (0 : Int32)), (0, .ref (xb x + o0)), (1, .int x1)]) (fun v1 => []) (fun v1 => M) (w_istore_n X dJ7_fill_53178_4 rfl (by decide) rfl) (fun v1 => ?_)
    show Gz x 4 5 [(3, .int v1), (2, .int (0 : Int32)), (0, .ref (xb x + o0)), (1, .int x1)] [] KDF M _ _
    refine g_pick (lv' := [(0, .ref (xb x + o0)), (1, .int x1), (2, .int (0 : Int32)), (3, .int v1)]) [2, 3, 1, 0] rfl ?_
    refine g_bdJ (J := 20) (fun e6 => []) (fun e6 => []) (fun e6 => e6) (g_lp (fun s5 => [(0, .ref (xb x + o0)), (1, .int x1), (2, .int s5.1), (3, .int v1)]) (fun s5 => s5.2) (fun s5 => ?_) 100000 ((0 : Int32), M)) (fun e6 => ?_)
    · show Gz x 4 5 [(0, .ref (xb x + o0)), (1, .int x1), (2, .int s5.1), (3, .int v1)] [] KDF s5.2 (b_J7_fill_53178_5 o0 x1 v1 s5) _
      unfold b_J7_fill_53178_5
      refine g1 (pc' := 6) (w_iload_n X dJ7_fill_53178_5 rfl 2 rfl) ?_
      refine g1 (pc' := 7) (w_iload_n X dJ7_fill_53178_6 rfl 3 rfl) ?_
      refine g_if (pcT := 20) (pcF := 10) (w_icmp_ge (tgt := 20) X dJ7_fill_53178_7 (by decide)) (fun h2 => ?_) (fun h2 => ?_)
      · refine g_inr ?_
        exact g_end [] rfl rfl rfl
      · refine g1 (pc' := 11) (w_aload_n X dJ7_fill_53178_10 rfl 0 rfl) ?_
        refine g1 (pc' := 12) (w_iload_n X dJ7_fill_53178_11 rfl 2 rfl) ?_
        refine g1 (pc' := 13) (w_iload_n X dJ7_fill_53178_12 rfl 1 rfl) ?_
        refine g_gd (fun h3 => ?_)
        refine g_lt (pc' := 14) (fun M4 => [(0, .ref (xb x + o0)), (1, .int x1), (2, .int s5.1), (3, .int v1)]) (fun M4 => []) (fun M4 => M4) (w_iast X Z hk0 h3 dJ7_fill_53178_13) (fun M4 => ?_)
        show Gz x 4 14 [(0, .ref (xb x + o0)), (1, .int x1), (2, .int s5.1), (3, .int v1)] [] KDF M4 _ _
        refine g_lt (pc' := 17) (fun v5 => [(2, .int v5), (0, .ref (xb x + o0)), (1, .int x1), (3, .int v1)]) (fun v5 => []) (fun v5 => M4) (w_iinc X dJ7_fill_53178_14 2 rfl rfl (by decide) rfl) (fun v5 => ?_)
        show Gz x 4 17 [(2, .int v5), (0, .ref (xb x + o0)), (1, .int x1), (3, .int v1)] [] KDF M4 _ _
        refine g1 (pc' := 5) (w_goto X dJ7_fill_53178_17 (by decide)) ?_
        refine g_inl ?_
        exact g_end [1, 2, 0, 3] rfl rfl rfl
    · show Gz x 4 20 [] [] KDF e6 _ _
      exact g_rM X dJ7_fill_53178_20
  exact G _ h _ rfl
theorem k_J7_fill_53178 {x : Cxt} {cc : ByteArray} {nL : Nat} {own : String} {ret : Option FieldType} (X : Ok x cc nL own ret) {d : Nat} (hR : Rm x d KDF) (hN : Nst x) (Z : xz x = 0) {pc : Nat} {lv : List (Nat × Value)} {rest : List Value} {M : Mm} {o0 : Nat} {x1 : Int32} (hk0 : KDF[o0]? = some (13, kln o0)) {idx : Nat} (hw : Cond.methodLink own idx yJ7_fill_53178 ∈ tbG) (hdd : 1 + 1 ≤ d) (hrm : (rest.map fun v => v.category).sum ≤ 8) (hd : decode cc pc = .ok (.invokestatic idx, 3)) {M' : Mm} (h : f_J7_fill_53178 o0 x1 M = some M') : StpZ x nL pc lv (.int x1 :: .ref (xb x + o0) :: rest) KDF M (pc + 3) lv (rest) KDF M' :=
  w_callS (st := []) (As := [.ref (xb x + o0), .int x1]) X hR hN (CtX0 Z (c_J7_fill_53178 hk0 h)) ⟨Nat.le_refl _, Nat.le_refl _⟩ ⟨Nat.le_refl _, Nat.le_refl _⟩ hw mw_488 mw_74 mw_489 (n := 2) (by decide +kernel) rfl hdd (by decide) hrm hd
def f_X1_standAgain (o0 : Nat) (o1 : Nat) (M : Mm) : Option (Mm) :=
  Bd (f_X10_begin (o0 + 1) o1 M) (fun r1 => Bd (f_J7_fill_53178 (o0 + 3) (0 : Int32) r1) (fun r2 => some r2))
set_option maxRecDepth 100000 in
set_option maxHeartbeats 4000000 in
theorem c_X1_standAgain {l : Launch} {D : va_G} {an : An} {b : Nat} {o0 : Nat} {o1 : Nat} (hk0 : KDF[o0]? = some (1, 0)) (hk1 : KDF[o1]? = some (9, 0)) {M : Mm} {M' : Mm} (h : f_X1_standAgain o0 o1 M = some M') : Ct l D an b 0 yX1_standAgain cX1_standAgain 2 none 3 [.ref (b + o0), .ref (b + o1)] KDF M none KDF M' := by
  refine CtX.mk (as := fun b => [.ref (b + o0), .ref (b + o1)]) (rv := fun b => none) (by decide) (fun b => Nat.le_of_ble_eq_true rfl) ⟨Nat.le_refl _, Nat.le_refl _⟩ (fun x X hR Z hN _ _ => ?_)
  have X : Ok x cX1_standAgain 2 RX1 none := X
  have G : Gz x 2 0 [(0, .ref (xb x + o0)), (1, .ref (xb x + o1))] [] KDF M (f_X1_standAgain o0 o1 M) (PsM x KDF) := by
    unfold f_X1_standAgain
    refine g1 (pc' := 1) (w_aload_n X dX1_standAgain_0 rfl 0 rfl) ?_
    refine g1 (pc' := 4) (gt_1_0 X hk0 mw_207 dX1_standAgain_1) ?_
    refine g1 (pc' := 5) (w_aload_n X dX1_standAgain_4 rfl 1 rfl) ?_
    refine g_bd (pc' := 8) (fun r1 => [(0, .ref (xb x + o0)), (1, .ref (xb x + o1))]) (fun r1 => []) (fun r1 => r1) (fun r1 h => k_X10_begin X hR hN Z (kd_Ev1 hk0) hk1 mw_480 (by decide) (Nat.le_of_ble_eq_true rfl) dX1_standAgain_5 h) (fun r1 => ?_)
    show Gz x 2 8 [(0, .ref (xb x + o0)), (1, .ref (xb x + o1))] [] KDF r1 _ _
    refine g1 (pc' := 9) (w_aload_n X dX1_standAgain_8 rfl 0 rfl) ?_
    refine g1 (pc' := 12) (gt_1_5 X hk0 mw_216 dX1_standAgain_9) ?_
    refine g1 (pc' := 13) (w_iconst X (0) dX1_standAgain_12 (by decide)) ?_
    refine g_bd (pc' := 16) (fun r2 => [(0, .ref (xb x + o0)), (1, .ref (xb x + o1))]) (fun r2 => []) (fun r2 => r2) (fun r2 h => k_J7_fill_53178 X hR hN Z (kln_of (kd_Ev3 hk0)) mw_487 (by decide) (Nat.le_of_ble_eq_true rfl) dX1_standAgain_13 h) (fun r2 => ?_)
    show Gz x 2 16 [(0, .ref (xb x + o0)), (1, .ref (xb x + o1))] [] KDF r2 _ _
    exact g_rM X dX1_standAgain_16
  exact G _ h _ rfl
theorem k_X1_standAgain {x : Cxt} {cc : ByteArray} {nL : Nat} {own : String} {ret : Option FieldType} (X : Ok x cc nL own ret) {d : Nat} (hR : Rm x d KDF) (hN : Nst x) (Z : xz x = 0) {pc : Nat} {lv : List (Nat × Value)} {rest : List Value} {M : Mm} {o0 : Nat} {o1 : Nat} (hk0 : KDF[o0]? = some (1, 0)) (hk1 : KDF[o1]? = some (9, 0)) {idx : Nat} (hw : Cond.methodLink own idx yX1_standAgain ∈ tbG) (hdd : 3 + 1 ≤ d) (hrm : (rest.map fun v => v.category).sum ≤ 8) (hd : decode cc pc = .ok (.invokevirtual idx, 3)) {M' : Mm} (h : f_X1_standAgain o0 o1 M = some M') : StpZ x nL pc lv (.ref (xb x + o1) :: .ref (xb x + o0) :: rest) KDF M (pc + 3) lv (rest) KDF M' :=
  w_callV (st := []) (As := [.ref (xb x + o1)]) X hR hN (CtX0 Z (c_X1_standAgain hk0 hk1 h)) ⟨Nat.le_refl _, Nat.le_refl _⟩ ⟨Nat.le_refl _, Nat.le_refl _⟩ hk0 (ci := 1) (fs := fs_1 o0) (fun _ _ _ => rfl) rfl hw mw_477 mw_478 mw_65 mw_479 (n := 1) (by decide +kernel) rfl hdd (by decide) hrm hd
def b_X1_begin_22 (o0 : Nat) (s22 : Int32 × Mm) : Option ((Int32 × Mm) ⊕ (Mm)) :=
  (if (6 : Int32) ≤ s22.1 then some (.inr s22.2) else Gd (ib s22.1 6) (Lt (st2 s22.2 (o0 + 2) (ix s22.1) s22.1) (fun M7 => Lt (s22.1 + (1 : Int32)) (fun v8 => some (.inl (v8, M7))))))
def f_X1_begin (o0 : Nat) (o1 : Nat) (M : Mm) : Option (Mm) :=
  Bd (f_X1_standAgain o0 o1 M) (fun r1 => Lt (st2 r1 o0 1 (0 : Int32)) (fun M2 => Lt (st2 M2 o0 2 (0 : Int32)) (fun M3 => Lt (st2 M3 o0 3 (0 : Int32)) (fun M4 => Bd (Lp (b_X1_begin_22 o0) 100000 ((0 : Int32), M4)) (fun e9 => some e9)))))
set_option maxRecDepth 100000 in
set_option maxHeartbeats 4000000 in
theorem c_X1_begin {l : Launch} {D : va_G} {an : An} {b : Nat} {o0 : Nat} {o1 : Nat} (hk0 : KDF[o0]? = some (1, 0)) (hk1 : KDF[o1]? = some (9, 0)) {M : Mm} {M' : Mm} (h : f_X1_begin o0 o1 M = some M') : Ct l D an b 0 yX1_begin cX1_begin 3 none 4 [.ref (b + o0), .ref (b + o1)] KDF M none KDF M' := by
  refine CtX.mk (as := fun b => [.ref (b + o0), .ref (b + o1)]) (rv := fun b => none) (by decide) (fun b => Nat.le_of_ble_eq_true rfl) ⟨Nat.le_refl _, Nat.le_refl _⟩ (fun x X hR Z hN _ _ => ?_)
  have X : Ok x cX1_begin 3 RX1 none := X
  have G : Gz x 3 0 [(0, .ref (xb x + o0)), (1, .ref (xb x + o1))] [] KDF M (f_X1_begin o0 o1 M) (PsM x KDF) := by
    unfold f_X1_begin
    refine g1 (pc' := 1) (w_aload_n X dX1_begin_0 rfl 0 rfl) ?_
    refine g1 (pc' := 2) (w_aload_n X dX1_begin_1 rfl 1 rfl) ?_
    refine g_bd (pc' := 5) (fun r1 => [(0, .ref (xb x + o0)), (1, .ref (xb x + o1))]) (fun r1 => []) (fun r1 => r1) (fun r1 h => k_X1_standAgain X hR hN Z hk0 hk1 mw_476 (by decide) (Nat.le_of_ble_eq_true rfl) dX1_begin_2 h) (fun r1 => ?_)
    show Gz x 3 5 [(0, .ref (xb x + o0)), (1, .ref (xb x + o1))] [] KDF r1 _ _
    refine g1 (pc' := 6) (w_aload_n X dX1_begin_5 rfl 0 rfl) ?_
    refine g1 (pc' := 7) (w_iconst X (0) dX1_begin_6 (by decide)) ?_
    refine g_lt (pc' := 10) (fun M2 => [(0, .ref (xb x + o0)), (1, .ref (xb x + o1))]) (fun M2 => []) (fun M2 => M2) (pt_1_1 X Z hk0 mw_209 dX1_begin_7) (fun M2 => ?_)
    show Gz x 3 10 [(0, .ref (xb x + o0)), (1, .ref (xb x + o1))] [] KDF M2 _ _
    refine g1 (pc' := 11) (w_aload_n X dX1_begin_10 rfl 0 rfl) ?_
    refine g1 (pc' := 12) (w_iconst X (0) dX1_begin_11 (by decide)) ?_
    refine g_lt (pc' := 15) (fun M3 => [(0, .ref (xb x + o0)), (1, .ref (xb x + o1))]) (fun M3 => []) (fun M3 => M3) (pt_1_2 X Z hk0 mw_211 dX1_begin_12) (fun M3 => ?_)
    show Gz x 3 15 [(0, .ref (xb x + o0)), (1, .ref (xb x + o1))] [] KDF M3 _ _
    refine g1 (pc' := 16) (w_aload_n X dX1_begin_15 rfl 0 rfl) ?_
    refine g1 (pc' := 17) (w_iconst X (0) dX1_begin_16 (by decide)) ?_
    refine g_lt (pc' := 20) (fun M4 => [(0, .ref (xb x + o0)), (1, .ref (xb x + o1))]) (fun M4 => []) (fun M4 => M4) (pt_1_3 X Z hk0 zb0 mw_213 dX1_begin_17) (fun M4 => ?_)
    show Gz x 3 20 [(0, .ref (xb x + o0)), (1, .ref (xb x + o1))] [] KDF M4 _ _
    refine g1 (pc' := 21) (w_iconst X (0) dX1_begin_20 (by decide)) ?_
    refine g1 (pc' := 22) (lv' := [(2, .int (0 : Int32)), (0, .ref (xb x + o0)), (1, .ref (xb x + o1))]) (w_istore_n X dX1_begin_21 rfl (by decide) rfl) ?_
    refine g_pick (lv' := [(0, .ref (xb x + o0)), (2, .int (0 : Int32))]) [1, 0] rfl ?_
    refine g_bdJ (J := 41) (fun e9 => []) (fun e9 => []) (fun e9 => e9) (g_lp (fun s22 => [(0, .ref (xb x + o0)), (2, .int s22.1)]) (fun s22 => s22.2) (fun s22 => ?_) 100000 ((0 : Int32), M4)) (fun e9 => ?_)
    · show Gz x 3 22 [(0, .ref (xb x + o0)), (2, .int s22.1)] [] KDF s22.2 (b_X1_begin_22 o0 s22) _
      unfold b_X1_begin_22
      refine g1 (pc' := 23) (w_iload_n X dX1_begin_22 rfl 1 rfl) ?_
      refine g1 (pc' := 25) (w_bipush X (6) dX1_begin_23 (by decide)) ?_
      refine g_if (pcT := 41) (pcF := 28) (w_icmp_ge (tgt := 41) X dX1_begin_25 (by decide)) (fun h5 => ?_) (fun h5 => ?_)
      · refine g_inr ?_
        exact g_end [] rfl rfl rfl
      · refine g1 (pc' := 29) (w_aload_n X dX1_begin_28 rfl 0 rfl) ?_
        refine g1 (pc' := 32) (gt_1_4 X hk0 mw_215 dX1_begin_29) ?_
        refine g1 (pc' := 33) (w_iload_n X dX1_begin_32 rfl 1 rfl) ?_
        refine g1 (pc' := 34) (w_iload_n X dX1_begin_33 rfl 1 rfl) ?_
        refine g_gd (fun h6 => ?_)
        refine g_lt (pc' := 35) (fun M7 => [(0, .ref (xb x + o0)), (2, .int s22.1)]) (fun M7 => []) (fun M7 => M7) (w_iast X Z (kd_Ev2 hk0) h6 dX1_begin_34) (fun M7 => ?_)
        show Gz x 3 35 [(0, .ref (xb x + o0)), (2, .int s22.1)] [] KDF M7 _ _
        refine g_lt (pc' := 38) (fun v8 => [(2, .int v8), (0, .ref (xb x + o0))]) (fun v8 => []) (fun v8 => M7) (w_iinc X dX1_begin_35 1 rfl rfl (by decide) rfl) (fun v8 => ?_)
        show Gz x 3 38 [(2, .int v8), (0, .ref (xb x + o0))] [] KDF M7 _ _
        refine g1 (pc' := 22) (w_goto X dX1_begin_38 (by decide)) ?_
        refine g_inl ?_
        exact g_end [1, 0] rfl rfl rfl
    · show Gz x 3 41 [] [] KDF e9 _ _
      exact g_rM X dX1_begin_41
  exact G _ h _ rfl
theorem k_X1_begin {x : Cxt} {cc : ByteArray} {nL : Nat} {own : String} {ret : Option FieldType} (X : Ok x cc nL own ret) {d : Nat} (hR : Rm x d KDF) (hN : Nst x) (Z : xz x = 0) {pc : Nat} {lv : List (Nat × Value)} {rest : List Value} {M : Mm} {o0 : Nat} {o1 : Nat} (hk0 : KDF[o0]? = some (1, 0)) (hk1 : KDF[o1]? = some (9, 0)) {idx : Nat} (hw : Cond.methodLink own idx yX1_begin ∈ tbG) (hdd : 4 + 1 ≤ d) (hrm : (rest.map fun v => v.category).sum ≤ 8) (hd : decode cc pc = .ok (.invokevirtual idx, 3)) {M' : Mm} (h : f_X1_begin o0 o1 M = some M') : StpZ x nL pc lv (.ref (xb x + o1) :: .ref (xb x + o0) :: rest) KDF M (pc + 3) lv (rest) KDF M' :=
  w_callV (st := []) (As := [.ref (xb x + o1)]) X hR hN (CtX0 Z (c_X1_begin hk0 hk1 h)) ⟨Nat.le_refl _, Nat.le_refl _⟩ ⟨Nat.le_refl _, Nat.le_refl _⟩ hk0 (ci := 1) (fs := fs_1 o0) (fun _ _ _ => rfl) rfl hw mw_473 mw_474 mw_65 mw_475 (n := 1) (by decide +kernel) rfl hdd (by decide) hrm hd
def f_X10_copyFrom (o0 : Nat) (o1 : Nat) (M : Mm) : Option (Mm) :=
  Lt (st2 M o0 0 (M o1 0)) (fun M1 => Lt (st2 M1 o0 1 (M1 o1 1)) (fun M2 => Gd (zb (M2 o1 2)) (Lt (st2 M2 o0 2 (M2 o1 2)) (fun M3 => some M3))))
set_option maxRecDepth 100000 in
set_option maxHeartbeats 4000000 in
theorem c_X10_copyFrom {l : Launch} {D : va_G} {an : An} {b : Nat} {o0 : Nat} {o1 : Nat} (hk0 : KDF[o0]? = some (10, 0)) (hk1 : KDF[o1]? = some (10, 0)) {M : Mm} {M' : Mm} (h : f_X10_copyFrom o0 o1 M = some M') : Ct l D an b 0 yX10_copyFrom cX10_copyFrom 2 none 1 [.ref (b + o0), .ref (b + o1)] KDF M none KDF M' := by
  refine CtX.mk (as := fun b => [.ref (b + o0), .ref (b + o1)]) (rv := fun b => none) (by decide) (fun b => Nat.le_of_ble_eq_true rfl) ⟨Nat.le_refl _, Nat.le_refl _⟩ (fun x X hR Z hN _ _ => ?_)
  have X : Ok x cX10_copyFrom 2 RX10 none := X
  have G : Gz x 2 0 [(0, .ref (xb x + o0)), (1, .ref (xb x + o1))] [] KDF M (f_X10_copyFrom o0 o1 M) (PsM x KDF) := by
    unfold f_X10_copyFrom
    refine g1 (pc' := 1) (w_aload_n X dX10_copyFrom_0 rfl 0 rfl) ?_
    refine g1 (pc' := 2) (w_aload_n X dX10_copyFrom_1 rfl 1 rfl) ?_
    refine g1 (pc' := 5) (gt_10_0 X hk1 mw_193 dX10_copyFrom_2) ?_
    refine g_lt (pc' := 8) (fun M1 => [(0, .ref (xb x + o0)), (1, .ref (xb x + o1))]) (fun M1 => []) (fun M1 => M1) (pt_10_0 X Z hk0 mw_193 dX10_copyFrom_5) (fun M1 => ?_)
    show Gz x 2 8 [(0, .ref (xb x + o0)), (1, .ref (xb x + o1))] [] KDF M1 _ _
    refine g1 (pc' := 9) (w_aload_n X dX10_copyFrom_8 rfl 0 rfl) ?_
    refine g1 (pc' := 10) (w_aload_n X dX10_copyFrom_9 rfl 1 rfl) ?_
    refine g1 (pc' := 13) (gt_10_1 X hk1 mw_196 dX10_copyFrom_10) ?_
    refine g_lt (pc' := 16) (fun M2 => [(0, .ref (xb x + o0)), (1, .ref (xb x + o1))]) (fun M2 => []) (fun M2 => M2) (pt_10_1 X Z hk0 mw_196 dX10_copyFrom_13) (fun M2 => ?_)
    show Gz x 2 16 [(0, .ref (xb x + o0)), (1, .ref (xb x + o1))] [] KDF M2 _ _
    refine g1 (pc' := 17) (w_aload_n X dX10_copyFrom_16 rfl 0 rfl) ?_
    refine g1 (pc' := 18) (w_aload_n X dX10_copyFrom_17 rfl 1 rfl) ?_
    refine g1 (pc' := 21) (gt_10_2 X hk1 mw_198 dX10_copyFrom_18) ?_
    refine g_gd (fun h4 => ?_)
    refine g_lt (pc' := 24) (fun M3 => [(0, .ref (xb x + o0)), (1, .ref (xb x + o1))]) (fun M3 => []) (fun M3 => M3) (pt_10_2 X Z hk0 h4 mw_198 dX10_copyFrom_21) (fun M3 => ?_)
    show Gz x 2 24 [(0, .ref (xb x + o0)), (1, .ref (xb x + o1))] [] KDF M3 _ _
    exact g_rM X dX10_copyFrom_24
  exact G _ h _ rfl
theorem k_X10_copyFrom {x : Cxt} {cc : ByteArray} {nL : Nat} {own : String} {ret : Option FieldType} (X : Ok x cc nL own ret) {d : Nat} (hR : Rm x d KDF) (hN : Nst x) (Z : xz x = 0) {pc : Nat} {lv : List (Nat × Value)} {rest : List Value} {M : Mm} {o0 : Nat} {o1 : Nat} (hk0 : KDF[o0]? = some (10, 0)) (hk1 : KDF[o1]? = some (10, 0)) {idx : Nat} (hw : Cond.methodLink own idx yX10_copyFrom ∈ tbG) (hdd : 1 + 1 ≤ d) (hrm : (rest.map fun v => v.category).sum ≤ 8) (hd : decode cc pc = .ok (.invokevirtual idx, 3)) {M' : Mm} (h : f_X10_copyFrom o0 o1 M = some M') : StpZ x nL pc lv (.ref (xb x + o1) :: .ref (xb x + o0) :: rest) KDF M (pc + 3) lv (rest) KDF M' :=
  w_callV (st := []) (As := [.ref (xb x + o1)]) X hR hN (CtX0 Z (c_X10_copyFrom hk0 hk1 h)) ⟨Nat.le_refl _, Nat.le_refl _⟩ ⟨Nat.le_refl _, Nat.le_refl _⟩ hk0 (ci := 10) (fs := fs_10 o0) (fun _ _ _ => rfl) rfl hw mw_610 mw_611 mw_66 mw_612 (n := 1) (by decide +kernel) rfl hdd (by decide) hrm hd
def f_X1_copyFrom (o0 : Nat) (o1 : Nat) (M : Mm) : Option (Mm) :=
  Bd (f_X10_copyFrom (o0 + 1) (o1 + 1) M) (fun r1 => Lt (st2 r1 o0 1 (r1 o1 1)) (fun M2 => Lt (st2 M2 o0 2 (M2 o1 2)) (fun M3 => Gd (zb (M3 o1 3)) (Lt (st2 M3 o0 3 (M3 o1 3)) (fun M4 => Lt (stA M4 (o0 + 2) (va_cpy (M4 (o1 + 2)) (M4 (o0 + 2)) (ix (0 : Int32)) (ix (0 : Int32)) (ix (6 : Int32)))) (fun M6 => Lt (stA M6 (o0 + 3) (va_cpy (M6 (o1 + 3)) (M6 (o0 + 3)) (ix (0 : Int32)) (ix (0 : Int32)) (ix (6 : Int32)))) (fun M7 => some M7)))))))
set_option maxRecDepth 100000 in
set_option maxHeartbeats 4000000 in
theorem c_X1_copyFrom {l : Launch} {D : va_G} {an : An} {b : Nat} {o0 : Nat} {o1 : Nat} (hk0 : KDF[o0]? = some (1, 0)) (hk1 : KDF[o1]? = some (1, 0)) {M : Mm} {M' : Mm} (h : f_X1_copyFrom o0 o1 M = some M') : Ct l D an b 0 yX1_copyFrom cX1_copyFrom 2 none 2 [.ref (b + o0), .ref (b + o1)] KDF M none KDF M' := by
  refine CtX.mk (as := fun b => [.ref (b + o0), .ref (b + o1)]) (rv := fun b => none) (by decide) (fun b => Nat.le_of_ble_eq_true rfl) ⟨Nat.le_refl _, Nat.le_refl _⟩ (fun x X hR Z hN _ _ => ?_)
  have X : Ok x cX1_copyFrom 2 RX1 none := X
  have G : Gz x 2 0 [(0, .ref (xb x + o0)), (1, .ref (xb x + o1))] [] KDF M (f_X1_copyFrom o0 o1 M) (PsM x KDF) := by
    unfold f_X1_copyFrom
    refine g1 (pc' := 1) (w_aload_n X dX1_copyFrom_0 rfl 0 rfl) ?_
    refine g1 (pc' := 4) (gt_1_0 X hk0 mw_207 dX1_copyFrom_1) ?_
    refine g1 (pc' := 5) (w_aload_n X dX1_copyFrom_4 rfl 1 rfl) ?_
    refine g1 (pc' := 8) (gt_1_0 X hk1 mw_207 dX1_copyFrom_5) ?_
    refine g_bd (pc' := 11) (fun r1 => [(0, .ref (xb x + o0)), (1, .ref (xb x + o1))]) (fun r1 => []) (fun r1 => r1) (fun r1 h => k_X10_copyFrom X hR hN Z (kd_Ev1 hk0) (kd_Ev1 hk1) mw_609 (by decide) (Nat.le_of_ble_eq_true rfl) dX1_copyFrom_8 h) (fun r1 => ?_)
    show Gz x 2 11 [(0, .ref (xb x + o0)), (1, .ref (xb x + o1))] [] KDF r1 _ _
    refine g1 (pc' := 12) (w_aload_n X dX1_copyFrom_11 rfl 0 rfl) ?_
    refine g1 (pc' := 13) (w_aload_n X dX1_copyFrom_12 rfl 1 rfl) ?_
    refine g1 (pc' := 16) (gt_1_1 X hk1 mw_209 dX1_copyFrom_13) ?_
    refine g_lt (pc' := 19) (fun M2 => [(0, .ref (xb x + o0)), (1, .ref (xb x + o1))]) (fun M2 => []) (fun M2 => M2) (pt_1_1 X Z hk0 mw_209 dX1_copyFrom_16) (fun M2 => ?_)
    show Gz x 2 19 [(0, .ref (xb x + o0)), (1, .ref (xb x + o1))] [] KDF M2 _ _
    refine g1 (pc' := 20) (w_aload_n X dX1_copyFrom_19 rfl 0 rfl) ?_
    refine g1 (pc' := 21) (w_aload_n X dX1_copyFrom_20 rfl 1 rfl) ?_
    refine g1 (pc' := 24) (gt_1_2 X hk1 mw_211 dX1_copyFrom_21) ?_
    refine g_lt (pc' := 27) (fun M3 => [(0, .ref (xb x + o0)), (1, .ref (xb x + o1))]) (fun M3 => []) (fun M3 => M3) (pt_1_2 X Z hk0 mw_211 dX1_copyFrom_24) (fun M3 => ?_)
    show Gz x 2 27 [(0, .ref (xb x + o0)), (1, .ref (xb x + o1))] [] KDF M3 _ _
    refine g1 (pc' := 28) (w_aload_n X dX1_copyFrom_27 rfl 0 rfl) ?_
    refine g1 (pc' := 29) (w_aload_n X dX1_copyFrom_28 rfl 1 rfl) ?_
    refine g1 (pc' := 32) (gt_1_3 X hk1 mw_213 dX1_copyFrom_29) ?_
    refine g_gd (fun h5 => ?_)
    refine g_lt (pc' := 35) (fun M4 => [(0, .ref (xb x + o0)), (1, .ref (xb x + o1))]) (fun M4 => []) (fun M4 => M4) (pt_1_3 X Z hk0 h5 mw_213 dX1_copyFrom_32) (fun M4 => ?_)
    show Gz x 2 35 [(0, .ref (xb x + o0)), (1, .ref (xb x + o1))] [] KDF M4 _ _
    refine g1 (pc' := 36) (w_aload_n X dX1_copyFrom_35 rfl 1 rfl) ?_
    refine g1 (pc' := 39) (gt_1_4 X hk1 mw_215 dX1_copyFrom_36) ?_
    refine g1 (pc' := 40) (w_iconst X (0) dX1_copyFrom_39 (by decide)) ?_
    refine g1 (pc' := 41) (w_aload_n X dX1_copyFrom_40 rfl 0 rfl) ?_
    refine g1 (pc' := 44) (gt_1_4 X hk0 mw_215 dX1_copyFrom_41) ?_
    refine g1 (pc' := 45) (w_iconst X (0) dX1_copyFrom_44 (by decide)) ?_
    refine g1 (pc' := 47) (w_bipush X (6) dX1_copyFrom_45 (by decide)) ?_
    refine g_lt (pc' := 50) (fun M6 => [(0, .ref (xb x + o0)), (1, .ref (xb x + o1))]) (fun M6 => []) (fun M6 => M6) (w_copy X Z hR (kd_Ev2 hk1) (kd_Ev2 hk0) (by decide) (by decide) (by decide) mw_613 mw_615 mw_614 mw_76 (by decide) (Nat.le_of_ble_eq_true rfl) dX1_copyFrom_47) (fun M6 => ?_)
    show Gz x 2 50 [(0, .ref (xb x + o0)), (1, .ref (xb x + o1))] [] KDF M6 _ _
    refine g1 (pc' := 51) (w_aload_n X dX1_copyFrom_50 rfl 1 rfl) ?_
    refine g1 (pc' := 54) (gt_1_5 X hk1 mw_216 dX1_copyFrom_51) ?_
    refine g1 (pc' := 55) (w_iconst X (0) dX1_copyFrom_54 (by decide)) ?_
    refine g1 (pc' := 56) (w_aload_n X dX1_copyFrom_55 rfl 0 rfl) ?_
    refine g1 (pc' := 59) (gt_1_5 X hk0 mw_216 dX1_copyFrom_56) ?_
    refine g1 (pc' := 60) (w_iconst X (0) dX1_copyFrom_59 (by decide)) ?_
    refine g1 (pc' := 62) (w_bipush X (6) dX1_copyFrom_60 (by decide)) ?_
    refine g_lt (pc' := 65) (fun M7 => [(0, .ref (xb x + o0)), (1, .ref (xb x + o1))]) (fun M7 => []) (fun M7 => M7) (w_copy X Z hR (kd_Ev3 hk1) (kd_Ev3 hk0) (by decide) (by decide) (by decide) mw_613 mw_615 mw_614 mw_76 (by decide) (Nat.le_of_ble_eq_true rfl) dX1_copyFrom_62) (fun M7 => ?_)
    show Gz x 2 65 [(0, .ref (xb x + o0)), (1, .ref (xb x + o1))] [] KDF M7 _ _
    exact g_rM X dX1_copyFrom_65
  exact G _ h _ rfl
theorem k_X1_copyFrom {x : Cxt} {cc : ByteArray} {nL : Nat} {own : String} {ret : Option FieldType} (X : Ok x cc nL own ret) {d : Nat} (hR : Rm x d KDF) (hN : Nst x) (Z : xz x = 0) {pc : Nat} {lv : List (Nat × Value)} {rest : List Value} {M : Mm} {o0 : Nat} {o1 : Nat} (hk0 : KDF[o0]? = some (1, 0)) (hk1 : KDF[o1]? = some (1, 0)) {idx : Nat} (hw : Cond.methodLink own idx yX1_copyFrom ∈ tbG) (hdd : 2 + 1 ≤ d) (hrm : (rest.map fun v => v.category).sum ≤ 8) (hd : decode cc pc = .ok (.invokevirtual idx, 3)) {M' : Mm} (h : f_X1_copyFrom o0 o1 M = some M') : StpZ x nL pc lv (.ref (xb x + o1) :: .ref (xb x + o0) :: rest) KDF M (pc + 3) lv (rest) KDF M' :=
  w_callV (st := []) (As := [.ref (xb x + o1)]) X hR hN (CtX0 Z (c_X1_copyFrom hk0 hk1 h)) ⟨Nat.le_refl _, Nat.le_refl _⟩ ⟨Nat.le_refl _, Nat.le_refl _⟩ hk0 (ci := 1) (fs := fs_1 o0) (fun _ _ _ => rfl) rfl hw mw_606 mw_607 mw_65 mw_608 (n := 1) (by decide +kernel) rfl hdd (by decide) hrm hd
def f_X1_ropeOf (o0 : Nat) (x1 : Int32) (M : Mm) : Option (Int32) :=
  (if x1 < 0 then some (-1 : Int32) else (if (6 : Int32) ≤ x1 then some (-1 : Int32) else Gd (ib x1 6) (some (M (o0 + 2) (ix x1)))))
set_option maxRecDepth 100000 in
set_option maxHeartbeats 4000000 in
theorem c_X1_ropeOf {l : Launch} {D : va_G} {an : An} {b : Nat} {o0 : Nat} {x1 : Int32} (hk0 : KDF[o0]? = some (1, 0)) {M : Mm} {r : Int32} (h : f_X1_ropeOf o0 x1 M = some r) : Ct l D an b 0 yX1_ropeOf cX1_ropeOf 2 (some .int) 1 [.ref (b + o0), .int x1] KDF M (some (.int r)) KDF M := by
  refine CtX.mk (as := fun b => [.ref (b + o0), .int x1]) (rv := fun b => (some (.int r))) (by decide) (fun b => Nat.le_of_ble_eq_true rfl) ⟨Nat.le_refl _, Nat.le_refl _⟩ (fun x X hR Z hN _ _ => ?_)
  have X : Ok x cX1_ropeOf 2 RX1 (some .int) := X
  have G : Gz x 2 0 [(0, .ref (xb x + o0)), (1, .int x1)] [] KDF M (f_X1_ropeOf o0 x1 M) (PsI x KDF M) := by
    unfold f_X1_ropeOf
    refine g1 (pc' := 1) (w_iload_n X dX1_ropeOf_0 rfl 1 rfl) ?_
    refine g_if (pcT := 19) (pcF := 4) (w_if_lt (tgt := 19) X dX1_ropeOf_1 (by decide)) (fun h1 => ?_) (fun h1 => ?_)
    · refine g1 (pc' := 20) (w_iconst X (-1) dX1_ropeOf_19 (by decide)) ?_
      exact g_rI X dX1_ropeOf_20
    · refine g1 (pc' := 5) (w_iload_n X dX1_ropeOf_4 rfl 1 rfl) ?_
      refine g1 (pc' := 7) (w_bipush X (6) dX1_ropeOf_5 (by decide)) ?_
      refine g_if (pcT := 19) (pcF := 10) (w_icmp_ge (tgt := 19) X dX1_ropeOf_7 (by decide)) (fun h2 => ?_) (fun h2 => ?_)
      · refine g1 (pc' := 20) (w_iconst X (-1) dX1_ropeOf_19 (by decide)) ?_
        exact g_rI X dX1_ropeOf_20
      · refine g1 (pc' := 11) (w_aload_n X dX1_ropeOf_10 rfl 0 rfl) ?_
        refine g1 (pc' := 14) (gt_1_4 X hk0 mw_215 dX1_ropeOf_11) ?_
        refine g1 (pc' := 15) (w_iload_n X dX1_ropeOf_14 rfl 1 rfl) ?_
        refine g_gd (fun h3 => ?_)
        refine g1 (pc' := 16) (w_iald X (kd_Ev2 hk0) h3 dX1_ropeOf_15) ?_
        refine g1 (pc' := 20) (w_goto X dX1_ropeOf_16 (by decide)) ?_
        exact g_rI X dX1_ropeOf_20
  exact G _ h _ rfl
theorem k_X1_ropeOf {x : Cxt} {cc : ByteArray} {nL : Nat} {own : String} {ret : Option FieldType} (X : Ok x cc nL own ret) {d : Nat} (hR : Rm x d KDF) (hN : Nst x) (Z : xz x = 0) {pc : Nat} {lv : List (Nat × Value)} {rest : List Value} {M : Mm} {o0 : Nat} {x1 : Int32} (hk0 : KDF[o0]? = some (1, 0)) {idx : Nat} (hw : Cond.methodLink own idx yX1_ropeOf ∈ tbG) (hdd : 1 + 1 ≤ d) (hrm : (rest.map fun v => v.category).sum ≤ 8) (hd : decode cc pc = .ok (.invokevirtual idx, 3)) {r : Int32} (h : f_X1_ropeOf o0 x1 M = some r) : StpZ x nL pc lv (.int x1 :: .ref (xb x + o0) :: rest) KDF M (pc + 3) lv (.int r :: rest) KDF M :=
  w_callV (st := []) (As := [.int x1]) X hR hN (CtX0 Z (c_X1_ropeOf hk0 h)) ⟨Nat.le_refl _, Nat.le_refl _⟩ ⟨Nat.le_refl _, Nat.le_refl _⟩ hk0 (ci := 1) (fs := fs_1 o0) (fun _ _ _ => rfl) rfl hw mw_568 mw_569 mw_65 mw_570 (n := 1) (by decide +kernel) rfl hdd (by decide) hrm hd
def f_X1_tirednessOf (o0 : Nat) (x1 : Int32) (M : Mm) : Option (Int32) :=
  (if x1 < 0 then some (0 : Int32) else (if (6 : Int32) ≤ x1 then some (0 : Int32) else Gd (ib x1 6) (some (M (o0 + 3) (ix x1)))))
set_option maxRecDepth 100000 in
set_option maxHeartbeats 4000000 in
theorem c_X1_tirednessOf {l : Launch} {D : va_G} {an : An} {b : Nat} {o0 : Nat} {x1 : Int32} (hk0 : KDF[o0]? = some (1, 0)) {M : Mm} {r : Int32} (h : f_X1_tirednessOf o0 x1 M = some r) : Ct l D an b 0 yX1_tirednessOf cX1_tirednessOf 2 (some .int) 1 [.ref (b + o0), .int x1] KDF M (some (.int r)) KDF M := by
  refine CtX.mk (as := fun b => [.ref (b + o0), .int x1]) (rv := fun b => (some (.int r))) (by decide) (fun b => Nat.le_of_ble_eq_true rfl) ⟨Nat.le_refl _, Nat.le_refl _⟩ (fun x X hR Z hN _ _ => ?_)
  have X : Ok x cX1_tirednessOf 2 RX1 (some .int) := X
  have G : Gz x 2 0 [(0, .ref (xb x + o0)), (1, .int x1)] [] KDF M (f_X1_tirednessOf o0 x1 M) (PsI x KDF M) := by
    unfold f_X1_tirednessOf
    refine g1 (pc' := 1) (w_iload_n X dX1_tirednessOf_0 rfl 1 rfl) ?_
    refine g_if (pcT := 19) (pcF := 4) (w_if_lt (tgt := 19) X dX1_tirednessOf_1 (by decide)) (fun h1 => ?_) (fun h1 => ?_)
    · refine g1 (pc' := 20) (w_iconst X (0) dX1_tirednessOf_19 (by decide)) ?_
      exact g_rI X dX1_tirednessOf_20
    · refine g1 (pc' := 5) (w_iload_n X dX1_tirednessOf_4 rfl 1 rfl) ?_
      refine g1 (pc' := 7) (w_bipush X (6) dX1_tirednessOf_5 (by decide)) ?_
      refine g_if (pcT := 19) (pcF := 10) (w_icmp_ge (tgt := 19) X dX1_tirednessOf_7 (by decide)) (fun h2 => ?_) (fun h2 => ?_)
      · refine g1 (pc' := 20) (w_iconst X (0) dX1_tirednessOf_19 (by decide)) ?_
        exact g_rI X dX1_tirednessOf_20
      · refine g1 (pc' := 11) (w_aload_n X dX1_tirednessOf_10 rfl 0 rfl) ?_
        refine g1 (pc' := 14) (gt_1_5 X hk0 mw_216 dX1_tirednessOf_11) ?_
        refine g1 (pc' := 15) (w_iload_n X dX1_tirednessOf_14 rfl 1 rfl) ?_
        refine g_gd (fun h3 => ?_)
        refine g1 (pc' := 16) (w_iald X (kd_Ev3 hk0) h3 dX1_tirednessOf_15) ?_
        refine g1 (pc' := 20) (w_goto X dX1_tirednessOf_16 (by decide)) ?_
        exact g_rI X dX1_tirednessOf_20
  exact G _ h _ rfl
theorem k_X1_tirednessOf {x : Cxt} {cc : ByteArray} {nL : Nat} {own : String} {ret : Option FieldType} (X : Ok x cc nL own ret) {d : Nat} (hR : Rm x d KDF) (hN : Nst x) (Z : xz x = 0) {pc : Nat} {lv : List (Nat × Value)} {rest : List Value} {M : Mm} {o0 : Nat} {x1 : Int32} (hk0 : KDF[o0]? = some (1, 0)) {idx : Nat} (hw : Cond.methodLink own idx yX1_tirednessOf ∈ tbG) (hdd : 1 + 1 ≤ d) (hrm : (rest.map fun v => v.category).sum ≤ 8) (hd : decode cc pc = .ok (.invokevirtual idx, 3)) {r : Int32} (h : f_X1_tirednessOf o0 x1 M = some r) : StpZ x nL pc lv (.int x1 :: .ref (xb x + o0) :: rest) KDF M (pc + 3) lv (.int r :: rest) KDF M :=
  w_callV (st := []) (As := [.int x1]) X hR hN (CtX0 Z (c_X1_tirednessOf hk0 h)) ⟨Nat.le_refl _, Nat.le_refl _⟩ ⟨Nat.le_refl _, Nat.le_refl _⟩ hk0 (ci := 1) (fs := fs_1 o0) (fun _ _ _ => rfl) rfl hw mw_586 mw_587 mw_65 mw_588 (n := 1) (by decide +kernel) rfl hdd (by decide) hrm hd
def f_X1_isOut (o0 : Nat) (x1 : Int32) (M : Mm) : Int32 :=
  (if ((sr (M o0 2) x1) &&& (1 : Int32)) = 0 then (0 : Int32) else (1 : Int32))
theorem z_X1_isOut {o0 : Nat} {x1 : Int32} {M : Mm} : zb (f_X1_isOut o0 x1 M) := by
  unfold f_X1_isOut
  repeat' (first | exact zb0 | exact zb1 | apply zbi)
set_option maxRecDepth 100000 in
set_option maxHeartbeats 4000000 in
theorem c_X1_isOut {l : Launch} {D : va_G} {an : An} {b : Nat} {o0 : Nat} {x1 : Int32} (hk0 : KDF[o0]? = some (1, 0)) {M : Mm}  : Ct l D an b 0 yX1_isOut cX1_isOut 2 (some .boolean) 1 [.ref (b + o0), .int x1] KDF M (some (.int (f_X1_isOut o0 x1 M))) KDF M := by
  refine CtX.mk (as := fun b => [.ref (b + o0), .int x1]) (rv := fun b => (some (.int (f_X1_isOut o0 x1 M)))) (by decide) (fun b => Nat.le_of_ble_eq_true rfl) ⟨Nat.le_refl _, Nat.le_refl _⟩ (fun x X hR Z hN _ _ => ?_)
  have X : Ok x cX1_isOut 2 RX1 (some .boolean) := X
  have G : Gz x 2 0 [(0, .ref (xb x + o0)), (1, .int x1)] [] KDF M (some (f_X1_isOut o0 x1 M)) (PsI x KDF M) := by
    unfold f_X1_isOut
    refine g1 (pc' := 1) (w_aload_n X dX1_isOut_0 rfl 0 rfl) ?_
    refine g1 (pc' := 4) (gt_1_2 X hk0 mw_211 dX1_isOut_1) ?_
    refine g1 (pc' := 5) (w_iload_n X dX1_isOut_4 rfl 1 rfl) ?_
    refine g1 (pc' := 6) (w_ishr X dX1_isOut_5) ?_
    refine g1 (pc' := 7) (w_iconst X (1) dX1_isOut_6 (by decide)) ?_
    refine g1 (pc' := 8) (w_iand X dX1_isOut_7) ?_
    refine g_ifS (pcT := 15) (pcF := 11) (w_if_eq (tgt := 15) X dX1_isOut_8 (by decide)) (fun h1 => ?_) (fun h1 => ?_)
    · refine g1 (pc' := 16) (w_iconst X (0) dX1_isOut_15 (by decide)) ?_
      exact g_rZ X zb0 dX1_isOut_16
    · refine g1 (pc' := 12) (w_iconst X (1) dX1_isOut_11 (by decide)) ?_
      refine g1 (pc' := 16) (w_goto X dX1_isOut_12 (by decide)) ?_
      exact g_rZ X zb1 dX1_isOut_16
  exact G _ rfl _ rfl
theorem k_X1_isOut {x : Cxt} {cc : ByteArray} {nL : Nat} {own : String} {ret : Option FieldType} (X : Ok x cc nL own ret) {d : Nat} (hR : Rm x d KDF) (hN : Nst x) (Z : xz x = 0) {pc : Nat} {lv : List (Nat × Value)} {rest : List Value} {M : Mm} {o0 : Nat} {x1 : Int32} (hk0 : KDF[o0]? = some (1, 0)) {idx : Nat} (hw : Cond.methodLink own idx yX1_isOut ∈ tbG) (hdd : 1 + 1 ≤ d) (hrm : (rest.map fun v => v.category).sum ≤ 8) (hd : decode cc pc = .ok (.invokevirtual idx, 3))  : StpZ x nL pc lv (.int x1 :: .ref (xb x + o0) :: rest) KDF M (pc + 3) lv (.int (f_X1_isOut o0 x1 M) :: rest) KDF M :=
  w_callV (st := []) (As := [.int x1]) X hR hN (CtX0 Z (c_X1_isOut hk0 )) ⟨Nat.le_refl _, Nat.le_refl _⟩ ⟨Nat.le_refl _, Nat.le_refl _⟩ hk0 (ci := 1) (fs := fs_1 o0) (fun _ _ _ => rfl) rfl hw mw_533 mw_534 mw_65 mw_535 (n := 1) (by decide +kernel) rfl hdd (by decide) hrm hd
def b_X1_suitorOf_2 (o0 : Nat) (x1 : Int32) (o2 : Nat) (M : Mm) (s2 : Int32) : Option ((Int32) ⊕ ((Int32) ⊕ (Unit))) :=
  (if (M o2 2) ≤ s2 then some (.inr (.inr ())) else Bd (f_X1_ropeOf o0 s2 M) (fun r2 => (if r2 = x1 then some (.inr (.inl s2)) else Lt (s2 + (1 : Int32)) (fun v4 => some (.inl v4)))))
def f_X1_suitorOf (o0 : Nat) (x1 : Int32) (o2 : Nat) (M : Mm) : Option (Int32) :=
  BdS (Lp (b_X1_suitorOf_2 o0 x1 o2 M) 100000 (0 : Int32)) (fun e5 => some (-1 : Int32))
set_option maxRecDepth 100000 in
set_option maxHeartbeats 4000000 in
theorem c_X1_suitorOf {l : Launch} {D : va_G} {an : An} {b : Nat} {o0 : Nat} {x1 : Int32} {o2 : Nat} (hk0 : KDF[o0]? = some (1, 0)) (hk2 : KDF[o2]? = some (9, 0)) {M : Mm} {r : Int32} (h : f_X1_suitorOf o0 x1 o2 M = some r) : Ct l D an b 0 yX1_suitorOf cX1_suitorOf 4 (some .int) 2 [.ref (b + o0), .int x1, .ref (b + o2)] KDF M (some (.int r)) KDF M := by
  refine CtX.mk (as := fun b => [.ref (b + o0), .int x1, .ref (b + o2)]) (rv := fun b => (some (.int r))) (by decide) (fun b => Nat.le_of_ble_eq_true rfl) ⟨Nat.le_refl _, Nat.le_refl _⟩ (fun x X hR Z hN _ _ => ?_)
  have X : Ok x cX1_suitorOf 4 RX1 (some .int) := X
  have G : Gz x 4 0 [(0, .ref (xb x + o0)), (1, .int x1), (2, .ref (xb x + o2))] [] KDF M (f_X1_suitorOf o0 x1 o2 M) (PsI x KDF M) := by
    unfold f_X1_suitorOf
    refine g1 (pc' := 1) (w_iconst X (0) dX1_suitorOf_0 (by decide)) ?_
    refine g1 (pc' := 2) (lv' := [(3, .int (0 : Int32)), (0, .ref (xb x + o0)), (1, .int x1), (2, .ref (xb x + o2))]) (w_istore_n X dX1_suitorOf_1 rfl (by decide) rfl) ?_
    refine g_pick (lv' := [(0, .ref (xb x + o0)), (1, .int x1), (2, .ref (xb x + o2)), (3, .int (0 : Int32))]) [1, 2, 3, 0] rfl ?_
    refine g_bdS (J := 27) (fun e5 => []) (fun e5 => []) (fun e5 => M) (g_lp (fun s2 => [(0, .ref (xb x + o0)), (1, .int x1), (2, .ref (xb x + o2)), (3, .int s2)]) (fun s2 => M) (fun s2 => ?_) 100000 (0 : Int32)) (fun e5 => ?_)
    · show Gz x 4 2 [(0, .ref (xb x + o0)), (1, .int x1), (2, .ref (xb x + o2)), (3, .int s2)] [] KDF M (b_X1_suitorOf_2 o0 x1 o2 M s2) _
      unfold b_X1_suitorOf_2
      refine g1 (pc' := 3) (w_iload_n X dX1_suitorOf_2 rfl 3 rfl) ?_
      refine g1 (pc' := 4) (w_aload_n X dX1_suitorOf_3 rfl 2 rfl) ?_
      refine g1 (pc' := 7) (gt_9_2 X hk2 mw_125 dX1_suitorOf_4) ?_
      refine g_if (pcT := 27) (pcF := 10) (w_icmp_ge (tgt := 27) X dX1_suitorOf_7 (by decide)) (fun h1 => ?_) (fun h1 => ?_)
      · refine g_inr ?_
        refine g_inr ?_
        exact g_end [] rfl rfl rfl
      · refine g1 (pc' := 11) (w_aload_n X dX1_suitorOf_10 rfl 0 rfl) ?_
        refine g1 (pc' := 12) (w_iload_n X dX1_suitorOf_11 rfl 3 rfl) ?_
        refine g_bd (pc' := 15) (fun r2 => [(0, .ref (xb x + o0)), (1, .int x1), (2, .ref (xb x + o2)), (3, .int s2)]) (fun r2 => [.int r2]) (fun r2 => M) (fun r2 h => k_X1_ropeOf X hR hN Z hk0 mw_567 (by decide) (Nat.le_of_ble_eq_true rfl) dX1_suitorOf_12 h) (fun r2 => ?_)
        show Gz x 4 15 [(0, .ref (xb x + o0)), (1, .int x1), (2, .ref (xb x + o2)), (3, .int s2)] [.int r2] KDF M _ _
        refine g1 (pc' := 16) (w_iload_n X dX1_suitorOf_15 rfl 1 rfl) ?_
        refine g_if (pcT := 19) (pcF := 21) (w_icmp_ne (tgt := 21) X dX1_suitorOf_16 (by decide)) (fun h3 => ?_) (fun h3 => ?_)
        · refine g1 (pc' := 20) (w_iload_n X dX1_suitorOf_19 rfl 3 rfl) ?_
          refine g_inr ?_
          refine g_inl ?_
          exact g_rI X dX1_suitorOf_20
        · refine g_lt (pc' := 24) (fun v4 => [(3, .int v4), (0, .ref (xb x + o0)), (1, .int x1), (2, .ref (xb x + o2))]) (fun v4 => []) (fun v4 => M) (w_iinc X dX1_suitorOf_21 3 rfl rfl (by decide) rfl) (fun v4 => ?_)
          show Gz x 4 24 [(3, .int v4), (0, .ref (xb x + o0)), (1, .int x1), (2, .ref (xb x + o2))] [] KDF M _ _
          refine g1 (pc' := 2) (w_goto X dX1_suitorOf_24 (by decide)) ?_
          refine g_inl ?_
          exact g_end [1, 2, 3, 0] rfl rfl rfl
    · show Gz x 4 27 [] [] KDF M _ _
      refine g1 (pc' := 28) (w_iconst X (-1) dX1_suitorOf_27 (by decide)) ?_
      exact g_rI X dX1_suitorOf_28
  exact G _ h _ rfl
theorem k_X1_suitorOf {x : Cxt} {cc : ByteArray} {nL : Nat} {own : String} {ret : Option FieldType} (X : Ok x cc nL own ret) {d : Nat} (hR : Rm x d KDF) (hN : Nst x) (Z : xz x = 0) {pc : Nat} {lv : List (Nat × Value)} {rest : List Value} {M : Mm} {o0 : Nat} {x1 : Int32} {o2 : Nat} (hk0 : KDF[o0]? = some (1, 0)) (hk2 : KDF[o2]? = some (9, 0)) {idx : Nat} (hw : Cond.methodLink own idx yX1_suitorOf ∈ tbG) (hdd : 2 + 1 ≤ d) (hrm : (rest.map fun v => v.category).sum ≤ 8) (hd : decode cc pc = .ok (.invokevirtual idx, 3)) {r : Int32} (h : f_X1_suitorOf o0 x1 o2 M = some r) : StpZ x nL pc lv (.ref (xb x + o2) :: .int x1 :: .ref (xb x + o0) :: rest) KDF M (pc + 3) lv (.int r :: rest) KDF M :=
  w_callV (st := []) (As := [.int x1, .ref (xb x + o2)]) X hR hN (CtX0 Z (c_X1_suitorOf hk0 hk2 h)) ⟨Nat.le_refl _, Nat.le_refl _⟩ ⟨Nat.le_refl _, Nat.le_refl _⟩ hk0 (ci := 1) (fs := fs_1 o0) (fun _ _ _ => rfl) rfl hw mw_564 mw_565 mw_65 mw_566 (n := 2) (by decide +kernel) rfl hdd (by decide) hrm hd
def f_X1_changeRopes (o0 : Nat) (x1 : Int32) (x2 : Int32) (M : Mm) : Option (Mm) :=
  (if x1 < 0 then some M else (if (6 : Int32) ≤ x1 then some M else (if x2 < 0 then some M else (if (6 : Int32) ≤ x2 then some M else Gd (ib x1 6) (Lt (M (o0 + 2) (ix x1)) (fun v6 => Gd (ib x2 6) (Gd (ib x1 6) (Lt (st2 M (o0 + 2) (ix x1) (M (o0 + 2) (ix x2))) (fun M9 => Gd (ib x2 6) (Lt (st2 M9 (o0 + 2) (ix x2) v6) (fun M11 => some M11)))))))))))
set_option maxRecDepth 100000 in
set_option maxHeartbeats 4000000 in
theorem c_X1_changeRopes {l : Launch} {D : va_G} {an : An} {b : Nat} {o0 : Nat} {x1 : Int32} {x2 : Int32} (hk0 : KDF[o0]? = some (1, 0)) {M : Mm} {M' : Mm} (h : f_X1_changeRopes o0 x1 x2 M = some M') : Ct l D an b 0 yX1_changeRopes cX1_changeRopes 4 none 1 [.ref (b + o0), .int x1, .int x2] KDF M none KDF M' := by
  refine CtX.mk (as := fun b => [.ref (b + o0), .int x1, .int x2]) (rv := fun b => none) (by decide) (fun b => Nat.le_of_ble_eq_true rfl) ⟨Nat.le_refl _, Nat.le_refl _⟩ (fun x X hR Z hN _ _ => ?_)
  have X : Ok x cX1_changeRopes 4 RX1 none := X
  have G : Gz x 4 0 [(0, .ref (xb x + o0)), (1, .int x1), (2, .int x2)] [] KDF M (f_X1_changeRopes o0 x1 x2 M) (PsM x KDF) := by
    unfold f_X1_changeRopes
    refine g1 (pc' := 1) (w_iload_n X dX1_changeRopes_0 rfl 1 rfl) ?_
    refine g_if (pcT := 46) (pcF := 4) (w_if_lt (tgt := 46) X dX1_changeRopes_1 (by decide)) (fun h1 => ?_) (fun h1 => ?_)
    · exact g_rM X dX1_changeRopes_46
    · refine g1 (pc' := 5) (w_iload_n X dX1_changeRopes_4 rfl 1 rfl) ?_
      refine g1 (pc' := 7) (w_bipush X (6) dX1_changeRopes_5 (by decide)) ?_
      refine g_if (pcT := 46) (pcF := 10) (w_icmp_ge (tgt := 46) X dX1_changeRopes_7 (by decide)) (fun h2 => ?_) (fun h2 => ?_)
      · exact g_rM X dX1_changeRopes_46
      · refine g1 (pc' := 11) (w_iload_n X dX1_changeRopes_10 rfl 2 rfl) ?_
        refine g_if (pcT := 46) (pcF := 14) (w_if_lt (tgt := 46) X dX1_changeRopes_11 (by decide)) (fun h3 => ?_) (fun h3 => ?_)
        · exact g_rM X dX1_changeRopes_46
        · refine g1 (pc' := 15) (w_iload_n X dX1_changeRopes_14 rfl 2 rfl) ?_
          refine g1 (pc' := 17) (w_bipush X (6) dX1_changeRopes_15 (by decide)) ?_
          refine g_if (pcT := 46) (pcF := 20) (w_icmp_ge (tgt := 46) X dX1_changeRopes_17 (by decide)) (fun h4 => ?_) (fun h4 => ?_)
          · exact g_rM X dX1_changeRopes_46
          · refine g1 (pc' := 21) (w_aload_n X dX1_changeRopes_20 rfl 0 rfl) ?_
            refine g1 (pc' := 24) (gt_1_4 X hk0 mw_215 dX1_changeRopes_21) ?_
            refine g1 (pc' := 25) (w_iload_n X dX1_changeRopes_24 rfl 1 rfl) ?_
            refine g_gd (fun h5 => ?_)
            refine g1 (pc' := 26) (w_iald X (kd_Ev2 hk0) h5 dX1_changeRopes_25) ?_
            refine g_lt (pc' := 27) (fun v6 => [(3, .int v6), (0, .ref (xb x + o0)), (1, .int x1), (2, .int x2)]) (fun v6 => []) (fun v6 => M) (w_istore_n X dX1_changeRopes_26 rfl (by decide) rfl) (fun v6 => ?_)
            show Gz x 4 27 [(3, .int v6), (0, .ref (xb x + o0)), (1, .int x1), (2, .int x2)] [] KDF M _ _
            refine g1 (pc' := 28) (w_aload_n X dX1_changeRopes_27 rfl 1 rfl) ?_
            refine g1 (pc' := 31) (gt_1_4 X hk0 mw_215 dX1_changeRopes_28) ?_
            refine g1 (pc' := 32) (w_iload_n X dX1_changeRopes_31 rfl 2 rfl) ?_
            refine g1 (pc' := 33) (w_aload_n X dX1_changeRopes_32 rfl 1 rfl) ?_
            refine g1 (pc' := 36) (gt_1_4 X hk0 mw_215 dX1_changeRopes_33) ?_
            refine g1 (pc' := 37) (w_iload_n X dX1_changeRopes_36 rfl 3 rfl) ?_
            refine g_gd (fun h7 => ?_)
            refine g1 (pc' := 38) (w_iald X (kd_Ev2 hk0) h7 dX1_changeRopes_37) ?_
            refine g_gd (fun h8 => ?_)
            refine g_lt (pc' := 39) (fun M9 => [(3, .int v6), (0, .ref (xb x + o0)), (1, .int x1), (2, .int x2)]) (fun M9 => []) (fun M9 => M9) (w_iast X Z (kd_Ev2 hk0) h8 dX1_changeRopes_38) (fun M9 => ?_)
            show Gz x 4 39 [(3, .int v6), (0, .ref (xb x + o0)), (1, .int x1), (2, .int x2)] [] KDF M9 _ _
            refine g1 (pc' := 40) (w_aload_n X dX1_changeRopes_39 rfl 1 rfl) ?_
            refine g1 (pc' := 43) (gt_1_4 X hk0 mw_215 dX1_changeRopes_40) ?_
            refine g1 (pc' := 44) (w_iload_n X dX1_changeRopes_43 rfl 3 rfl) ?_
            refine g1 (pc' := 45) (w_iload_n X dX1_changeRopes_44 rfl 0 rfl) ?_
            refine g_gd (fun h10 => ?_)
            refine g_lt (pc' := 46) (fun M11 => [(3, .int v6), (0, .ref (xb x + o0)), (1, .int x1), (2, .int x2)]) (fun M11 => []) (fun M11 => M11) (w_iast X Z (kd_Ev2 hk0) h10 dX1_changeRopes_45) (fun M11 => ?_)
            show Gz x 4 46 [(3, .int v6), (0, .ref (xb x + o0)), (1, .int x1), (2, .int x2)] [] KDF M11 _ _
            exact g_rM X dX1_changeRopes_46
  exact G _ h _ rfl
theorem k_X1_changeRopes {x : Cxt} {cc : ByteArray} {nL : Nat} {own : String} {ret : Option FieldType} (X : Ok x cc nL own ret) {d : Nat} (hR : Rm x d KDF) (hN : Nst x) (Z : xz x = 0) {pc : Nat} {lv : List (Nat × Value)} {rest : List Value} {M : Mm} {o0 : Nat} {x1 : Int32} {x2 : Int32} (hk0 : KDF[o0]? = some (1, 0)) {idx : Nat} (hw : Cond.methodLink own idx yX1_changeRopes ∈ tbG) (hdd : 1 + 1 ≤ d) (hrm : (rest.map fun v => v.category).sum ≤ 8) (hd : decode cc pc = .ok (.invokevirtual idx, 3)) {M' : Mm} (h : f_X1_changeRopes o0 x1 x2 M = some M') : StpZ x nL pc lv (.int x2 :: .int x1 :: .ref (xb x + o0) :: rest) KDF M (pc + 3) lv (rest) KDF M' :=
  w_callV (st := []) (As := [.int x1, .int x2]) X hR hN (CtX0 Z (c_X1_changeRopes hk0 h)) ⟨Nat.le_refl _, Nat.le_refl _⟩ ⟨Nat.le_refl _, Nat.le_refl _⟩ hk0 (ci := 1) (fs := fs_1 o0) (fun _ _ _ => rfl) rfl hw mw_669 mw_670 mw_65 mw_671 (n := 2) (by decide +kernel) rfl hdd (by decide) hrm hd
def f_X9_changeAt (o0 : Nat) (x1 : Int32) (M : Mm) : Option (Nat) :=
  (if x1 < 0 then some (o0 + 1) else (if (M o0 1) ≤ x1 then some (o0 + 1) else Gd (ib x1 12) (Gd (KDF[((o0 + 2) + 3 + ix x1)]? = some (0, 0)) (some ((o0 + 2) + 3 + ix x1)))))
set_option maxRecDepth 100000 in
set_option maxHeartbeats 4000000 in
theorem c_X9_changeAt {l : Launch} {D : va_G} {an : An} {b : Nat} {o0 : Nat} {x1 : Int32} (hk0 : KDF[o0]? = some (9, 0)) {M : Mm} {r : Nat} (h : f_X9_changeAt o0 x1 M = some r) : Ct l D an b 0 yX9_changeAt cX9_changeAt 2 (some (.object "BellSuitors$Change")) 1 [.ref (b + o0), .int x1] KDF M (some (.ref (b + r))) KDF M := by
  refine CtX.mk (as := fun b => [.ref (b + o0), .int x1]) (rv := fun b => (some (.ref (b + r)))) (by decide) (fun b => Nat.le_of_ble_eq_true rfl) ⟨Nat.le_refl _, Nat.le_refl _⟩ (fun x X hR Z hN _ _ => ?_)
  have X : Ok x cX9_changeAt 2 RX9 (some (.object "BellSuitors$Change")) := X
  have G : Gz x 2 0 [(0, .ref (xb x + o0)), (1, .int x1)] [] KDF M (f_X9_changeAt o0 x1 M) (PsR x KDF M) := by
    unfold f_X9_changeAt
    refine g1 (pc' := 1) (w_iload_n X dX9_changeAt_0 rfl 1 rfl) ?_
    refine g_if (pcT := 21) (pcF := 4) (w_if_lt (tgt := 21) X dX9_changeAt_1 (by decide)) (fun h1 => ?_) (fun h1 => ?_)
    · refine g1 (pc' := 22) (w_aload_n X dX9_changeAt_21 rfl 0 rfl) ?_
      refine g1 (pc' := 25) (gt_9_4 X hk0 mw_129 dX9_changeAt_22) ?_
      exact g_rR X dX9_changeAt_25
    · refine g1 (pc' := 5) (w_iload_n X dX9_changeAt_4 rfl 1 rfl) ?_
      refine g1 (pc' := 6) (w_aload_n X dX9_changeAt_5 rfl 0 rfl) ?_
      refine g1 (pc' := 9) (gt_9_1 X hk0 mw_117 dX9_changeAt_6) ?_
      refine g_if (pcT := 21) (pcF := 12) (w_icmp_ge (tgt := 21) X dX9_changeAt_9 (by decide)) (fun h2 => ?_) (fun h2 => ?_)
      · refine g1 (pc' := 22) (w_aload_n X dX9_changeAt_21 rfl 0 rfl) ?_
        refine g1 (pc' := 25) (gt_9_4 X hk0 mw_129 dX9_changeAt_22) ?_
        exact g_rR X dX9_changeAt_25
      · refine g1 (pc' := 13) (w_aload_n X dX9_changeAt_12 rfl 0 rfl) ?_
        refine g1 (pc' := 16) (gt_9_5 X hk0 mw_133 dX9_changeAt_13) ?_
        refine g1 (pc' := 17) (w_iload_n X dX9_changeAt_16 rfl 1 rfl) ?_
        refine g_gd (fun h3 => ?_)
        refine g1 (pc' := 18) (w_aald15 X (kd_To2 hk0) h3 dX9_changeAt_17) ?_
        refine g_gd (fun h4 => ?_)
        refine g1 (pc' := 25) (w_goto X dX9_changeAt_18 (by decide)) ?_
        exact g_rR X dX9_changeAt_25
  exact G _ h _ rfl
theorem k_X9_changeAt {x : Cxt} {cc : ByteArray} {nL : Nat} {own : String} {ret : Option FieldType} (X : Ok x cc nL own ret) {d : Nat} (hR : Rm x d KDF) (hN : Nst x) (Z : xz x = 0) {pc : Nat} {lv : List (Nat × Value)} {rest : List Value} {M : Mm} {o0 : Nat} {x1 : Int32} (hk0 : KDF[o0]? = some (9, 0)) {idx : Nat} (hw : Cond.methodLink own idx yX9_changeAt ∈ tbG) (hdd : 1 + 1 ≤ d) (hrm : (rest.map fun v => v.category).sum ≤ 8) (hd : decode cc pc = .ok (.invokevirtual idx, 3)) {r : Nat} (h : f_X9_changeAt o0 x1 M = some r) : StpZ x nL pc lv (.int x1 :: .ref (xb x + o0) :: rest) KDF M (pc + 3) lv (.ref (xb x + r) :: rest) KDF M :=
  w_callV (st := []) (As := [.int x1]) X hR hN (CtX0 Z (c_X9_changeAt hk0 h)) ⟨Nat.le_refl _, Nat.le_refl _⟩ ⟨Nat.le_refl _, Nat.le_refl _⟩ hk0 (ci := 9) (fs := fs_9 o0) (fun _ _ _ => rfl) rfl hw mw_543 mw_544 mw_62 mw_545 (n := 1) (by decide +kernel) rfl hdd (by decide) hrm hd
def f_X10_step (o0 : Nat) (o1 : Nat) (M : Mm) : Option (Mm) :=
  Bd (((if (M o0 2) = 0 then Bd (f_X9_changeAt o1 (M o0 1) M) (fun r4 => Gd (KDF[r4]? = some (0, 0)) (some r4)) else some (o1 + 1))) : Option (Nat)) (fun j2 => Gd (KDF[j2]? = some (0, 0)) (Lt (st2 M o0 0 (f_X0_next j2 (M o0 0) M)) (fun M7 => Lt (st2 M7 o0 2 (0 : Int32)) (fun M8 => Lt (((if (M8 o1 1) ≤ ((M8 o0 1) + (1 : Int32)) then (0 : Int32) else ((M8 o0 1) + (1 : Int32)))) : Int32) (fun j9 => Lt (st2 M8 o0 1 j9) (fun M11 => some M11))))))
set_option maxRecDepth 100000 in
set_option maxHeartbeats 4000000 in
theorem c_X10_step {l : Launch} {D : va_G} {an : An} {b : Nat} {o0 : Nat} {o1 : Nat} (hk0 : KDF[o0]? = some (10, 0)) (hk1 : KDF[o1]? = some (9, 0)) {M : Mm} {M' : Mm} (h : f_X10_step o0 o1 M = some M') : Ct l D an b 0 yX10_step cX10_step 3 none 2 [.ref (b + o0), .ref (b + o1)] KDF M none KDF M' := by
  refine CtX.mk (as := fun b => [.ref (b + o0), .ref (b + o1)]) (rv := fun b => none) (by decide) (fun b => Nat.le_of_ble_eq_true rfl) ⟨Nat.le_refl _, Nat.le_refl _⟩ (fun x X hR Z hN _ _ => ?_)
  have X : Ok x cX10_step 3 RX10 none := X
  have G : Gz x 3 0 [(0, .ref (xb x + o0)), (1, .ref (xb x + o1))] [] KDF M (f_X10_step o0 o1 M) (PsM x KDF) := by
    unfold f_X10_step
    refine g1 (pc' := 1) (w_aload_n X dX10_step_0 rfl 0 rfl) ?_
    refine g1 (pc' := 4) (gt_10_2 X hk0 mw_198 dX10_step_1) ?_
    refine g_bdJ (J := 22) (fun j2 => [(0, .ref (xb x + o0)), (1, .ref (xb x + o1))]) (fun j2 => [.ref (xb x + j2)]) (fun j2 => M) ?_ (fun j2 => ?_)
    · refine g_if (pcT := 14) (pcF := 7) (w_if_eq (tgt := 14) X dX10_step_4 (by decide)) (fun h3 => ?_) (fun h3 => ?_)
      · refine g1 (pc' := 15) (w_aload_n X dX10_step_14 rfl 1 rfl) ?_
        refine g1 (pc' := 16) (w_aload_n X dX10_step_15 rfl 0 rfl) ?_
        refine g1 (pc' := 19) (gt_10_1 X hk0 mw_196 dX10_step_16) ?_
        refine g_bd (pc' := 22) (fun r4 => [(0, .ref (xb x + o0)), (1, .ref (xb x + o1))]) (fun r4 => [.ref (xb x + r4)]) (fun r4 => M) (fun r4 h => k_X9_changeAt X hR hN Z hk1 mw_627 (by decide) (Nat.le_of_ble_eq_true rfl) dX10_step_19 h) (fun r4 => ?_)
        show Gz x 3 22 [(0, .ref (xb x + o0)), (1, .ref (xb x + o1))] [.ref (xb x + r4)] KDF M _ _
        refine g_gd (fun h5 => ?_)
        exact g_end [0, 1] rfl rfl rfl
      · refine g1 (pc' := 8) (w_aload_n X dX10_step_7 rfl 1 rfl) ?_
        refine g1 (pc' := 11) (gt_9_4 X hk1 mw_131 dX10_step_8) ?_
        refine g1 (pc' := 22) (w_goto X dX10_step_11 (by decide)) ?_
        exact g_end [0, 1] rfl rfl rfl
    · show Gz x 3 22 [(0, .ref (xb x + o0)), (1, .ref (xb x + o1))] [.ref (xb x + j2)] KDF M _ _
      refine g_gd (fun h6 => ?_)
      refine g1 (pc' := 23) (lv' := [(2, .ref (xb x + j2)), (0, .ref (xb x + o0)), (1, .ref (xb x + o1))]) (w_astore_n X dX10_step_22 rfl (by decide) rfl) ?_
      refine g1 (pc' := 24) (w_aload_n X dX10_step_23 rfl 1 rfl) ?_
      refine g1 (pc' := 25) (w_aload_n X dX10_step_24 rfl 0 rfl) ?_
      refine g1 (pc' := 26) (w_aload_n X dX10_step_25 rfl 1 rfl) ?_
      refine g1 (pc' := 29) (gt_10_0 X hk0 mw_193 dX10_step_26) ?_
      refine g1 (pc' := 32) (k_X0_next X hR hN Z h6 mw_628 (by decide) (Nat.le_of_ble_eq_true rfl) dX10_step_29) ?_
      refine g_lt (pc' := 35) (fun M7 => [(2, .ref (xb x + j2)), (0, .ref (xb x + o0)), (1, .ref (xb x + o1))]) (fun M7 => []) (fun M7 => M7) (pt_10_0 X Z hk0 mw_193 dX10_step_32) (fun M7 => ?_)
      show Gz x 3 35 [(2, .ref (xb x + j2)), (0, .ref (xb x + o0)), (1, .ref (xb x + o1))] [] KDF M7 _ _
      refine g1 (pc' := 36) (w_aload_n X dX10_step_35 rfl 1 rfl) ?_
      refine g1 (pc' := 37) (w_iconst X (0) dX10_step_36 (by decide)) ?_
      refine g_lt (pc' := 40) (fun M8 => [(2, .ref (xb x + j2)), (0, .ref (xb x + o0)), (1, .ref (xb x + o1))]) (fun M8 => []) (fun M8 => M8) (pt_10_2 X Z hk0 zb0 mw_198 dX10_step_37) (fun M8 => ?_)
      show Gz x 3 40 [(2, .ref (xb x + j2)), (0, .ref (xb x + o0)), (1, .ref (xb x + o1))] [] KDF M8 _ _
      refine g1 (pc' := 41) (w_aload_n X dX10_step_40 rfl 1 rfl) ?_
      refine g1 (pc' := 42) (w_aload_n X dX10_step_41 rfl 1 rfl) ?_
      refine g1 (pc' := 45) (gt_10_1 X hk0 mw_196 dX10_step_42) ?_
      refine g1 (pc' := 46) (w_iconst X (1) dX10_step_45 (by decide)) ?_
      refine g1 (pc' := 47) (w_iadd X dX10_step_46) ?_
      refine g1 (pc' := 48) (w_aload_n X dX10_step_47 rfl 2 rfl) ?_
      refine g1 (pc' := 51) (gt_9_1 X hk1 mw_119 dX10_step_48) ?_
      refine g_ltJ (J := 64) (fun j9 => []) (fun j9 => [.int j9, .ref (xb x + o0)]) (fun j9 => M8) ?_ (fun j9 => ?_)
      · refine g_ifS (pcT := 63) (pcF := 54) (w_icmp_ge (tgt := 63) X dX10_step_51 (by decide)) (fun h10 => ?_) (fun h10 => ?_)
        · refine g1 (pc' := 64) (w_iconst X (0) dX10_step_63 (by decide)) ?_
          exact g_end [] rfl rfl rfl
        · refine g1 (pc' := 55) (w_aload_n X dX10_step_54 rfl 1 rfl) ?_
          refine g1 (pc' := 58) (gt_10_1 X hk0 mw_196 dX10_step_55) ?_
          refine g1 (pc' := 59) (w_iconst X (1) dX10_step_58 (by decide)) ?_
          refine g1 (pc' := 60) (w_iadd X dX10_step_59) ?_
          refine g1 (pc' := 64) (w_goto X dX10_step_60 (by decide)) ?_
          exact g_end [] rfl rfl rfl
      · show Gz x 3 64 [] [.int j9, .ref (xb x + o0)] KDF M8 _ _
        refine g_lt (pc' := 67) (fun M11 => []) (fun M11 => []) (fun M11 => M11) (pt_10_1 X Z hk0 mw_196 dX10_step_64) (fun M11 => ?_)
        show Gz x 3 67 [] [] KDF M11 _ _
        exact g_rM X dX10_step_67
  exact G _ h _ rfl
theorem k_X10_step {x : Cxt} {cc : ByteArray} {nL : Nat} {own : String} {ret : Option FieldType} (X : Ok x cc nL own ret) {d : Nat} (hR : Rm x d KDF) (hN : Nst x) (Z : xz x = 0) {pc : Nat} {lv : List (Nat × Value)} {rest : List Value} {M : Mm} {o0 : Nat} {o1 : Nat} (hk0 : KDF[o0]? = some (10, 0)) (hk1 : KDF[o1]? = some (9, 0)) {idx : Nat} (hw : Cond.methodLink own idx yX10_step ∈ tbG) (hdd : 2 + 1 ≤ d) (hrm : (rest.map fun v => v.category).sum ≤ 8) (hd : decode cc pc = .ok (.invokevirtual idx, 3)) {M' : Mm} (h : f_X10_step o0 o1 M = some M') : StpZ x nL pc lv (.ref (xb x + o1) :: .ref (xb x + o0) :: rest) KDF M (pc + 3) lv (rest) KDF M' :=
  w_callV (st := []) (As := [.ref (xb x + o1)]) X hR hN (CtX0 Z (c_X10_step hk0 hk1 h)) ⟨Nat.le_refl _, Nat.le_refl _⟩ ⟨Nat.le_refl _, Nat.le_refl _⟩ hk0 (ci := 10) (fs := fs_10 o0) (fun _ _ _ => rfl) rfl hw mw_624 mw_625 mw_66 mw_626 (n := 1) (by decide +kernel) rfl hdd (by decide) hrm hd
def f_X9_hasBell (o0 : Nat) (x1 : Int32) (M : Mm) : Int32 :=
  (if x1 < 0 then (0 : Int32) else (if (M o0 0) ≤ x1 then (0 : Int32) else (1 : Int32)))
theorem z_X9_hasBell {o0 : Nat} {x1 : Int32} {M : Mm} : zb (f_X9_hasBell o0 x1 M) := by
  unfold f_X9_hasBell
  repeat' (first | exact zb0 | exact zb1 | apply zbi)
set_option maxRecDepth 100000 in
set_option maxHeartbeats 4000000 in
theorem c_X9_hasBell {l : Launch} {D : va_G} {an : An} {b : Nat} {o0 : Nat} {x1 : Int32} (hk0 : KDF[o0]? = some (9, 0)) {M : Mm}  : Ct l D an b 0 yX9_hasBell cX9_hasBell 2 (some .boolean) 1 [.ref (b + o0), .int x1] KDF M (some (.int (f_X9_hasBell o0 x1 M))) KDF M := by
  refine CtX.mk (as := fun b => [.ref (b + o0), .int x1]) (rv := fun b => (some (.int (f_X9_hasBell o0 x1 M)))) (by decide) (fun b => Nat.le_of_ble_eq_true rfl) ⟨Nat.le_refl _, Nat.le_refl _⟩ (fun x X hR Z hN _ _ => ?_)
  have X : Ok x cX9_hasBell 2 RX9 (some .boolean) := X
  have G : Gz x 2 0 [(0, .ref (xb x + o0)), (1, .int x1)] [] KDF M (some (f_X9_hasBell o0 x1 M)) (PsI x KDF M) := by
    unfold f_X9_hasBell
    refine g1 (pc' := 1) (w_iload_n X dX9_hasBell_0 rfl 1 rfl) ?_
    refine g_ifS (pcT := 16) (pcF := 4) (w_if_lt (tgt := 16) X dX9_hasBell_1 (by decide)) (fun h1 => ?_) (fun h1 => ?_)
    · refine g1 (pc' := 17) (w_iconst X (0) dX9_hasBell_16 (by decide)) ?_
      exact g_rZ X zb0 dX9_hasBell_17
    · refine g1 (pc' := 5) (w_iload_n X dX9_hasBell_4 rfl 1 rfl) ?_
      refine g1 (pc' := 6) (w_aload_n X dX9_hasBell_5 rfl 0 rfl) ?_
      refine g1 (pc' := 9) (gt_9_0 X hk0 mw_110 dX9_hasBell_6) ?_
      refine g_ifS (pcT := 16) (pcF := 12) (w_icmp_ge (tgt := 16) X dX9_hasBell_9 (by decide)) (fun h2 => ?_) (fun h2 => ?_)
      · refine g1 (pc' := 17) (w_iconst X (0) dX9_hasBell_16 (by decide)) ?_
        exact g_rZ X zb0 dX9_hasBell_17
      · refine g1 (pc' := 13) (w_iconst X (1) dX9_hasBell_12 (by decide)) ?_
        refine g1 (pc' := 17) (w_goto X dX9_hasBell_13 (by decide)) ?_
        exact g_rZ X zb1 dX9_hasBell_17
  exact G _ rfl _ rfl
theorem k_X9_hasBell {x : Cxt} {cc : ByteArray} {nL : Nat} {own : String} {ret : Option FieldType} (X : Ok x cc nL own ret) {d : Nat} (hR : Rm x d KDF) (hN : Nst x) (Z : xz x = 0) {pc : Nat} {lv : List (Nat × Value)} {rest : List Value} {M : Mm} {o0 : Nat} {x1 : Int32} (hk0 : KDF[o0]? = some (9, 0)) {idx : Nat} (hw : Cond.methodLink own idx yX9_hasBell ∈ tbG) (hdd : 1 + 1 ≤ d) (hrm : (rest.map fun v => v.category).sum ≤ 8) (hd : decode cc pc = .ok (.invokevirtual idx, 3))  : StpZ x nL pc lv (.int x1 :: .ref (xb x + o0) :: rest) KDF M (pc + 3) lv (.int (f_X9_hasBell o0 x1 M) :: rest) KDF M :=
  w_callV (st := []) (As := [.int x1]) X hR hN (CtX0 Z (c_X9_hasBell hk0 )) ⟨Nat.le_refl _, Nat.le_refl _⟩ ⟨Nat.le_refl _, Nat.le_refl _⟩ hk0 (ci := 9) (fs := fs_9 o0) (fun _ _ _ => rfl) rfl hw mw_551 mw_552 mw_62 mw_553 (n := 1) (by decide +kernel) rfl hdd (by decide) hrm hd
def f_X9_weightOf (o0 : Nat) (x1 : Int32) (M : Mm) : Option (Int32) :=
  (if (f_X9_hasBell o0 x1 M) = 0 then some (0 : Int32) else Gd (ib x1 6) (some (M (o0 + 3) (ix x1))))
set_option maxRecDepth 100000 in
set_option maxHeartbeats 4000000 in
theorem c_X9_weightOf {l : Launch} {D : va_G} {an : An} {b : Nat} {o0 : Nat} {x1 : Int32} (hk0 : KDF[o0]? = some (9, 0)) {M : Mm} {r : Int32} (h : f_X9_weightOf o0 x1 M = some r) : Ct l D an b 0 yX9_weightOf cX9_weightOf 2 (some .int) 2 [.ref (b + o0), .int x1] KDF M (some (.int r)) KDF M := by
  refine CtX.mk (as := fun b => [.ref (b + o0), .int x1]) (rv := fun b => (some (.int r))) (by decide) (fun b => Nat.le_of_ble_eq_true rfl) ⟨Nat.le_refl _, Nat.le_refl _⟩ (fun x X hR Z hN _ _ => ?_)
  have X : Ok x cX9_weightOf 2 RX9 (some .int) := X
  have G : Gz x 2 0 [(0, .ref (xb x + o0)), (1, .int x1)] [] KDF M (f_X9_weightOf o0 x1 M) (PsI x KDF M) := by
    unfold f_X9_weightOf
    refine g1 (pc' := 1) (w_aload_n X dX9_weightOf_0 rfl 0 rfl) ?_
    refine g1 (pc' := 2) (w_iload_n X dX9_weightOf_1 rfl 1 rfl) ?_
    refine g1 (pc' := 5) (k_X9_hasBell X hR hN Z hk0 mw_559 (by decide) (Nat.le_of_ble_eq_true rfl) dX9_weightOf_2) ?_
    refine g_if (pcT := 17) (pcF := 8) (w_if_eq (tgt := 17) X dX9_weightOf_5 (by decide)) (fun h1 => ?_) (fun h1 => ?_)
    · refine g1 (pc' := 18) (w_iconst X (0) dX9_weightOf_17 (by decide)) ?_
      exact g_rI X dX9_weightOf_18
    · refine g1 (pc' := 9) (w_aload_n X dX9_weightOf_8 rfl 0 rfl) ?_
      refine g1 (pc' := 12) (gt_9_6 X hk0 mw_134 dX9_weightOf_9) ?_
      refine g1 (pc' := 13) (w_iload_n X dX9_weightOf_12 rfl 1 rfl) ?_
      refine g_gd (fun h2 => ?_)
      refine g1 (pc' := 14) (w_iald X (kd_To3 hk0) h2 dX9_weightOf_13) ?_
      refine g1 (pc' := 18) (w_goto X dX9_weightOf_14 (by decide)) ?_
      exact g_rI X dX9_weightOf_18
  exact G _ h _ rfl
theorem k_X9_weightOf {x : Cxt} {cc : ByteArray} {nL : Nat} {own : String} {ret : Option FieldType} (X : Ok x cc nL own ret) {d : Nat} (hR : Rm x d KDF) (hN : Nst x) (Z : xz x = 0) {pc : Nat} {lv : List (Nat × Value)} {rest : List Value} {M : Mm} {o0 : Nat} {x1 : Int32} (hk0 : KDF[o0]? = some (9, 0)) {idx : Nat} (hw : Cond.methodLink own idx yX9_weightOf ∈ tbG) (hdd : 2 + 1 ≤ d) (hrm : (rest.map fun v => v.category).sum ≤ 8) (hd : decode cc pc = .ok (.invokevirtual idx, 3)) {r : Int32} (h : f_X9_weightOf o0 x1 M = some r) : StpZ x nL pc lv (.int x1 :: .ref (xb x + o0) :: rest) KDF M (pc + 3) lv (.int r :: rest) KDF M :=
  w_callV (st := []) (As := [.int x1]) X hR hN (CtX0 Z (c_X9_weightOf hk0 h)) ⟨Nat.le_refl _, Nat.le_refl _⟩ ⟨Nat.le_refl _, Nat.le_refl _⟩ hk0 (ci := 9) (fs := fs_9 o0) (fun _ _ _ => rfl) rfl hw mw_556 mw_557 mw_62 mw_558 (n := 1) (by decide +kernel) rfl hdd (by decide) hrm hd
def f_X9_hasSuitor (o0 : Nat) (x1 : Int32) (M : Mm) : Int32 :=
  (if x1 < 0 then (0 : Int32) else (if (M o0 2) ≤ x1 then (0 : Int32) else (1 : Int32)))
theorem z_X9_hasSuitor {o0 : Nat} {x1 : Int32} {M : Mm} : zb (f_X9_hasSuitor o0 x1 M) := by
  unfold f_X9_hasSuitor
  repeat' (first | exact zb0 | exact zb1 | apply zbi)
set_option maxRecDepth 100000 in
set_option maxHeartbeats 4000000 in
theorem c_X9_hasSuitor {l : Launch} {D : va_G} {an : An} {b : Nat} {o0 : Nat} {x1 : Int32} (hk0 : KDF[o0]? = some (9, 0)) {M : Mm}  : Ct l D an b 0 yX9_hasSuitor cX9_hasSuitor 2 (some .boolean) 1 [.ref (b + o0), .int x1] KDF M (some (.int (f_X9_hasSuitor o0 x1 M))) KDF M := by
  refine CtX.mk (as := fun b => [.ref (b + o0), .int x1]) (rv := fun b => (some (.int (f_X9_hasSuitor o0 x1 M)))) (by decide) (fun b => Nat.le_of_ble_eq_true rfl) ⟨Nat.le_refl _, Nat.le_refl _⟩ (fun x X hR Z hN _ _ => ?_)
  have X : Ok x cX9_hasSuitor 2 RX9 (some .boolean) := X
  have G : Gz x 2 0 [(0, .ref (xb x + o0)), (1, .int x1)] [] KDF M (some (f_X9_hasSuitor o0 x1 M)) (PsI x KDF M) := by
    unfold f_X9_hasSuitor
    refine g1 (pc' := 1) (w_iload_n X dX9_hasSuitor_0 rfl 1 rfl) ?_
    refine g_ifS (pcT := 16) (pcF := 4) (w_if_lt (tgt := 16) X dX9_hasSuitor_1 (by decide)) (fun h1 => ?_) (fun h1 => ?_)
    · refine g1 (pc' := 17) (w_iconst X (0) dX9_hasSuitor_16 (by decide)) ?_
      exact g_rZ X zb0 dX9_hasSuitor_17
    · refine g1 (pc' := 5) (w_iload_n X dX9_hasSuitor_4 rfl 1 rfl) ?_
      refine g1 (pc' := 6) (w_aload_n X dX9_hasSuitor_5 rfl 0 rfl) ?_
      refine g1 (pc' := 9) (gt_9_2 X hk0 mw_122 dX9_hasSuitor_6) ?_
      refine g_ifS (pcT := 16) (pcF := 12) (w_icmp_ge (tgt := 16) X dX9_hasSuitor_9 (by decide)) (fun h2 => ?_) (fun h2 => ?_)
      · refine g1 (pc' := 17) (w_iconst X (0) dX9_hasSuitor_16 (by decide)) ?_
        exact g_rZ X zb0 dX9_hasSuitor_17
      · refine g1 (pc' := 13) (w_iconst X (1) dX9_hasSuitor_12 (by decide)) ?_
        refine g1 (pc' := 17) (w_goto X dX9_hasSuitor_13 (by decide)) ?_
        exact g_rZ X zb1 dX9_hasSuitor_17
  exact G _ rfl _ rfl
theorem k_X9_hasSuitor {x : Cxt} {cc : ByteArray} {nL : Nat} {own : String} {ret : Option FieldType} (X : Ok x cc nL own ret) {d : Nat} (hR : Rm x d KDF) (hN : Nst x) (Z : xz x = 0) {pc : Nat} {lv : List (Nat × Value)} {rest : List Value} {M : Mm} {o0 : Nat} {x1 : Int32} (hk0 : KDF[o0]? = some (9, 0)) {idx : Nat} (hw : Cond.methodLink own idx yX9_hasSuitor ∈ tbG) (hdd : 1 + 1 ≤ d) (hrm : (rest.map fun v => v.category).sum ≤ 8) (hd : decode cc pc = .ok (.invokevirtual idx, 3))  : StpZ x nL pc lv (.int x1 :: .ref (xb x + o0) :: rest) KDF M (pc + 3) lv (.int (f_X9_hasSuitor o0 x1 M) :: rest) KDF M :=
  w_callV (st := []) (As := [.int x1]) X hR hN (CtX0 Z (c_X9_hasSuitor hk0 )) ⟨Nat.le_refl _, Nat.le_refl _⟩ ⟨Nat.le_refl _, Nat.le_refl _⟩ hk0 (ci := 9) (fs := fs_9 o0) (fun _ _ _ => rfl) rfl hw mw_576 mw_577 mw_62 mw_578 (n := 1) (by decide +kernel) rfl hdd (by decide) hrm hd
def f_X9_strengthOf (o0 : Nat) (x1 : Int32) (M : Mm) : Option (Int32) :=
  (if (f_X9_hasSuitor o0 x1 M) = 0 then some (0 : Int32) else Gd (ib x1 6) (some (M (o0 + 4) (ix x1))))
set_option maxRecDepth 100000 in
set_option maxHeartbeats 4000000 in
theorem c_X9_strengthOf {l : Launch} {D : va_G} {an : An} {b : Nat} {o0 : Nat} {x1 : Int32} (hk0 : KDF[o0]? = some (9, 0)) {M : Mm} {r : Int32} (h : f_X9_strengthOf o0 x1 M = some r) : Ct l D an b 0 yX9_strengthOf cX9_strengthOf 2 (some .int) 2 [.ref (b + o0), .int x1] KDF M (some (.int r)) KDF M := by
  refine CtX.mk (as := fun b => [.ref (b + o0), .int x1]) (rv := fun b => (some (.int r))) (by decide) (fun b => Nat.le_of_ble_eq_true rfl) ⟨Nat.le_refl _, Nat.le_refl _⟩ (fun x X hR Z hN _ _ => ?_)
  have X : Ok x cX9_strengthOf 2 RX9 (some .int) := X
  have G : Gz x 2 0 [(0, .ref (xb x + o0)), (1, .int x1)] [] KDF M (f_X9_strengthOf o0 x1 M) (PsI x KDF M) := by
    unfold f_X9_strengthOf
    refine g1 (pc' := 1) (w_aload_n X dX9_strengthOf_0 rfl 0 rfl) ?_
    refine g1 (pc' := 2) (w_iload_n X dX9_strengthOf_1 rfl 1 rfl) ?_
    refine g1 (pc' := 5) (k_X9_hasSuitor X hR hN Z hk0 mw_583 (by decide) (Nat.le_of_ble_eq_true rfl) dX9_strengthOf_2) ?_
    refine g_if (pcT := 17) (pcF := 8) (w_if_eq (tgt := 17) X dX9_strengthOf_5 (by decide)) (fun h1 => ?_) (fun h1 => ?_)
    · refine g1 (pc' := 18) (w_iconst X (0) dX9_strengthOf_17 (by decide)) ?_
      exact g_rI X dX9_strengthOf_18
    · refine g1 (pc' := 9) (w_aload_n X dX9_strengthOf_8 rfl 0 rfl) ?_
      refine g1 (pc' := 12) (gt_9_7 X hk0 mw_135 dX9_strengthOf_9) ?_
      refine g1 (pc' := 13) (w_iload_n X dX9_strengthOf_12 rfl 1 rfl) ?_
      refine g_gd (fun h2 => ?_)
      refine g1 (pc' := 14) (w_iald X (kd_To4 hk0) h2 dX9_strengthOf_13) ?_
      refine g1 (pc' := 18) (w_goto X dX9_strengthOf_14 (by decide)) ?_
      exact g_rI X dX9_strengthOf_18
  exact G _ h _ rfl
theorem k_X9_strengthOf {x : Cxt} {cc : ByteArray} {nL : Nat} {own : String} {ret : Option FieldType} (X : Ok x cc nL own ret) {d : Nat} (hR : Rm x d KDF) (hN : Nst x) (Z : xz x = 0) {pc : Nat} {lv : List (Nat × Value)} {rest : List Value} {M : Mm} {o0 : Nat} {x1 : Int32} (hk0 : KDF[o0]? = some (9, 0)) {idx : Nat} (hw : Cond.methodLink own idx yX9_strengthOf ∈ tbG) (hdd : 2 + 1 ≤ d) (hrm : (rest.map fun v => v.category).sum ≤ 8) (hd : decode cc pc = .ok (.invokevirtual idx, 3)) {r : Int32} (h : f_X9_strengthOf o0 x1 M = some r) : StpZ x nL pc lv (.int x1 :: .ref (xb x + o0) :: rest) KDF M (pc + 3) lv (.int r :: rest) KDF M :=
  w_callV (st := []) (As := [.int x1]) X hR hN (CtX0 Z (c_X9_strengthOf hk0 h)) ⟨Nat.le_refl _, Nat.le_refl _⟩ ⟨Nat.le_refl _, Nat.le_refl _⟩ hk0 (ci := 9) (fs := fs_9 o0) (fun _ _ _ => rfl) rfl hw mw_580 mw_581 mw_62 mw_582 (n := 1) (by decide +kernel) rfl hdd (by decide) hrm hd
def f_X9_excess (o0 : Nat) (x1 : Int32) (x2 : Int32) (M : Mm) : Option (Int32) :=
  Bd (f_X9_weightOf o0 x2 M) (fun r1 => Bd (f_X9_strengthOf o0 x1 M) (fun r2 => some (if (0 : Int32) < (r1 - r2) then (r1 - r2) else (0 : Int32))))
set_option maxRecDepth 100000 in
set_option maxHeartbeats 4000000 in
theorem c_X9_excess {l : Launch} {D : va_G} {an : An} {b : Nat} {o0 : Nat} {x1 : Int32} {x2 : Int32} (hk0 : KDF[o0]? = some (9, 0)) {M : Mm} {r : Int32} (h : f_X9_excess o0 x1 x2 M = some r) : Ct l D an b 0 yX9_excess cX9_excess 3 (some .int) 3 [.ref (b + o0), .int x1, .int x2] KDF M (some (.int r)) KDF M := by
  refine CtX.mk (as := fun b => [.ref (b + o0), .int x1, .int x2]) (rv := fun b => (some (.int r))) (by decide) (fun b => Nat.le_of_ble_eq_true rfl) ⟨Nat.le_refl _, Nat.le_refl _⟩ (fun x X hR Z hN _ _ => ?_)
  have X : Ok x cX9_excess 3 RX9 (some .int) := X
  have G : Gz x 3 0 [(0, .ref (xb x + o0)), (1, .int x1), (2, .int x2)] [] KDF M (f_X9_excess o0 x1 x2 M) (PsI x KDF M) := by
    unfold f_X9_excess
    refine g1 (pc' := 1) (w_iconst X (0) dX9_excess_0 (by decide)) ?_
    refine g1 (pc' := 2) (w_aload_n X dX9_excess_1 rfl 0 rfl) ?_
    refine g1 (pc' := 3) (w_iload_n X dX9_excess_2 rfl 2 rfl) ?_
    refine g_bd (pc' := 6) (fun r1 => [(0, .ref (xb x + o0)), (1, .int x1), (2, .int x2)]) (fun r1 => [.int r1, .int (0 : Int32)]) (fun r1 => M) (fun r1 h => k_X9_weightOf X hR hN Z hk0 mw_640 (by decide) (Nat.le_of_ble_eq_true rfl) dX9_excess_3 h) (fun r1 => ?_)
    show Gz x 3 6 [(0, .ref (xb x + o0)), (1, .int x1), (2, .int x2)] [.int r1, .int (0 : Int32)] KDF M _ _
    refine g1 (pc' := 7) (w_aload_n X dX9_excess_6 rfl 0 rfl) ?_
    refine g1 (pc' := 8) (w_iload_n X dX9_excess_7 rfl 1 rfl) ?_
    refine g_bd (pc' := 11) (fun r2 => [(0, .ref (xb x + o0)), (1, .int x1), (2, .int x2)]) (fun r2 => [.int r2, .int r1, .int (0 : Int32)]) (fun r2 => M) (fun r2 h => k_X9_strengthOf X hR hN Z hk0 mw_641 (by decide) (Nat.le_of_ble_eq_true rfl) dX9_excess_8 h) (fun r2 => ?_)
    show Gz x 3 11 [(0, .ref (xb x + o0)), (1, .int x1), (2, .int x2)] [.int r2, .int r1, .int (0 : Int32)] KDF M _ _
    refine g1 (pc' := 12) (w_isub X dX9_excess_11) ?_
    refine g1 (pc' := 15) (w_mmax X hR mw_642 mw_643 mw_77 mw_644 (by decide) (Nat.le_of_ble_eq_true rfl) ⟨Nat.le_refl _, Nat.le_refl _⟩ dX9_excess_12) ?_
    exact g_rI X dX9_excess_15
  exact G _ h _ rfl
theorem k_X9_excess {x : Cxt} {cc : ByteArray} {nL : Nat} {own : String} {ret : Option FieldType} (X : Ok x cc nL own ret) {d : Nat} (hR : Rm x d KDF) (hN : Nst x) (Z : xz x = 0) {pc : Nat} {lv : List (Nat × Value)} {rest : List Value} {M : Mm} {o0 : Nat} {x1 : Int32} {x2 : Int32} (hk0 : KDF[o0]? = some (9, 0)) {idx : Nat} (hw : Cond.methodLink own idx yX9_excess ∈ tbG) (hdd : 3 + 1 ≤ d) (hrm : (rest.map fun v => v.category).sum ≤ 8) (hd : decode cc pc = .ok (.invokevirtual idx, 3)) {r : Int32} (h : f_X9_excess o0 x1 x2 M = some r) : StpZ x nL pc lv (.int x2 :: .int x1 :: .ref (xb x + o0) :: rest) KDF M (pc + 3) lv (.int r :: rest) KDF M :=
  w_callV (st := []) (As := [.int x1, .int x2]) X hR hN (CtX0 Z (c_X9_excess hk0 h)) ⟨Nat.le_refl _, Nat.le_refl _⟩ ⟨Nat.le_refl _, Nat.le_refl _⟩ hk0 (ci := 9) (fs := fs_9 o0) (fun _ _ _ => rfl) rfl hw mw_637 mw_638 mw_62 mw_639 (n := 2) (by decide +kernel) rfl hdd (by decide) hrm hd
