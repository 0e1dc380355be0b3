def f_X4_bellFor (o0 : Nat) (x1 : Int32) (M : Mm) : Option (Int32) :=
  (if x1 < 0 then some (-1 : Int32) else (if (6 : Int32) ≤ x1 then some (-1 : Int32) else Gd (ib x1 6) (some (M 114 (ix x1)))))
set_option maxRecDepth 100000 in
set_option maxHeartbeats 4000000 in
theorem c_X4_bellFor {l : Launch} {D : va_G} {an : An} {b : Nat} {o0 : Nat} {x1 : Int32} (hk0 : KDF[o0]? = some (4, 0)) {M : Mm} {r : Int32} (h : f_X4_bellFor o0 x1 M = some r) : Ct l D an b 0 yX4_bellFor cX4_bellFor 2 (some .int) 1 [.ref (b + o0), .int x1] KDF M (some (.int r)) KDF M := by
  refine CtX.mk (as := fun b => [.ref (b + o0), .int x1]) (rv := fun b => (some (.int r))) (by decide) (fun b => Nat.le_of_ble_eq_true rfl) ⟨Nat.le_refl _, Nat.le_refl _⟩ (fun x X hR Z hN _ _ => ?_)
  have X : Ok x cX4_bellFor 2 RX4 (some .int) := X
  have G : Gz x 2 0 [(0, .ref (xb x + o0)), (1, .int x1)] [] KDF M (f_X4_bellFor o0 x1 M) (PsI x KDF M) := by
    unfold f_X4_bellFor
    refine g1 (pc' := 1) (w_iload_n X dX4_bellFor_0 rfl 1 rfl) ?_
    refine g_if (pcT := 19) (pcF := 4) (w_if_lt (tgt := 19) X dX4_bellFor_1 (by decide)) (fun h1 => ?_) (fun h1 => ?_)
    · refine g1 (pc' := 20) (w_iconst X (-1) dX4_bellFor_19 (by decide)) ?_
      exact g_rI X dX4_bellFor_20
    · refine g1 (pc' := 5) (w_iload_n X dX4_bellFor_4 rfl 1 rfl) ?_
      refine g1 (pc' := 7) (w_bipush X (6) dX4_bellFor_5 (by decide)) ?_
      refine g_if (pcT := 19) (pcF := 10) (w_icmp_ge (tgt := 19) X dX4_bellFor_7 (by decide)) (fun h2 => ?_) (fun h2 => ?_)
      · refine g1 (pc' := 20) (w_iconst X (-1) dX4_bellFor_19 (by decide)) ?_
        exact g_rI X dX4_bellFor_20
      · refine g1 (pc' := 11) (w_aload_n X dX4_bellFor_10 rfl 0 rfl) ?_
        refine g1 (pc' := 14) (gt_4_1 X hk0 mw_300 dX4_bellFor_11) ?_
        refine g1 (pc' := 15) (w_iload_n X dX4_bellFor_14 rfl 1 rfl) ?_
        refine g_gd (fun h3 => ?_)
        refine g1 (pc' := 16) (w_iald X kd_114 h3 dX4_bellFor_15) ?_
        refine g1 (pc' := 20) (w_goto X dX4_bellFor_16 (by decide)) ?_
        exact g_rI X dX4_bellFor_20
  exact G _ h _ rfl
theorem k_X4_bellFor {x : Cxt} {cc : ByteArray} {nL : Nat} {own : String} {ret : Option FieldType} (X : Ok x cc nL own ret) {d : Nat} (hR : Rm x d KDF) (hN : Nst x) (Z : xz x = 0) {pc : Nat} {lv : List (Nat × Value)} {rest : List Value} {M : Mm} {o0 : Nat} {x1 : Int32} (hk0 : KDF[o0]? = some (4, 0)) {idx : Nat} (hw : Cond.methodLink own idx yX4_bellFor ∈ tbG) (hdd : 1 + 1 ≤ d) (hrm : (rest.map fun v => v.category).sum ≤ 8) (hd : decode cc pc = .ok (.invokevirtual idx, 3)) {r : Int32} (h : f_X4_bellFor o0 x1 M = some r) : StpZ x nL pc lv (.int x1 :: .ref (xb x + o0) :: rest) KDF M (pc + 3) lv (.int r :: rest) KDF M :=
  w_callV (st := []) (As := [.int x1]) X hR hN (CtX0 Z (c_X4_bellFor hk0 h)) ⟨Nat.le_refl _, Nat.le_refl _⟩ ⟨Nat.le_refl _, Nat.le_refl _⟩ hk0 (ci := 4) (fs := fs_4 o0) (fun _ _ _ => rfl) rfl hw mw_825 mw_826 mw_73 mw_827 (n := 1) (by decide +kernel) rfl hdd (by decide) hrm hd
def b_X5_figures_4  (s4 : Int32 × Int32) : Option ((Int32 × Int32) ⊕ (Int32)) :=
  some (.inl (s4.1, s4.2))
def f_X5_figures (x0 : Int32) (x1 : Int32) : Option (Int32) :=
  Bd (Lp (b_X5_figures_4) 100000 ((0 : Int32), (0 : Int32))) (fun e1 => some e1)
set_option maxRecDepth 100000 in
set_option maxHeartbeats 4000000 in
theorem c_X5_figures {l : Launch} {D : va_G} {an : An} {b : Nat} {x0 : Int32} {x1 : Int32}  {M : Mm} {r : Int32} (h : f_X5_figures x0 x1 = some r) : Ct l D an b 0 yX5_figures cX5_figures 4 (some .int) 2 [.int x0, .int x1] KDF M (some (.int r)) KDF M := by
  refine CtX.mk (as := fun b => [.int x0, .int x1]) (rv := fun b => (some (.int r))) (by decide) (fun b => Nat.le_of_ble_eq_true rfl) ⟨Nat.le_refl _, Nat.le_refl _⟩ (fun x X hR Z hN _ _ => ?_)
  have X : Ok x cX5_figures 4 RX5 (some .int) := X
  have G : Gz x 4 0 [(0, .int x0), (1, .int x1)] [] KDF M (f_X5_figures x0 x1) (PsI x KDF M) := by
    unfold f_X5_figures
    refine g1 (pc' := 1) (w_iconst X (0) dX5_figures_0 (by decide)) ?_
    refine g1 (pc' := 2) (lv' := [(2, .int (0 : Int32)), (0, .int x0), (1, .int x1)]) (w_istore_n X dX5_figures_1 rfl (by decide) rfl) ?_
    refine g1 (pc' := 3) (w_iconst X (0) dX5_figures_2 (by decide)) ?_
    refine g1 (pc' := 4) (lv' := [(3, .int (0 : Int32)), (2, .int (0 : Int32)), (0, .int x0), (1, .int x1)]) (w_istore_n X dX5_figures_3 rfl (by decide) rfl) ?_
    refine g_pick (lv' := [(0, .int x0), (1, .int x1), (2, .int (0 : Int32)), (3, .int (0 : Int32))]) [2, 3, 1, 0] rfl ?_
    refine g_bdJ (J := 28) (fun e1 => [(2, .int e1)]) (fun e1 => []) (fun e1 => M) (g_lp (fun s4 => [(0, .int x0), (1, .int x1), (2, .int s4.1), (3, .int s4.2)]) (fun s4 => M) (fun s4 => ?_) 100000 ((0 : Int32), (0 : Int32))) (fun e1 => ?_)
    · show Gz x 4 4 [(0, .int x0), (1, .int x1), (2, .int s4.1), (3, .int s4.2)] [] KDF M (b_X5_figures_4 s4) _
      unfold b_X5_figures_4
      refine g_inl ?_
      exact g_end [0, 1, 2, 3] rfl rfl rfl
    · show Gz x 4 28 [(2, .int e1)] [] KDF M _ _
      refine g1 (pc' := 29) (w_iload_n X dX5_figures_28 rfl 0 rfl) ?_
      exact g_rI X dX5_figures_29
  exact G _ h _ rfl
theorem k_X5_figures {x : Cxt} {cc : ByteArray} {nL : Nat} {own : String} {ret : Option FieldType} (X : Ok x cc nL own ret) {d : Nat} (hR : Rm x d KDF) (hN : Nst x) (Z : xz x = 0) {pc : Nat} {lv : List (Nat × Value)} {rest : List Value} {M : Mm} {x0 : Int32} {x1 : Int32}  {idx : Nat} (hw : Cond.methodLink own idx yX5_figures ∈ tbG) (hdd : 2 + 1 ≤ d) (hrm : (rest.map fun v => v.category).sum ≤ 8) (hd : decode cc pc = .ok (.invokestatic idx, 3)) {r : Int32} (h : f_X5_figures x0 x1 = some r) : StpZ x nL pc lv (.int x1 :: .int x0 :: rest) KDF M (pc + 3) lv (.int r :: rest) KDF M :=
  w_callS (st := []) (As := [.int x0, .int x1]) X hR hN (CtX0 Z (c_X5_figures  h)) ⟨Nat.le_refl _, Nat.le_refl _⟩ ⟨Nat.le_refl _, Nat.le_refl _⟩ hw mw_531 mw_76 mw_532 (n := 2) (by decide +kernel) rfl hdd (by decide) hrm hd
def b_X5_fromFigures_12  (s12 : Int32 × Int32 × Int32 × Int32) : Option ((Int32 × Int32 × Int32 × Int32) ⊕ (Int32 × Int32)) :=
  some (.inl (s12.1, s12.2.1, s12.2.2.1, s12.2.2.2))
def f_X5_fromFigures (x0 : Int32) (x1 : Int32) : Option (Int32) :=
  Lt (x1 - (1 : Int32)) (fun v1 => Bd (Lp (b_X5_fromFigures_12) 100000 ((0 : Int32), (0 : Int32), x0, v1)) (fun e2 => (if x1 ≤ 0 then some (-1 : Int32) else (if e2.2 = 0 then some e2.1 else some (-1 : Int32)))))
set_option maxRecDepth 100000 in
set_option maxHeartbeats 4000000 in
theorem c_X5_fromFigures {l : Launch} {D : va_G} {an : An} {b : Nat} {x0 : Int32} {x1 : Int32}  {M : Mm} {r : Int32} (h : f_X5_fromFigures x0 x1 = some r) : Ct l D an b 0 yX5_fromFigures cX5_fromFigures 7 (some .int) 1 [.int x0, .int x1] KDF M (some (.int r)) KDF M := by
  refine CtX.mk (as := fun b => [.int x0, .int x1]) (rv := fun b => (some (.int r))) (by decide) (fun b => Nat.le_of_ble_eq_true rfl) ⟨Nat.le_refl _, Nat.le_refl _⟩ (fun x X hR Z hN _ _ => ?_)
  have X : Ok x cX5_fromFigures 7 RX5 (some .int) := X
  have G : Gz x 7 0 [(0, .int x0), (1, .int x1)] [] KDF M (f_X5_fromFigures x0 x1) (PsI x KDF M) := by
    unfold f_X5_fromFigures
    refine g1 (pc' := 1) (w_iconst X (0) dX5_fromFigures_0 (by decide)) ?_
    refine g1 (pc' := 2) (lv' := [(2, .int (0 : Int32)), (0, .int x0), (1, .int x1)]) (w_istore_n X dX5_fromFigures_1 rfl (by decide) rfl) ?_
    refine g1 (pc' := 3) (w_iconst X (0) dX5_fromFigures_2 (by decide)) ?_
    refine g1 (pc' := 4) (lv' := [(3, .int (0 : Int32)), (2, .int (0 : Int32)), (0, .int x0), (1, .int x1)]) (w_istore_n X dX5_fromFigures_3 rfl (by decide) rfl) ?_
    refine g1 (pc' := 5) (w_iload_n X dX5_fromFigures_4 rfl 2 rfl) ?_
    refine g1 (pc' := 7) (lv' := [(4, .int x0), (3, .int (0 : Int32)), (2, .int (0 : Int32)), (0, .int x0), (1, .int x1)]) (w_istore X dX5_fromFigures_5 (by decide) rfl) ?_
    refine g1 (pc' := 8) (w_iload_n X dX5_fromFigures_7 rfl 4 rfl) ?_
    refine g1 (pc' := 9) (w_iconst X (1) dX5_fromFigures_8 (by decide)) ?_
    refine g1 (pc' := 10) (w_isub X dX5_fromFigures_9) ?_
    refine g_lt (pc' := 12) (fun v1 => [(5, .int v1), (4, .int x0), (3, .int (0 : Int32)), (2, .int (0 : Int32)), (0, .int x0), (1, .int x1)]) (fun v1 => []) (fun v1 => M) (w_istore X dX5_fromFigures_10 (by decide) rfl) (fun v1 => ?_)
    show Gz x 7 12 [(5, .int v1), (4, .int x0), (3, .int (0 : Int32)), (2, .int (0 : Int32)), (0, .int x0), (1, .int x1)] [] KDF M _ _
    refine g_pick (lv' := [(1, .int x1), (2, .int (0 : Int32)), (3, .int (0 : Int32)), (4, .int x0), (5, .int v1)]) [5, 3, 2, 1, 0] rfl ?_
    refine g_bdJ (J := 78) (fun e2 => [(1, .int x1), (2, .int e2.1), (4, .int e2.2)]) (fun e2 => []) (fun e2 => M) (g_lp (fun s12 => [(1, .int x1), (2, .int s12.1), (3, .int s12.2.1), (4, .int s12.2.2.1), (5, .int s12.2.2.2)]) (fun s12 => M) (fun s12 => ?_) 100000 ((0 : Int32), (0 : Int32), x0, v1)) (fun e2 => ?_)
    · show Gz x 7 12 [(1, .int x1), (2, .int s12.1), (3, .int s12.2.1), (4, .int s12.2.2.1), (5, .int s12.2.2.2)] [] KDF M (b_X5_fromFigures_12 s12) _
      unfold b_X5_fromFigures_12
      refine g_inl ?_
      exact g_end [0, 1, 2, 3, 4] rfl rfl rfl
    · show Gz x 7 78 [(1, .int x1), (2, .int e2.1), (4, .int e2.2)] [] KDF M _ _
      refine g1 (pc' := 79) (w_iload_n X dX5_fromFigures_78 rfl 0 rfl) ?_
      refine g_if (pcT := 91) (pcF := 82) (w_if_le (tgt := 91) X dX5_fromFigures_79 (by decide)) (fun h3 => ?_) (fun h3 => ?_)
      · refine g1 (pc' := 92) (w_iconst X (-1) dX5_fromFigures_91 (by decide)) ?_
        exact g_rI X dX5_fromFigures_92
      · refine g1 (pc' := 84) (w_iload X dX5_fromFigures_82 2 rfl) ?_
        refine g_if (pcT := 87) (pcF := 91) (w_if_ne (tgt := 91) X dX5_fromFigures_84 (by decide)) (fun h4 => ?_) (fun h4 => ?_)
        · refine g1 (pc' := 88) (w_iload_n X dX5_fromFigures_87 rfl 1 rfl) ?_
          refine g1 (pc' := 92) (w_goto X dX5_fromFigures_88 (by decide)) ?_
          exact g_rI X dX5_fromFigures_92
        · refine g1 (pc' := 92) (w_iconst X (-1) dX5_fromFigures_91 (by decide)) ?_
          exact g_rI X dX5_fromFigures_92
  exact G _ h _ rfl
theorem k_X5_fromFigures {x : Cxt} {cc : ByteArray} {nL : Nat} {own : String} {ret : Option FieldType} (X : Ok x cc nL own ret) {d : Nat} (hR : Rm x d KDF) (hN : Nst x) (Z : xz x = 0) {pc : Nat} {lv : List (Nat × Value)} {rest : List Value} {M : Mm} {x0 : Int32} {x1 : Int32}  {idx : Nat} (hw : Cond.methodLink own idx yX5_fromFigures ∈ tbG) (hdd : 1 + 1 ≤ d) (hrm : (rest.map fun v => v.category).sum ≤ 8) (hd : decode cc pc = .ok (.invokestatic idx, 3)) {r : Int32} (h : f_X5_fromFigures x0 x1 = some r) : StpZ x nL pc lv (.int x1 :: .int x0 :: rest) KDF M (pc + 3) lv (.int r :: rest) KDF M :=
  w_callS (st := []) (As := [.int x0, .int x1]) X hR hN (CtX0 Z (c_X5_fromFigures  h)) ⟨Nat.le_refl _, Nat.le_refl _⟩ ⟨Nat.le_refl _, Nat.le_refl _⟩ hw mw_844 mw_76 mw_845 (n := 2) (by decide +kernel) rfl hdd (by decide) hrm hd
def b_X5_placesAlike_5  (s5 : Int32 × Int32) : Option ((Int32 × Int32) ⊕ (Int32)) :=
  some (.inl (s5.1, s5.2))
def f_X5_placesAlike (x0 : Int32) (x1 : Int32) (x2 : Int32) : Option (Int32) :=
  Bd (Lp (b_X5_placesAlike_5) 100000 ((0 : Int32), (0 : Int32))) (fun e1 => some e1)
set_option maxRecDepth 100000 in
set_option maxHeartbeats 4000000 in
theorem c_X5_placesAlike {l : Launch} {D : va_G} {an : An} {b : Nat} {x0 : Int32} {x1 : Int32} {x2 : Int32}  {M : Mm} {r : Int32} (h : f_X5_placesAlike x0 x1 x2 = some r) : Ct l D an b 0 yX5_placesAlike cX5_placesAlike 5 (some .int) 2 [.int x0, .int x1, .int x2] KDF M (some (.int r)) KDF M := by
  refine CtX.mk (as := fun b => [.int x0, .int x1, .int x2]) (rv := fun b => (some (.int r))) (by decide) (fun b => Nat.le_of_ble_eq_true rfl) ⟨Nat.le_refl _, Nat.le_refl _⟩ (fun x X hR Z hN _ _ => ?_)
  have X : Ok x cX5_placesAlike 5 RX5 (some .int) := X
  have G : Gz x 5 0 [(0, .int x0), (1, .int x1), (2, .int x2)] [] KDF M (f_X5_placesAlike x0 x1 x2) (PsI x KDF M) := by
    unfold f_X5_placesAlike
    refine g1 (pc' := 1) (w_iconst X (0) dX5_placesAlike_0 (by decide)) ?_
    refine g1 (pc' := 2) (lv' := [(3, .int (0 : Int32)), (0, .int x0), (1, .int x1), (2, .int x2)]) (w_istore_n X dX5_placesAlike_1 rfl (by decide) rfl) ?_
    refine g1 (pc' := 3) (w_iconst X (0) dX5_placesAlike_2 (by decide)) ?_
    refine g1 (pc' := 5) (lv' := [(4, .int (0 : Int32)), (3, .int (0 : Int32)), (0, .int x0), (1, .int x1), (2, .int x2)]) (w_istore X dX5_placesAlike_3 (by decide) rfl) ?_
    refine g_pick (lv' := [(0, .int x0), (1, .int x1), (2, .int x2), (3, .int (0 : Int32)), (4, .int (0 : Int32))]) [2, 3, 4, 1, 0] rfl ?_
    refine g_bdJ (J := 39) (fun e1 => [(3, .int e1)]) (fun e1 => []) (fun e1 => M) (g_lp (fun s5 => [(0, .int x0), (1, .int x1), (2, .int x2), (3, .int s5.1), (4, .int s5.2)]) (fun s5 => M) (fun s5 => ?_) 100000 ((0 : Int32), (0 : Int32))) (fun e1 => ?_)
    · show Gz x 5 5 [(0, .int x0), (1, .int x1), (2, .int x2), (3, .int s5.1), (4, .int s5.2)] [] KDF M (b_X5_placesAlike_5 s5) _
      unfold b_X5_placesAlike_5
      refine g_inl ?_
      exact g_end [0, 1, 2, 3, 4] rfl rfl rfl
    · show Gz x 5 39 [(3, .int e1)] [] KDF M _ _
      refine g1 (pc' := 40) (w_iload_n X dX5_placesAlike_39 rfl 0 rfl) ?_
      exact g_rI X dX5_placesAlike_40
  exact G _ h _ rfl
theorem k_X5_placesAlike {x : Cxt} {cc : ByteArray} {nL : Nat} {own : String} {ret : Option FieldType} (X : Ok x cc nL own ret) {d : Nat} (hR : Rm x d KDF) (hN : Nst x) (Z : xz x = 0) {pc : Nat} {lv : List (Nat × Value)} {rest : List Value} {M : Mm} {x0 : Int32} {x1 : Int32} {x2 : Int32}  {idx : Nat} (hw : Cond.methodLink own idx yX5_placesAlike ∈ tbG) (hdd : 2 + 1 ≤ d) (hrm : (rest.map fun v => v.category).sum ≤ 8) (hd : decode cc pc = .ok (.invokestatic idx, 3)) {r : Int32} (h : f_X5_placesAlike x0 x1 x2 = some r) : StpZ x nL pc lv (.int x2 :: .int x1 :: .int x0 :: rest) KDF M (pc + 3) lv (.int r :: rest) KDF M :=
  w_callS (st := []) (As := [.int x0, .int x1, .int x2]) X hR hN (CtX0 Z (c_X5_placesAlike  h)) ⟨Nat.le_refl _, Nat.le_refl _⟩ ⟨Nat.le_refl _, Nat.le_refl _⟩ hw mw_847 mw_76 mw_848 (n := 3) (by decide +kernel) rfl hdd (by decide) hrm hd
def f_X5_without (x0 : Int32) (x1 : Int32) (x2 : Int32) : Option (Int32) :=
  Bd (f_X5_placeOf x0 x1 x2) (fun r1 => (if r1 = (-1 : Int32) then some x0 else Lt (x0 &&& ((sl (1 : Int32) ((3 : Int32) * r1)) - (1 : Int32))) (fun v3 => Lt (sr x0 ((3 : Int32) * (r1 + (1 : Int32)))) (fun v4 => some (v3 ||| (sl v4 ((3 : Int32) * r1)))))))
set_option maxRecDepth 100000 in
set_option maxHeartbeats 4000000 in
theorem c_X5_without {l : Launch} {D : va_G} {an : An} {b : Nat} {x0 : Int32} {x1 : Int32} {x2 : Int32}  {M : Mm} {r : Int32} (h : f_X5_without x0 x1 x2 = some r) : Ct l D an b 0 yX5_without cX5_without 6 (some .int) 3 [.int x0, .int x1, .int x2] KDF M (some (.int r)) KDF M := by
  refine CtX.mk (as := fun b => [.int x0, .int x1, .int x2]) (rv := fun b => (some (.int r))) (by decide) (fun b => Nat.le_of_ble_eq_true rfl) ⟨Nat.le_refl _, Nat.le_refl _⟩ (fun x X hR Z hN _ _ => ?_)
  have X : Ok x cX5_without 6 RX5 (some .int) := X
  have G : Gz x 6 0 [(0, .int x0), (1, .int x1), (2, .int x2)] [] KDF M (f_X5_without x0 x1 x2) (PsI x KDF M) := by
    unfold f_X5_without
    refine g1 (pc' := 1) (w_iload_n X dX5_without_0 rfl 0 rfl) ?_
    refine g1 (pc' := 2) (w_iload_n X dX5_without_1 rfl 1 rfl) ?_
    refine g1 (pc' := 3) (w_iload_n X dX5_without_2 rfl 2 rfl) ?_
    refine g_bd (pc' := 6) (fun r1 => [(0, .int x0), (1, .int x1), (2, .int x2)]) (fun r1 => [.int r1]) (fun r1 => M) (fun r1 h => k_X5_placeOf X hR hN Z  mw_864 (by decide) (Nat.le_of_ble_eq_true rfl) dX5_without_3 h) (fun r1 => ?_)
    show Gz x 6 6 [(0, .int x0), (1, .int x1), (2, .int x2)] [.int r1] KDF M _ _
    refine g1 (pc' := 7) (lv' := [(3, .int r1), (0, .int x0), (1, .int x1), (2, .int x2)]) (w_istore_n X dX5_without_6 rfl (by decide) rfl) ?_
    refine g1 (pc' := 8) (w_iload_n X dX5_without_7 rfl 0 rfl) ?_
    refine g1 (pc' := 9) (w_iconst X (-1) dX5_without_8 (by decide)) ?_
    refine g_if (pcT := 12) (pcF := 14) (w_icmp_ne (tgt := 14) X dX5_without_9 (by decide)) (fun h2 => ?_) (fun h2 => ?_)
    · refine g1 (pc' := 13) (w_iload_n X dX5_without_12 rfl 1 rfl) ?_
      exact g_rI X dX5_without_13
    · refine g1 (pc' := 15) (w_iload_n X dX5_without_14 rfl 1 rfl) ?_
      refine g1 (pc' := 16) (w_iconst X (1) dX5_without_15 (by decide)) ?_
      refine g1 (pc' := 17) (w_iconst X (3) dX5_without_16 (by decide)) ?_
      refine g1 (pc' := 18) (w_iload_n X dX5_without_17 rfl 0 rfl) ?_
      refine g1 (pc' := 19) (w_imul X dX5_without_18) ?_
      refine g1 (pc' := 20) (w_ishl X dX5_without_19) ?_
      refine g1 (pc' := 21) (w_iconst X (1) dX5_without_20 (by decide)) ?_
      refine g1 (pc' := 22) (w_isub X dX5_without_21) ?_
      refine g1 (pc' := 23) (w_iand X dX5_without_22) ?_
      refine g_lt (pc' := 25) (fun v3 => [(4, .int v3), (3, .int r1), (0, .int x0), (1, .int x1), (2, .int x2)]) (fun v3 => []) (fun v3 => M) (w_istore X dX5_without_23 (by decide) rfl) (fun v3 => ?_)
      show Gz x 6 25 [(4, .int v3), (3, .int r1), (0, .int x0), (1, .int x1), (2, .int x2)] [] KDF M _ _
      refine g1 (pc' := 26) (w_iload_n X dX5_without_25 rfl 2 rfl) ?_
      refine g1 (pc' := 27) (w_iconst X (3) dX5_without_26 (by decide)) ?_
      refine g1 (pc' := 28) (w_iload_n X dX5_without_27 rfl 1 rfl) ?_
      refine g1 (pc' := 29) (w_iconst X (1) dX5_without_28 (by decide)) ?_
      refine g1 (pc' := 30) (w_iadd X dX5_without_29) ?_
      refine g1 (pc' := 31) (w_imul X dX5_without_30) ?_
      refine g1 (pc' := 32) (w_ishr X dX5_without_31) ?_
      refine g_lt (pc' := 34) (fun v4 => [(5, .int v4), (4, .int v3), (3, .int r1), (0, .int x0), (1, .int x1), (2, .int x2)]) (fun v4 => []) (fun v4 => M) (w_istore X dX5_without_32 (by decide) rfl) (fun v4 => ?_)
      show Gz x 6 34 [(5, .int v4), (4, .int v3), (3, .int r1), (0, .int x0), (1, .int x1), (2, .int x2)] [] KDF M _ _
      refine g1 (pc' := 36) (w_iload X dX5_without_34 1 rfl) ?_
      refine g1 (pc' := 38) (w_iload X dX5_without_36 0 rfl) ?_
      refine g1 (pc' := 39) (w_iconst X (3) dX5_without_38 (by decide)) ?_
      refine g1 (pc' := 40) (w_iload_n X dX5_without_39 rfl 2 rfl) ?_
      refine g1 (pc' := 41) (w_imul X dX5_without_40) ?_
      refine g1 (pc' := 42) (w_ishl X dX5_without_41) ?_
      refine g1 (pc' := 43) (w_ior X dX5_without_42) ?_
      exact g_rI X dX5_without_43
  exact G _ h _ rfl
theorem k_X5_without {x : Cxt} {cc : ByteArray} {nL : Nat} {own : String} {ret : Option FieldType} (X : Ok x cc nL own ret) {d : Nat} (hR : Rm x d KDF) (hN : Nst x) (Z : xz x = 0) {pc : Nat} {lv : List (Nat × Value)} {rest : List Value} {M : Mm} {x0 : Int32} {x1 : Int32} {x2 : Int32}  {idx : Nat} (hw : Cond.methodLink own idx yX5_without ∈ tbG) (hdd : 3 + 1 ≤ d) (hrm : (rest.map fun v => v.category).sum ≤ 8) (hd : decode cc pc = .ok (.invokestatic idx, 3)) {r : Int32} (h : f_X5_without x0 x1 x2 = some r) : StpZ x nL pc lv (.int x2 :: .int x1 :: .int x0 :: rest) KDF M (pc + 3) lv (.int r :: rest) KDF M :=
  w_callS (st := []) (As := [.int x0, .int x1, .int x2]) X hR hN (CtX0 Z (c_X5_without  h)) ⟨Nat.le_refl _, Nat.le_refl _⟩ ⟨Nat.le_refl _, Nat.le_refl _⟩ hw mw_862 mw_76 mw_863 (n := 3) (by decide +kernel) rfl hdd (by decide) hrm hd
def f_X6_clear (o0 : Nat) (M : Mm) : Option (Mm) :=
  Bd (f_J7_fill_53178 110 (0 : Int32) M) (fun r1 => some r1)
set_option maxRecDepth 100000 in
set_option maxHeartbeats 4000000 in
theorem c_X6_clear {l : Launch} {D : va_G} {an : An} {b : Nat} {o0 : Nat} (hk0 : KDF[o0]? = some (6, 0)) {M : Mm} {M' : Mm} (h : f_X6_clear o0 M = some M') : Ct l D an b 0 yX6_clear cX6_clear 1 none 2 [.ref (b + o0)] KDF M none KDF M' := by
  refine CtX.mk (as := fun b => [.ref (b + o0)]) (rv := fun b => none) (by decide) (fun b => Nat.le_of_ble_eq_true rfl) ⟨Nat.le_refl _, Nat.le_refl _⟩ (fun x X hR Z hN _ _ => ?_)
  have X : Ok x cX6_clear 1 RX6 none := X
  have G : Gz x 1 0 [(0, .ref (xb x + o0))] [] KDF M (f_X6_clear o0 M) (PsM x KDF) := by
    unfold f_X6_clear
    refine g1 (pc' := 1) (w_aload_n X dX6_clear_0 rfl 0 rfl) ?_
    refine g1 (pc' := 4) (gt_6_0 X hk0 mw_262 dX6_clear_1) ?_
    refine g1 (pc' := 5) (w_iconst X (0) dX6_clear_4 (by decide)) ?_
    refine g_bd (pc' := 8) (fun r1 => [(0, .ref (xb x + o0))]) (fun r1 => []) (fun r1 => r1) (fun r1 h => k_J7_fill_53178 X hR hN Z (kln_of kd_110) mw_759 (by decide) (Nat.le_of_ble_eq_true rfl) dX6_clear_5 h) (fun r1 => ?_)
    show Gz x 1 8 [(0, .ref (xb x + o0))] [] KDF r1 _ _
    exact g_rM X dX6_clear_8
  exact G _ h _ rfl
theorem k_X6_clear {x : Cxt} {cc : ByteArray} {nL : Nat} {own : String} {ret : Option FieldType} (X : Ok x cc nL own ret) {d : Nat} (hR : Rm x d KDF) (hN : Nst x) (Z : xz x = 0) {pc : Nat} {lv : List (Nat × Value)} {rest : List Value} {M : Mm} {o0 : Nat} (hk0 : KDF[o0]? = some (6, 0)) {idx : Nat} (hw : Cond.methodLink own idx yX6_clear ∈ tbG) (hdd : 2 + 1 ≤ d) (hrm : (rest.map fun v => v.category).sum ≤ 8) (hd : decode cc pc = .ok (.invokevirtual idx, 3)) {M' : Mm} (h : f_X6_clear o0 M = some M') : StpZ x nL pc lv (.ref (xb x + o0) :: rest) KDF M (pc + 3) lv (rest) KDF M' :=
  w_callV (st := []) (As := []) X hR hN (CtX0 Z (c_X6_clear hk0 h)) ⟨Nat.le_refl _, Nat.le_refl _⟩ ⟨Nat.le_refl _, Nat.le_refl _⟩ hk0 (ci := 6) (fs := fs_6 o0) (fun _ _ _ => rfl) rfl hw mw_756 mw_757 mw_71 mw_758 (n := 0) (by decide +kernel) rfl hdd (by decide) hrm hd
def f_X6_add (o0 : Nat) (x1 : Int32) (M : Mm) : Option (Int32 × Mm) :=
  Lt (x1 &&& (32767 : Int32)) (fun v1 => Lt (sl (1 : Int32) (rm v1 (32 : Int32))) (fun v2 => Lt (v1 / (32 : Int32)) (fun v3 => Gd (ib v3 1024) ((if ((M 110 (ix v3)) &&& v2) = 0 then Gd (ib v3 1024) (Gd (ib v3 1024) (Lt (st2 M 110 (ix v3) ((M 110 (ix v3)) ||| v2)) (fun M8 => some ((1 : Int32), M8)))) else some ((0 : Int32), M))))))
set_option maxRecDepth 100000 in
set_option maxHeartbeats 4000000 in
theorem c_X6_add {l : Launch} {D : va_G} {an : An} {b : Nat} {o0 : Nat} {x1 : Int32} (hk0 : KDF[o0]? = some (6, 0)) {M : Mm} {r : Int32} {M' : Mm} (h : f_X6_add o0 x1 M = some (r, M')) : Ct l D an b 0 yX6_add cX6_add 5 (some .boolean) 1 [.ref (b + o0), .int x1] KDF M (some (.int r)) KDF M' := by
  refine CtX.mk (as := fun b => [.ref (b + o0), .int x1]) (rv := fun b => (some (.int r))) (by decide) (fun b => Nat.le_of_ble_eq_true rfl) ⟨Nat.le_refl _, Nat.le_refl _⟩ (fun x X hR Z hN _ _ => ?_)
  have X : Ok x cX6_add 5 RX6 (some .boolean) := X
  have G : Gz x 5 0 [(0, .ref (xb x + o0)), (1, .int x1)] [] KDF M (f_X6_add o0 x1 M) (PsI2 x KDF) := by
    unfold f_X6_add
    refine g1 (pc' := 1) (w_iload_n X dX6_add_0 rfl 1 rfl) ?_
    refine g1 (pc' := 4) (w_sipush X (32767) dX6_add_1 (by decide)) ?_
    refine g1 (pc' := 5) (w_iand X dX6_add_4) ?_
    refine g_lt (pc' := 6) (fun v1 => [(2, .int v1), (0, .ref (xb x + o0)), (1, .int x1)]) (fun v1 => []) (fun v1 => M) (w_istore_n X dX6_add_5 rfl (by decide) rfl) (fun v1 => ?_)
    show Gz x 5 6 [(2, .int v1), (0, .ref (xb x + o0)), (1, .int x1)] [] KDF M _ _
    refine g1 (pc' := 7) (w_iconst X (1) dX6_add_6 (by decide)) ?_
    refine g1 (pc' := 8) (w_iload_n X dX6_add_7 rfl 0 rfl) ?_
    refine g1 (pc' := 10) (w_bipush X (32) dX6_add_8 (by decide)) ?_
    refine g1 (pc' := 11) (w_irem X dX6_add_10 (by decide)) ?_
    refine g1 (pc' := 12) (w_ishl X dX6_add_11) ?_
    refine g_lt (pc' := 13) (fun v2 => [(3, .int v2), (2, .int v1), (0, .ref (xb x + o0)), (1, .int x1)]) (fun v2 => []) (fun v2 => M) (w_istore_n X dX6_add_12 rfl (by decide) rfl) (fun v2 => ?_)
    show Gz x 5 13 [(3, .int v2), (2, .int v1), (0, .ref (xb x + o0)), (1, .int x1)] [] KDF M _ _
    refine g1 (pc' := 14) (w_iload_n X dX6_add_13 rfl 1 rfl) ?_
    refine g1 (pc' := 16) (w_bipush X (32) dX6_add_14 (by decide)) ?_
    refine g1 (pc' := 17) (w_idiv X dX6_add_16 (by decide)) ?_
    refine g_lt (pc' := 19) (fun v3 => [(4, .int v3), (3, .int v2), (2, .int v1), (0, .ref (xb x + o0)), (1, .int x1)]) (fun v3 => []) (fun v3 => M) (w_istore X dX6_add_17 (by decide) rfl) (fun v3 => ?_)
    show Gz x 5 19 [(4, .int v3), (3, .int v2), (2, .int v1), (0, .ref (xb x + o0)), (1, .int x1)] [] KDF M _ _
    refine g1 (pc' := 20) (w_aload_n X dX6_add_19 rfl 3 rfl) ?_
    refine g1 (pc' := 23) (gt_6_0 X hk0 mw_262 dX6_add_20) ?_
    refine g1 (pc' := 25) (w_iload X dX6_add_23 0 rfl) ?_
    refine g_gd (fun h4 => ?_)
    refine g1 (pc' := 26) (w_iald X kd_110 h4 dX6_add_25) ?_
    refine g1 (pc' := 27) (w_iload_n X dX6_add_26 rfl 1 rfl) ?_
    refine g1 (pc' := 28) (w_iand X dX6_add_27) ?_
    refine g_if (pcT := 33) (pcF := 31) (w_if_eq (tgt := 33) X dX6_add_28 (by decide)) (fun h5 => ?_) (fun h5 => ?_)
    · refine g1 (pc' := 34) (w_aload_n X dX6_add_33 rfl 3 rfl) ?_
      refine g1 (pc' := 37) (gt_6_0 X hk0 mw_262 dX6_add_34) ?_
      refine g1 (pc' := 39) (w_iload X dX6_add_37 0 rfl) ?_
      refine g1 (pc' := 40) (w_dup2 X dX6_add_39 rfl rfl) ?_
      refine g_gd (fun h6 => ?_)
      refine g1 (pc' := 41) (w_iald X kd_110 h6 dX6_add_40) ?_
      refine g1 (pc' := 42) (w_iload_n X dX6_add_41 rfl 1 rfl) ?_
      refine g1 (pc' := 43) (w_ior X dX6_add_42) ?_
      refine g_gd (fun h7 => ?_)
      refine g_lt (pc' := 44) (fun M8 => [(4, .int v3), (3, .int v2), (2, .int v1), (0, .ref (xb x + o0)), (1, .int x1)]) (fun M8 => []) (fun M8 => M8) (w_iast X Z kd_110 h7 dX6_add_43) (fun M8 => ?_)
      show Gz x 5 44 [(4, .int v3), (3, .int v2), (2, .int v1), (0, .ref (xb x + o0)), (1, .int x1)] [] KDF M8 _ _
      refine g1 (pc' := 45) (w_iconst X (1) dX6_add_44 (by decide)) ?_
      exact g_rZ2 X zb1 dX6_add_45
    · refine g1 (pc' := 32) (w_iconst X (0) dX6_add_31 (by decide)) ?_
      exact g_rZ2 X zb0 dX6_add_32
  exact G _ h _ rfl
theorem k_X6_add {x : Cxt} {cc : ByteArray} {nL : Nat} {own : String} {ret : Option FieldType} (X : Ok x cc nL own ret) {d : Nat} (hR : Rm x d KDF) (hN : Nst x) (Z : xz x = 0) {pc : Nat} {lv : List (Nat × Value)} {rest : List Value} {M : Mm} {o0 : Nat} {x1 : Int32} (hk0 : KDF[o0]? = some (6, 0)) {idx : Nat} (hw : Cond.methodLink own idx yX6_add ∈ tbG) (hdd : 1 + 1 ≤ d) (hrm : (rest.map fun v => v.category).sum ≤ 8) (hd : decode cc pc = .ok (.invokevirtual idx, 3)) {r : Int32} {M' : Mm} (h : f_X6_add o0 x1 M = some (r, M')) : StpZ x nL pc lv (.int x1 :: .ref (xb x + o0) :: rest) KDF M (pc + 3) lv (.int r :: rest) KDF M' :=
  w_callV (st := []) (As := [.int x1]) X hR hN (CtX0 Z (c_X6_add hk0 h)) ⟨Nat.le_refl _, Nat.le_refl _⟩ ⟨Nat.le_refl _, Nat.le_refl _⟩ hk0 (ci := 6) (fs := fs_6 o0) (fun _ _ _ => rfl) rfl hw mw_761 mw_762 mw_71 mw_763 (n := 1) (by decide +kernel) rfl hdd (by decide) hrm hd
def f_X6_remove (o0 : Nat) (x1 : Int32) (M : Mm) : Option (Mm) :=
  Lt (x1 &&& (32767 : Int32)) (fun v1 => Gd (ib (v1 / (32 : Int32)) 1024) (Gd (ib (v1 / (32 : Int32)) 1024) (Lt (st2 M 110 (ix (v1 / (32 : Int32))) ((M 110 (ix (v1 / (32 : Int32)))) &&& ((sl (1 : Int32) (rm v1 (32 : Int32))) ^^^ (-1 : Int32)))) (fun M4 => some M4))))
set_option maxRecDepth 100000 in
set_option maxHeartbeats 4000000 in
theorem c_X6_remove {l : Launch} {D : va_G} {an : An} {b : Nat} {o0 : Nat} {x1 : Int32} (hk0 : KDF[o0]? = some (6, 0)) {M : Mm} {M' : Mm} (h : f_X6_remove o0 x1 M = some M') : Ct l D an b 0 yX6_remove cX6_remove 3 none 1 [.ref (b + o0), .int x1] KDF M none KDF M' := by
  refine CtX.mk (as := fun b => [.ref (b + o0), .int x1]) (rv := fun b => none) (by decide) (fun b => Nat.le_of_ble_eq_true rfl) ⟨Nat.le_refl _, Nat.le_refl _⟩ (fun x X hR Z hN _ _ => ?_)
  have X : Ok x cX6_remove 3 RX6 none := X
  have G : Gz x 3 0 [(0, .ref (xb x + o0)), (1, .int x1)] [] KDF M (f_X6_remove o0 x1 M) (PsM x KDF) := by
    unfold f_X6_remove
    refine g1 (pc' := 1) (w_iload_n X dX6_remove_0 rfl 1 rfl) ?_
    refine g1 (pc' := 4) (w_sipush X (32767) dX6_remove_1 (by decide)) ?_
    refine g1 (pc' := 5) (w_iand X dX6_remove_4) ?_
    refine g_lt (pc' := 6) (fun v1 => [(2, .int v1), (0, .ref (xb x + o0)), (1, .int x1)]) (fun v1 => []) (fun v1 => M) (w_istore_n X dX6_remove_5 rfl (by decide) rfl) (fun v1 => ?_)
    show Gz x 3 6 [(2, .int v1), (0, .ref (xb x + o0)), (1, .int x1)] [] KDF M _ _
    refine g1 (pc' := 7) (w_aload_n X dX6_remove_6 rfl 1 rfl) ?_
    refine g1 (pc' := 10) (gt_6_0 X hk0 mw_262 dX6_remove_7) ?_
    refine g1 (pc' := 11) (w_iload_n X dX6_remove_10 rfl 0 rfl) ?_
    refine g1 (pc' := 13) (w_bipush X (32) dX6_remove_11 (by decide)) ?_
    refine g1 (pc' := 14) (w_idiv X dX6_remove_13 (by decide)) ?_
    refine g1 (pc' := 15) (w_dup2 X dX6_remove_14 rfl rfl) ?_
    refine g_gd (fun h2 => ?_)
    refine g1 (pc' := 16) (w_iald X kd_110 h2 dX6_remove_15) ?_
    refine g1 (pc' := 17) (w_iconst X (1) dX6_remove_16 (by decide)) ?_
    refine g1 (pc' := 18) (w_iload_n X dX6_remove_17 rfl 0 rfl) ?_
    refine g1 (pc' := 20) (w_bipush X (32) dX6_remove_18 (by decide)) ?_
    refine g1 (pc' := 21) (w_irem X dX6_remove_20 (by decide)) ?_
    refine g1 (pc' := 22) (w_ishl X dX6_remove_21) ?_
    refine g1 (pc' := 23) (w_iconst X (-1) dX6_remove_22 (by decide)) ?_
    refine g1 (pc' := 24) (w_ixor X dX6_remove_23) ?_
    refine g1 (pc' := 25) (w_iand X dX6_remove_24) ?_
    refine g_gd (fun h3 => ?_)
    refine g_lt (pc' := 26) (fun M4 => [(2, .int v1), (0, .ref (xb x + o0)), (1, .int x1)]) (fun M4 => []) (fun M4 => M4) (w_iast X Z kd_110 h3 dX6_remove_25) (fun M4 => ?_)
    show Gz x 3 26 [(2, .int v1), (0, .ref (xb x + o0)), (1, .int x1)] [] KDF M4 _ _
    exact g_rM X dX6_remove_26
  exact G _ h _ rfl
theorem k_X6_remove {x : Cxt} {cc : ByteArray} {nL : Nat} {own : String} {ret : Option FieldType} (X : Ok x cc nL own ret) {d : Nat} (hR : Rm x d KDF) (hN : Nst x) (Z : xz x = 0) {pc : Nat} {lv : List (Nat × Value)} {rest : List Value} {M : Mm} {o0 : Nat} {x1 : Int32} (hk0 : KDF[o0]? = some (6, 0)) {idx : Nat} (hw : Cond.methodLink own idx yX6_remove ∈ tbG) (hdd : 1 + 1 ≤ d) (hrm : (rest.map fun v => v.category).sum ≤ 8) (hd : decode cc pc = .ok (.invokevirtual idx, 3)) {M' : Mm} (h : f_X6_remove o0 x1 M = some M') : StpZ x nL pc lv (.int x1 :: .ref (xb x + o0) :: rest) KDF M (pc + 3) lv (rest) KDF M' :=
  w_callV (st := []) (As := [.int x1]) X hR hN (CtX0 Z (c_X6_remove hk0 h)) ⟨Nat.le_refl _, Nat.le_refl _⟩ ⟨Nat.le_refl _, Nat.le_refl _⟩ hk0 (ci := 6) (fs := fs_6 o0) (fun _ _ _ => rfl) rfl hw mw_791 mw_792 mw_71 mw_793 (n := 1) (by decide +kernel) rfl hdd (by decide) hrm hd
def f_X7_add (o0 : Nat) (x1 : Int32) (M : Mm) : Option (Int32 × Mm) :=
  (if (M o0 0) < (240 : Int32) then Lt (st2 M o0 0 ((M o0 0) + (1 : Int32))) (fun M2 => Gd (ib (M o0 0) 240) (Lt (st2 M2 36 (ix (M o0 0)) x1) (fun M4 => some ((1 : Int32), M4)))) else some ((0 : Int32), M))
set_option maxRecDepth 100000 in
set_option maxHeartbeats 4000000 in
theorem c_X7_add {l : Launch} {D : va_G} {an : An} {b : Nat} {o0 : Nat} {x1 : Int32} (hk0 : KDF[o0]? = some (7, 0)) {M : Mm} {r : Int32} {M' : Mm} (h : f_X7_add o0 x1 M = some (r, M')) : Ct l D an b 0 yX7_add cX7_add 2 (some .boolean) 1 [.ref (b + o0), .int x1] KDF M (some (.int r)) KDF M' := by
  refine CtX.mk (as := fun b => [.ref (b + o0), .int x1]) (rv := fun b => (some (.int r))) (by decide) (fun b => Nat.le_of_ble_eq_true rfl) ⟨Nat.le_refl _, Nat.le_refl _⟩ (fun x X hR Z hN _ _ => ?_)
  have X : Ok x cX7_add 2 RX7 (some .boolean) := X
  have G : Gz x 2 0 [(0, .ref (xb x + o0)), (1, .int x1)] [] KDF M (f_X7_add o0 x1 M) (PsI2 x KDF) := by
    unfold f_X7_add
    refine g1 (pc' := 1) (w_aload_n X dX7_add_0 rfl 0 rfl) ?_
    refine g1 (pc' := 4) (gt_7_0 X hk0 mw_163 dX7_add_1) ?_
    refine g1 (pc' := 7) (w_sipush X (240) dX7_add_4 (by decide)) ?_
    refine g_if (pcT := 12) (pcF := 10) (w_icmp_lt (tgt := 12) X dX7_add_7 (by decide)) (fun h1 => ?_) (fun h1 => ?_)
    · refine g1 (pc' := 13) (w_aload_n X dX7_add_12 rfl 0 rfl) ?_
      refine g1 (pc' := 16) (gt_7_2 X hk0 mw_167 dX7_add_13) ?_
      refine g1 (pc' := 17) (w_aload_n X dX7_add_16 rfl 0 rfl) ?_
      refine g1 (pc' := 18) (w_dup X dX7_add_17 rfl) ?_
      refine g1 (pc' := 21) (gt_7_0 X hk0 mw_163 dX7_add_18) ?_
      refine g1 (pc' := 22) (w_dup_x1 X dX7_add_21 rfl rfl) ?_
      refine g1 (pc' := 23) (w_iconst X (1) dX7_add_22 (by decide)) ?_
      refine g1 (pc' := 24) (w_iadd X dX7_add_23) ?_
      refine g_lt (pc' := 27) (fun M2 => [(0, .ref (xb x + o0)), (1, .int x1)]) (fun M2 => [.int (M o0 0), .ref (xb x + 36)]) (fun M2 => M2) (pt_7_0 X Z hk0 mw_163 dX7_add_24) (fun M2 => ?_)
      show Gz x 2 27 [(0, .ref (xb x + o0)), (1, .int x1)] [.int (M o0 0), .ref (xb x + 36)] KDF M2 _ _
      refine g1 (pc' := 28) (w_iload_n X dX7_add_27 rfl 1 rfl) ?_
      refine g_gd (fun h3 => ?_)
      refine g_lt (pc' := 29) (fun M4 => [(0, .ref (xb x + o0)), (1, .int x1)]) (fun M4 => []) (fun M4 => M4) (w_iast X Z kd_36 h3 dX7_add_28) (fun M4 => ?_)
      show Gz x 2 29 [(0, .ref (xb x + o0)), (1, .int x1)] [] KDF M4 _ _
      refine g1 (pc' := 30) (w_iconst X (1) dX7_add_29 (by decide)) ?_
      exact g_rZ2 X zb1 dX7_add_30
    · refine g1 (pc' := 11) (w_iconst X (0) dX7_add_10 (by decide)) ?_
      exact g_rZ2 X zb0 dX7_add_11
  exact G _ h _ rfl
theorem k_X7_add {x : Cxt} {cc : ByteArray} {nL : Nat} {own : String} {ret : Option FieldType} (X : Ok x cc nL own ret) {d : Nat} (hR : Rm x d KDF) (hN : Nst x) (Z : xz x = 0) {pc : Nat} {lv : List (Nat × Value)} {rest : List Value} {M : Mm} {o0 : Nat} {x1 : Int32} (hk0 : KDF[o0]? = some (7, 0)) {idx : Nat} (hw : Cond.methodLink own idx yX7_add ∈ tbG) (hdd : 1 + 1 ≤ d) (hrm : (rest.map fun v => v.category).sum ≤ 8) (hd : decode cc pc = .ok (.invokevirtual idx, 3)) {r : Int32} {M' : Mm} (h : f_X7_add o0 x1 M = some (r, M')) : StpZ x nL pc lv (.int x1 :: .ref (xb x + o0) :: rest) KDF M (pc + 3) lv (.int r :: rest) KDF M' :=
  w_callV (st := []) (As := [.int x1]) X hR hN (CtX0 Z (c_X7_add hk0 h)) ⟨Nat.le_refl _, Nat.le_refl _⟩ ⟨Nat.le_refl _, Nat.le_refl _⟩ hk0 (ci := 7) (fs := fs_7 o0) (fun _ _ _ => rfl) rfl hw mw_393 mw_394 mw_67 mw_395 (n := 1) (by decide +kernel) rfl hdd (by decide) hrm hd
def f_X9_clear (o0 : Nat) (M : Mm) : Option (Mm) :=
  Lt (st2 M o0 0 (0 : Int32)) (fun M1 => Lt (st2 M1 o0 1 (0 : Int32)) (fun M2 => Lt (st2 M2 o0 2 (0 : Int32)) (fun M3 => Lt (st2 M3 o0 3 (0 : Int32)) (fun M4 => some M4))))
set_option maxRecDepth 100000 in
set_option maxHeartbeats 4000000 in
theorem c_X9_clear {l : Launch} {D : va_G} {an : An} {b : Nat} {o0 : Nat} (hk0 : KDF[o0]? = some (9, 0)) {M : Mm} {M' : Mm} (h : f_X9_clear o0 M = some M') : Ct l D an b 0 yX9_clear cX9_clear 1 none 1 [.ref (b + o0)] KDF M none KDF M' := by
  refine CtX.mk (as := fun b => [.ref (b + o0)]) (rv := fun b => none) (by decide) (fun b => Nat.le_of_ble_eq_true rfl) ⟨Nat.le_refl _, Nat.le_refl _⟩ (fun x X hR Z hN _ _ => ?_)
  have X : Ok x cX9_clear 1 RX9 none := X
  have G : Gz x 1 0 [(0, .ref (xb x + o0))] [] KDF M (f_X9_clear o0 M) (PsM x KDF) := by
    unfold f_X9_clear
    refine g1 (pc' := 1) (w_aload_n X dX9_clear_0 rfl 0 rfl) ?_
    refine g1 (pc' := 2) (w_iconst X (0) dX9_clear_1 (by decide)) ?_
    refine g_lt (pc' := 5) (fun M1 => [(0, .ref (xb x + o0))]) (fun M1 => []) (fun M1 => M1) (pt_9_0 X Z hk0 mw_113 dX9_clear_2) (fun M1 => ?_)
    show Gz x 1 5 [(0, .ref (xb x + o0))] [] KDF M1 _ _
    refine g1 (pc' := 6) (w_aload_n X dX9_clear_5 rfl 0 rfl) ?_
    refine g1 (pc' := 7) (w_iconst X (0) dX9_clear_6 (by decide)) ?_
    refine g_lt (pc' := 10) (fun M2 => [(0, .ref (xb x + o0))]) (fun M2 => []) (fun M2 => M2) (pt_9_1 X Z hk0 mw_120 dX9_clear_7) (fun M2 => ?_)
    show Gz x 1 10 [(0, .ref (xb x + o0))] [] KDF M2 _ _
    refine g1 (pc' := 11) (w_aload_n X dX9_clear_10 rfl 0 rfl) ?_
    refine g1 (pc' := 12) (w_iconst X (0) dX9_clear_11 (by decide)) ?_
    refine g_lt (pc' := 15) (fun M3 => [(0, .ref (xb x + o0))]) (fun M3 => []) (fun M3 => M3) (pt_9_2 X Z hk0 mw_125 dX9_clear_12) (fun M3 => ?_)
    show Gz x 1 15 [(0, .ref (xb x + o0))] [] KDF M3 _ _
    refine g1 (pc' := 16) (w_aload_n X dX9_clear_15 rfl 0 rfl) ?_
    refine g1 (pc' := 17) (w_iconst X (0) dX9_clear_16 (by decide)) ?_
    refine g_lt (pc' := 20) (fun M4 => [(0, .ref (xb x + o0))]) (fun M4 => []) (fun M4 => M4) (pt_9_3 X Z hk0 zb0 mw_130 dX9_clear_17) (fun M4 => ?_)
    show Gz x 1 20 [(0, .ref (xb x + o0))] [] KDF M4 _ _
    exact g_rM X dX9_clear_20
  exact G _ h _ rfl
theorem k_X9_clear {x : Cxt} {cc : ByteArray} {nL : Nat} {own : String} {ret : Option FieldType} (X : Ok x cc nL own ret) {d : Nat} (hR : Rm x d KDF) (hN : Nst x) (Z : xz x = 0) {pc : Nat} {lv : List (Nat × Value)} {rest : List Value} {M : Mm} {o0 : Nat} (hk0 : KDF[o0]? = some (9, 0)) {idx : Nat} (hw : Cond.methodLink own idx yX9_clear ∈ tbG) (hdd : 1 + 1 ≤ d) (hrm : (rest.map fun v => v.category).sum ≤ 8) (hd : decode cc pc = .ok (.invokevirtual idx, 3)) {M' : Mm} (h : f_X9_clear o0 M = some M') : StpZ x nL pc lv (.ref (xb x + o0) :: rest) KDF M (pc + 3) lv (rest) KDF M' :=
  w_callV (st := []) (As := []) X hR hN (CtX0 Z (c_X9_clear hk0 h)) ⟨Nat.le_refl _, Nat.le_refl _⟩ ⟨Nat.le_refl _, Nat.le_refl _⟩ hk0 (ci := 9) (fs := fs_9 o0) (fun _ _ _ => rfl) rfl hw mw_406 mw_407 mw_65 mw_408 (n := 0) (by decide +kernel) rfl hdd (by decide) hrm hd
def f_X7_letterHere (o0 : Nat) (M : Mm) : Option (Int32) :=
  (if (M o0 4) < 0 then some (-1 : Int32) else (if (M o0 0) ≤ (M o0 4) then some (-1 : Int32) else (if (240 : Int32) ≤ (M o0 4) then some (-1 : Int32) else Gd (ib (M o0 4) 240) (some (M 36 (ix (M o0 4)))))))
set_option maxRecDepth 100000 in
set_option maxHeartbeats 4000000 in
theorem c_X7_letterHere {l : Launch} {D : va_G} {an : An} {b : Nat} {o0 : Nat} (hk0 : KDF[o0]? = some (7, 0)) {M : Mm} {r : Int32} (h : f_X7_letterHere o0 M = some r) : Ct l D an b 0 yX7_letterHere cX7_letterHere 1 (some .int) 1 [.ref (b + o0)] KDF M (some (.int r)) KDF M := by
  refine CtX.mk (as := fun b => [.ref (b + o0)]) (rv := fun b => (some (.int r))) (by decide) (fun b => Nat.le_of_ble_eq_true rfl) ⟨Nat.le_refl _, Nat.le_refl _⟩ (fun x X hR Z hN _ _ => ?_)
  have X : Ok x cX7_letterHere 1 RX7 (some .int) := X
  have G : Gz x 1 0 [(0, .ref (xb x + o0))] [] KDF M (f_X7_letterHere o0 M) (PsI x KDF M) := by
    unfold f_X7_letterHere
    refine g1 (pc' := 1) (w_aload_n X dX7_letterHere_0 rfl 0 rfl) ?_
    refine g1 (pc' := 4) (gt_7_4 X hk0 mw_169 dX7_letterHere_1) ?_
    refine g_if (pcT := 40) (pcF := 7) (w_if_lt (tgt := 40) X dX7_letterHere_4 (by decide)) (fun h1 => ?_) (fun h1 => ?_)
    · refine g1 (pc' := 41) (w_iconst X (-1) dX7_letterHere_40 (by decide)) ?_
      exact g_rI X dX7_letterHere_41
    · refine g1 (pc' := 8) (w_aload_n X dX7_letterHere_7 rfl 0 rfl) ?_
      refine g1 (pc' := 11) (gt_7_4 X hk0 mw_169 dX7_letterHere_8) ?_
      refine g1 (pc' := 12) (w_aload_n X dX7_letterHere_11 rfl 0 rfl) ?_
      refine g1 (pc' := 15) (gt_7_0 X hk0 mw_163 dX7_letterHere_12) ?_
      refine g_if (pcT := 40) (pcF := 18) (w_icmp_ge (tgt := 40) X dX7_letterHere_15 (by decide)) (fun h2 => ?_) (fun h2 => ?_)
      · refine g1 (pc' := 41) (w_iconst X (-1) dX7_letterHere_40 (by decide)) ?_
        exact g_rI X dX7_letterHere_41
      · refine g1 (pc' := 19) (w_aload_n X dX7_letterHere_18 rfl 0 rfl) ?_
        refine g1 (pc' := 22) (gt_7_4 X hk0 mw_169 dX7_letterHere_19) ?_
        refine g1 (pc' := 25) (w_sipush X (240) dX7_letterHere_22 (by decide)) ?_
        refine g_if (pcT := 40) (pcF := 28) (w_icmp_ge (tgt := 40) X dX7_letterHere_25 (by decide)) (fun h3 => ?_) (fun h3 => ?_)
        · refine g1 (pc' := 41) (w_iconst X (-1) dX7_letterHere_40 (by decide)) ?_
          exact g_rI X dX7_letterHere_41
        · refine g1 (pc' := 29) (w_aload_n X dX7_letterHere_28 rfl 0 rfl) ?_
          refine g1 (pc' := 32) (gt_7_2 X hk0 mw_167 dX7_letterHere_29) ?_
          refine g1 (pc' := 33) (w_aload_n X dX7_letterHere_32 rfl 0 rfl) ?_
          refine g1 (pc' := 36) (gt_7_4 X hk0 mw_169 dX7_letterHere_33) ?_
          refine g_gd (fun h4 => ?_)
          refine g1 (pc' := 37) (w_iald X kd_36 h4 dX7_letterHere_36) ?_
          refine g1 (pc' := 41) (w_goto X dX7_letterHere_37 (by decide)) ?_
          exact g_rI X dX7_letterHere_41
  exact G _ h _ rfl
theorem k_X7_letterHere {x : Cxt} {cc : ByteArray} {nL : Nat} {own : String} {ret : Option FieldType} (X : Ok x cc nL own ret) {d : Nat} (hR : Rm x d KDF) (hN : Nst x) (Z : xz x = 0) {pc : Nat} {lv : List (Nat × Value)} {rest : List Value} {M : Mm} {o0 : Nat} (hk0 : KDF[o0]? = some (7, 0)) {idx : Nat} (hw : Cond.methodLink own idx yX7_letterHere ∈ tbG) (hdd : 1 + 1 ≤ d) (hrm : (rest.map fun v => v.category).sum ≤ 8) (hd : decode cc pc = .ok (.invokevirtual idx, 3)) {r : Int32} (h : f_X7_letterHere o0 M = some r) : StpZ x nL pc lv (.ref (xb x + o0) :: rest) KDF M (pc + 3) lv (.int r :: rest) KDF M :=
  w_callV (st := []) (As := []) X hR hN (CtX0 Z (c_X7_letterHere hk0 h)) ⟨Nat.le_refl _, Nat.le_refl _⟩ ⟨Nat.le_refl _, Nat.le_refl _⟩ hk0 (ci := 7) (fs := fs_7 o0) (fun _ _ _ => rfl) rfl hw mw_415 mw_1 mw_67 mw_416 (n := 0) (by decide +kernel) rfl hdd (by decide) hrm hd
def b_X7_skipBlanks_0  (s0 : Mm) : Option ((Mm) ⊕ (Mm)) :=
  some (.inl s0)
def f_X7_skipBlanks (o0 : Nat) (M : Mm) : Option (Mm) :=
  Bd (Lp (b_X7_skipBlanks_0) 100000 M) (fun e1 => some e1)
set_option maxRecDepth 100000 in
set_option maxHeartbeats 4000000 in
theorem c_X7_skipBlanks {l : Launch} {D : va_G} {an : An} {b : Nat} {o0 : Nat} (hk0 : KDF[o0]? = some (7, 0)) {M : Mm} {M' : Mm} (h : f_X7_skipBlanks o0 M = some M') : Ct l D an b 0 yX7_skipBlanks cX7_skipBlanks 1 none 2 [.ref (b + o0)] KDF M none KDF M' := by
  refine CtX.mk (as := fun b => [.ref (b + o0)]) (rv := fun b => none) (by decide) (fun b => Nat.le_of_ble_eq_true rfl) ⟨Nat.le_refl _, Nat.le_refl _⟩ (fun x X hR Z hN _ _ => ?_)
  have X : Ok x cX7_skipBlanks 1 RX7 none := X
  have G : Gz x 1 0 [(0, .ref (xb x + o0))] [] KDF M (f_X7_skipBlanks o0 M) (PsM x KDF) := by
    unfold f_X7_skipBlanks
    refine g_pick (lv' := [(0, .ref (xb x + o0))]) [0] rfl ?_
    refine g_bdJ (J := 33) (fun e1 => []) (fun e1 => []) (fun e1 => e1) (g_lp (fun s0 => [(0, .ref (xb x + o0))]) (fun s0 => s0) (fun s0 => ?_) 100000 M) (fun e1 => ?_)
    · show Gz x 1 0 [(0, .ref (xb x + o0))] [] KDF s0 (b_X7_skipBlanks_0 s0) _
      unfold b_X7_skipBlanks_0
      refine g_inl ?_
      exact g_end [0] rfl rfl rfl
    · show Gz x 1 33 [] [] KDF e1 _ _
      exact g_rM X dX7_skipBlanks_33
  exact G _ h _ rfl
theorem k_X7_skipBlanks {x : Cxt} {cc : ByteArray} {nL : Nat} {own : String} {ret : Option FieldType} (X : Ok x cc nL own ret) {d : Nat} (hR : Rm x d KDF) (hN : Nst x) (Z : xz x = 0) {pc : Nat} {lv : List (Nat × Value)} {rest : List Value} {M : Mm} {o0 : Nat} (hk0 : KDF[o0]? = some (7, 0)) {idx : Nat} (hw : Cond.methodLink own idx yX7_skipBlanks ∈ tbG) (hdd : 2 + 1 ≤ d) (hrm : (rest.map fun v => v.category).sum ≤ 8) (hd : decode cc pc = .ok (.invokevirtual idx, 3)) {M' : Mm} (h : f_X7_skipBlanks o0 M = some M') : StpZ x nL pc lv (.ref (xb x + o0) :: rest) KDF M (pc + 3) lv (rest) KDF M' :=
  w_callV (st := []) (As := []) X hR hN (CtX0 Z (c_X7_skipBlanks hk0 h)) ⟨Nat.le_refl _, Nat.le_refl _⟩ ⟨Nat.le_refl _, Nat.le_refl _⟩ hk0 (ci := 7) (fs := fs_7 o0) (fun _ _ _ => rfl) rfl hw mw_411 mw_0 mw_67 mw_412 (n := 0) (by decide +kernel) rfl hdd (by decide) hrm hd
def f_X7_faultOfWord (o0 : Nat) (x1 : Int32) (M : Mm) : Option (Int32) :=
  Gd (KDF[(M o0 3).toNatClampNeg]? = some (9, 0)) ((if (f_X9_stands (M o0 3).toNatClampNeg M) = 0 then (if x1 = (98 : Int32) then some (0 : Int32) else some (1 : Int32)) else (if x1 = (98 : Int32) then some (3 : Int32) else (if x1 = (99 : Int32) then Gd (KDF[(M o0 3).toNatClampNeg]? = some (9, 0)) ((if (M (M o0 3).toNatClampNeg 3) = 0 then some (0 : Int32) else some (3 : Int32))) else (if x1 = (109 : Int32) then Gd (KDF[(M o0 3).toNatClampNeg]? = some (9, 0)) ((if (M (M o0 3).toNatClampNeg 1) ≤ 0 then some (0 : Int32) else some (3 : Int32))) else (if x1 = (114 : Int32) then Gd (KDF[(M o0 3).toNatClampNeg]? = some (9, 0)) (Gd (KDF[(M o0 3).toNatClampNeg]? = some (9, 0)) ((if (M (M o0 3).toNatClampNeg 0) ≤ (M (M o0 3).toNatClampNeg 2) then some (3 : Int32) else some (0 : Int32)))) else some (1 : Int32)))))))
set_option maxRecDepth 100000 in
set_option maxHeartbeats 4000000 in
theorem c_X7_faultOfWord {l : Launch} {D : va_G} {an : An} {b : Nat} {o0 : Nat} {x1 : Int32} (hk0 : KDF[o0]? = some (7, 0)) {M : Mm} {r : Int32} (h : f_X7_faultOfWord o0 x1 M = some r) : Ct l D an b 0 yX7_faultOfWord cX7_faultOfWord 2 (some .int) 2 [.ref (b + o0), .int x1] KDF M (some (.int r)) KDF M := by
  refine CtX.mk (as := fun b => [.ref (b + o0), .int x1]) (rv := fun b => (some (.int r))) (by decide) (fun b => Nat.le_of_ble_eq_true rfl) ⟨Nat.le_refl _, Nat.le_refl _⟩ (fun x X hR Z hN _ _ => ?_)
  have X : Ok x cX7_faultOfWord 2 RX7 (some .int) := X
  have G : Gz x 2 0 [(0, .ref (xb x + o0)), (1, .int x1)] [] KDF M (f_X7_faultOfWord o0 x1 M) (PsI x KDF M) := by
    unfold f_X7_faultOfWord
    refine g1 (pc' := 1) (w_aload_n X dX7_faultOfWord_0 rfl 0 rfl) ?_
    refine g1 (pc' := 4) (gt_7_3 X hk0 mw_168 dX7_faultOfWord_1) ?_
    refine g_gd (fun h1 => ?_)
    refine g1 (pc' := 7) (k_X9_stands X hR hN Z h1 mw_425 (by decide) (Nat.le_of_ble_eq_true rfl) dX7_faultOfWord_4) ?_
    refine g_if (pcT := 10) (pcF := 22) (w_if_ne (tgt := 22) X dX7_faultOfWord_7 (by decide)) (fun h2 => ?_) (fun h2 => ?_)
    · refine g1 (pc' := 11) (w_iload_n X dX7_faultOfWord_10 rfl 1 rfl) ?_
      refine g1 (pc' := 13) (w_bipush X (98) dX7_faultOfWord_11 (by decide)) ?_
      refine g_if (pcT := 16) (pcF := 20) (w_icmp_ne (tgt := 20) X dX7_faultOfWord_13 (by decide)) (fun h3 => ?_) (fun h3 => ?_)
      · refine g1 (pc' := 17) (w_iconst X (0) dX7_faultOfWord_16 (by decide)) ?_
        refine g1 (pc' := 21) (w_goto X dX7_faultOfWord_17 (by decide)) ?_
        exact g_rI X dX7_faultOfWord_21
      · refine g1 (pc' := 21) (w_iconst X (1) dX7_faultOfWord_20 (by decide)) ?_
        exact g_rI X dX7_faultOfWord_21
    · refine g1 (pc' := 23) (w_iload_n X dX7_faultOfWord_22 rfl 1 rfl) ?_
      refine g_by (fun h4 => ?_) (fun h4 => ?_)
      · refine g1 (pc' := 64) (w_lkup (off := 41) X dX7_faultOfWord_23 (by decide) (by rw [h4]; decide) (by decide)) ?_
        refine g1 (pc' := 65) (w_iconst X (3) dX7_faultOfWord_64 (by decide)) ?_
        exact g_rI X dX7_faultOfWord_65
      · refine g_by (fun h5 => ?_) (fun h5 => ?_)
        · refine g1 (pc' := 105) (w_lkup (off := 82) X dX7_faultOfWord_23 (by decide) (by rw [h5]; decide) (by decide)) ?_
          refine g1 (pc' := 106) (w_aload_n X dX7_faultOfWord_105 rfl 0 rfl) ?_
          refine g1 (pc' := 109) (gt_7_3 X hk0 mw_168 dX7_faultOfWord_106) ?_
          refine g_gd (fun h6 => ?_)
          refine g1 (pc' := 112) (gt_9_3 X h6 mw_131 dX7_faultOfWord_109) ?_
          refine g_if (pcT := 119) (pcF := 115) (w_if_eq (tgt := 119) X dX7_faultOfWord_112 (by decide)) (fun h7 => ?_) (fun h7 => ?_)
          · refine g1 (pc' := 120) (w_iconst X (0) dX7_faultOfWord_119 (by decide)) ?_
            exact g_rI X dX7_faultOfWord_120
          · refine g1 (pc' := 116) (w_iconst X (3) dX7_faultOfWord_115 (by decide)) ?_
            refine g1 (pc' := 120) (w_goto X dX7_faultOfWord_116 (by decide)) ?_
            exact g_rI X dX7_faultOfWord_120
        · refine g_by (fun h8 => ?_) (fun h8 => ?_)
          · refine g1 (pc' := 66) (w_lkup (off := 43) X dX7_faultOfWord_23 (by decide) (by rw [h8]; decide) (by decide)) ?_
            refine g1 (pc' := 67) (w_aload_n X dX7_faultOfWord_66 rfl 0 rfl) ?_
            refine g1 (pc' := 70) (gt_7_3 X hk0 mw_168 dX7_faultOfWord_67) ?_
            refine g_gd (fun h9 => ?_)
            refine g1 (pc' := 73) (gt_9_1 X h9 mw_124 dX7_faultOfWord_70) ?_
            refine g_if (pcT := 80) (pcF := 76) (w_if_le (tgt := 80) X dX7_faultOfWord_73 (by decide)) (fun h10 => ?_) (fun h10 => ?_)
            · refine g1 (pc' := 81) (w_iconst X (0) dX7_faultOfWord_80 (by decide)) ?_
              exact g_rI X dX7_faultOfWord_81
            · refine g1 (pc' := 77) (w_iconst X (3) dX7_faultOfWord_76 (by decide)) ?_
              refine g1 (pc' := 81) (w_goto X dX7_faultOfWord_77 (by decide)) ?_
              exact g_rI X dX7_faultOfWord_81
          · refine g_by (fun h11 => ?_) (fun h11 => ?_)
            · refine g1 (pc' := 82) (w_lkup (off := 59) X dX7_faultOfWord_23 (by decide) (by rw [h11]; decide) (by decide)) ?_
              refine g1 (pc' := 83) (w_aload_n X dX7_faultOfWord_82 rfl 0 rfl) ?_
              refine g1 (pc' := 86) (gt_7_3 X hk0 mw_168 dX7_faultOfWord_83) ?_
              refine g_gd (fun h12 => ?_)
              refine g1 (pc' := 89) (gt_9_2 X h12 mw_129 dX7_faultOfWord_86) ?_
              refine g1 (pc' := 90) (w_aload_n X dX7_faultOfWord_89 rfl 0 rfl) ?_
              refine g1 (pc' := 93) (gt_7_3 X hk0 mw_168 dX7_faultOfWord_90) ?_
              refine g_gd (fun h13 => ?_)
              refine g1 (pc' := 96) (gt_9_0 X h13 mw_118 dX7_faultOfWord_93) ?_
              refine g_if (pcT := 103) (pcF := 99) (w_icmp_ge (tgt := 103) X dX7_faultOfWord_96 (by decide)) (fun h14 => ?_) (fun h14 => ?_)
              · refine g1 (pc' := 104) (w_iconst X (3) dX7_faultOfWord_103 (by decide)) ?_
                exact g_rI X dX7_faultOfWord_104
              · refine g1 (pc' := 100) (w_iconst X (0) dX7_faultOfWord_99 (by decide)) ?_
                refine g1 (pc' := 104) (w_goto X dX7_faultOfWord_100 (by decide)) ?_
                exact g_rI X dX7_faultOfWord_104
            · refine g1 (pc' := 121) (w_lkup (off := 98) X dX7_faultOfWord_23 (by decide) (by rw [lv_osw h4 (by decide), lv_osw h5 (by decide), lv_osw h8 (by decide), lv_osw h11 (by decide)]; rfl) (by decide)) ?_
              refine g1 (pc' := 122) (w_iconst X (1) dX7_faultOfWord_121 (by decide)) ?_
              exact g_rI X dX7_faultOfWord_122
  exact G _ h _ rfl
theorem k_X7_faultOfWord {x : Cxt} {cc : ByteArray} {nL : Nat} {own : String} {ret : Option FieldType} (X : Ok x cc nL own ret) {d : Nat} (hR : Rm x d KDF) (hN : Nst x) (Z : xz x = 0) {pc : Nat} {lv : List (Nat × Value)} {rest : List Value} {M : Mm} {o0 : Nat} {x1 : Int32} (hk0 : KDF[o0]? = some (7, 0)) {idx : Nat} (hw : Cond.methodLink own idx yX7_faultOfWord ∈ tbG) (hdd : 2 + 1 ≤ d) (hrm : (rest.map fun v => v.category).sum ≤ 8) (hd : decode cc pc = .ok (.invokevirtual idx, 3)) {r : Int32} (h : f_X7_faultOfWord o0 x1 M = some r) : StpZ x nL pc lv (.int x1 :: .ref (xb x + o0) :: rest) KDF M (pc + 3) lv (.int r :: rest) KDF M :=
  w_callV (st := []) (As := [.int x1]) X hR hN (CtX0 Z (c_X7_faultOfWord hk0 h)) ⟨Nat.le_refl _, Nat.le_refl _⟩ ⟨Nat.le_refl _, Nat.le_refl _⟩ hk0 (ci := 7) (fs := fs_7 o0) (fun _ _ _ => rfl) rfl hw mw_423 mw_3 mw_67 mw_424 (n := 1) (by decide +kernel) rfl hdd (by decide) hrm hd
def f_X7_fail (o0 : Nat) (x1 : Int32) (x2 : Int32) (M : Mm) : Option (Mm) :=
  Lt (st2 M o0 6 x1) (fun M1 => Lt (st2 M1 o0 1 x2) (fun M2 => some M2))
set_option maxRecDepth 100000 in
set_option maxHeartbeats 4000000 in
theorem c_X7_fail {l : Launch} {D : va_G} {an : An} {b : Nat} {o0 : Nat} {x1 : Int32} {x2 : Int32} (hk0 : KDF[o0]? = some (7, 0)) {M : Mm} {M' : Mm} (h : f_X7_fail o0 x1 x2 M = some M') : Ct l D an b 0 yX7_fail cX7_fail 3 none 1 [.ref (b + o0), .int x1, .int x2] KDF M none KDF M' := by
  refine CtX.mk (as := fun b => [.ref (b + o0), .int x1, .int x2]) (rv := fun b => none) (by decide) (fun b => Nat.le_of_ble_eq_true rfl) ⟨Nat.le_refl _, Nat.le_refl _⟩ (fun x X hR Z hN _ _ => ?_)
  have X : Ok x cX7_fail 3 RX7 none := X
  have G : Gz x 3 0 [(0, .ref (xb x + o0)), (1, .int x1), (2, .int x2)] [] KDF M (f_X7_fail o0 x1 x2 M) (PsM x KDF) := by
    unfold f_X7_fail
    refine g1 (pc' := 1) (w_aload_n X dX7_fail_0 rfl 0 rfl) ?_
    refine g1 (pc' := 2) (w_iload_n X dX7_fail_1 rfl 1 rfl) ?_
    refine g_lt (pc' := 5) (fun M1 => [(0, .ref (xb x + o0)), (1, .int x1), (2, .int x2)]) (fun M1 => []) (fun M1 => M1) (pt_7_6 X Z hk0 mw_171 dX7_fail_2) (fun M1 => ?_)
    show Gz x 3 5 [(0, .ref (xb x + o0)), (1, .int x1), (2, .int x2)] [] KDF M1 _ _
    refine g1 (pc' := 6) (w_aload_n X dX7_fail_5 rfl 0 rfl) ?_
    refine g1 (pc' := 7) (w_iload_n X dX7_fail_6 rfl 2 rfl) ?_
    refine g_lt (pc' := 10) (fun M2 => [(0, .ref (xb x + o0)), (1, .int x1), (2, .int x2)]) (fun M2 => []) (fun M2 => M2) (pt_7_1 X Z hk0 mw_165 dX7_fail_7) (fun M2 => ?_)
    show Gz x 3 10 [(0, .ref (xb x + o0)), (1, .int x1), (2, .int x2)] [] KDF M2 _ _
    exact g_rM X dX7_fail_10
  exact G _ h _ rfl
theorem k_X7_fail {x : Cxt} {cc : ByteArray} {nL : Nat} {own : String} {ret : Option FieldType} (X : Ok x cc nL own ret) {d : Nat} (hR : Rm x d KDF) (hN : Nst x) (Z : xz x = 0) {pc : Nat} {lv : List (Nat × Value)} {rest : List Value} {M : Mm} {o0 : Nat} {x1 : Int32} {x2 : Int32} (hk0 : KDF[o0]? = some (7, 0)) {idx : Nat} (hw : Cond.methodLink own idx yX7_fail ∈ tbG) (hdd : 1 + 1 ≤ d) (hrm : (rest.map fun v => v.category).sum ≤ 8) (hd : decode cc pc = .ok (.invokevirtual idx, 3)) {M' : Mm} (h : f_X7_fail o0 x1 x2 M = some M') : StpZ x nL pc lv (.int x2 :: .int x1 :: .ref (xb x + o0) :: rest) KDF M (pc + 3) lv (rest) KDF M' :=
  w_callV (st := []) (As := [.int x1, .int x2]) X hR hN (CtX0 Z (c_X7_fail hk0 h)) ⟨Nat.le_refl _, Nat.le_refl _⟩ ⟨Nat.le_refl _, Nat.le_refl _⟩ hk0 (ci := 7) (fs := fs_7 o0) (fun _ _ _ => rfl) rfl hw mw_431 mw_4 mw_67 mw_432 (n := 2) (by decide +kernel) rfl hdd (by decide) hrm hd
def f_X7_mostNumbers (x0 : Int32) : Option (Int32) :=
  (if x0 = (98 : Int32) then some (6 : Int32) else (if x0 = (109 : Int32) then some (12 : Int32) else some (1 : Int32)))
set_option maxRecDepth 100000 in
set_option maxHeartbeats 4000000 in
theorem c_X7_mostNumbers {l : Launch} {D : va_G} {an : An} {b : Nat} {x0 : Int32}  {M : Mm} {r : Int32} (h : f_X7_mostNumbers x0 = some r) : Ct l D an b 0 yX7_mostNumbers cX7_mostNumbers 1 (some .int) 1 [.int x0] KDF M (some (.int r)) KDF M := by
  refine CtX.mk (as := fun b => [.int x0]) (rv := fun b => (some (.int r))) (by decide) (fun b => Nat.le_of_ble_eq_true rfl) ⟨Nat.le_refl _, Nat.le_refl _⟩ (fun x X hR Z hN _ _ => ?_)
  have X : Ok x cX7_mostNumbers 1 RX7 (some .int) := X
  have G : Gz x 1 0 [(0, .int x0)] [] KDF M (f_X7_mostNumbers x0) (PsI x KDF M) := by
    unfold f_X7_mostNumbers
    refine g1 (pc' := 1) (w_iload_n X dX7_mostNumbers_0 rfl 0 rfl) ?_
    refine g_by (fun h1 => ?_) (fun h1 => ?_)
    · refine g1 (pc' := 28) (w_lkup (off := 27) X dX7_mostNumbers_1 (by decide) (by rw [h1]; decide) (by decide)) ?_
      refine g1 (pc' := 30) (w_bipush X (6) dX7_mostNumbers_28 (by decide)) ?_
      exact g_rI X dX7_mostNumbers_30
    · refine g_by (fun h2 => ?_) (fun h2 => ?_)
      · refine g1 (pc' := 31) (w_lkup (off := 30) X dX7_mostNumbers_1 (by decide) (by rw [h2]; decide) (by decide)) ?_
        refine g1 (pc' := 33) (w_bipush X (12) dX7_mostNumbers_31 (by decide)) ?_
        exact g_rI X dX7_mostNumbers_33
      · refine g1 (pc' := 34) (w_lkup (off := 33) X dX7_mostNumbers_1 (by decide) (by rw [lv_osw h1 (by decide), lv_osw h2 (by decide)]; rfl) (by decide)) ?_
        refine g1 (pc' := 35) (w_iconst X (1) dX7_mostNumbers_34 (by decide)) ?_
        exact g_rI X dX7_mostNumbers_35
  exact G _ h _ rfl
theorem k_X7_mostNumbers {x : Cxt} {cc : ByteArray} {nL : Nat} {own : String} {ret : Option FieldType} (X : Ok x cc nL own ret) {d : Nat} (hR : Rm x d KDF) (hN : Nst x) (Z : xz x = 0) {pc : Nat} {lv : List (Nat × Value)} {rest : List Value} {M : Mm} {x0 : Int32}  {idx : Nat} (hw : Cond.methodLink own idx yX7_mostNumbers ∈ tbG) (hdd : 1 + 1 ≤ d) (hrm : (rest.map fun v => v.category).sum ≤ 8) (hd : decode cc pc = .ok (.invokestatic idx, 3)) {r : Int32} (h : f_X7_mostNumbers x0 = some r) : StpZ x nL pc lv (.int x0 :: rest) KDF M (pc + 3) lv (.int r :: rest) KDF M :=
  w_callS (st := []) (As := [.int x0]) X hR hN (CtX0 Z (c_X7_mostNumbers  h)) ⟨Nat.le_refl _, Nat.le_refl _⟩ ⟨Nat.le_refl _, Nat.le_refl _⟩ hw mw_434 mw_67 mw_435 (n := 1) (by decide +kernel) rfl hdd (by decide) hrm hd
def f_X7_isFigure (x0 : Int32) : Int32 :=
  (if x0 < (48 : Int32) then (0 : Int32) else (if (57 : Int32) < x0 then (0 : Int32) else (1 : Int32)))
theorem z_X7_isFigure {x0 : Int32} : zb (f_X7_isFigure x0) := by
  unfold f_X7_isFigure
  repeat' (first | exact zb0 | exact zb1 | apply zbi)
set_option maxRecDepth 100000 in
set_option maxHeartbeats 4000000 in
theorem c_X7_isFigure {l : Launch} {D : va_G} {an : An} {b : Nat} {x0 : Int32}  {M : Mm}  : Ct l D an b 0 yX7_isFigure cX7_isFigure 1 (some .boolean) 1 [.int x0] KDF M (some (.int (f_X7_isFigure x0))) KDF M := by
  refine CtX.mk (as := fun b => [.int x0]) (rv := fun b => (some (.int (f_X7_isFigure x0)))) (by decide) (fun b => Nat.le_of_ble_eq_true rfl) ⟨Nat.le_refl _, Nat.le_refl _⟩ (fun x X hR Z hN _ _ => ?_)
  have X : Ok x cX7_isFigure 1 RX7 (some .boolean) := X
  have G : Gz x 1 0 [(0, .int x0)] [] KDF M (some (f_X7_isFigure x0)) (PsI x KDF M) := by
    unfold f_X7_isFigure
    refine g1 (pc' := 1) (w_iload_n X dX7_isFigure_0 rfl 0 rfl) ?_
    refine g1 (pc' := 3) (w_bipush X (48) dX7_isFigure_1 (by decide)) ?_
    refine g_ifS (pcT := 16) (pcF := 6) (w_icmp_lt (tgt := 16) X dX7_isFigure_3 (by decide)) (fun h1 => ?_) (fun h1 => ?_)
    · refine g1 (pc' := 17) (w_iconst X (0) dX7_isFigure_16 (by decide)) ?_
      exact g_rZ X zb0 dX7_isFigure_17
    · refine g1 (pc' := 7) (w_iload_n X dX7_isFigure_6 rfl 0 rfl) ?_
      refine g1 (pc' := 9) (w_bipush X (57) dX7_isFigure_7 (by decide)) ?_
      refine g_ifS (pcT := 16) (pcF := 12) (w_icmp_gt (tgt := 16) X dX7_isFigure_9 (by decide)) (fun h2 => ?_) (fun h2 => ?_)
      · refine g1 (pc' := 17) (w_iconst X (0) dX7_isFigure_16 (by decide)) ?_
        exact g_rZ X zb0 dX7_isFigure_17
      · refine g1 (pc' := 13) (w_iconst X (1) dX7_isFigure_12 (by decide)) ?_
        refine g1 (pc' := 17) (w_goto X dX7_isFigure_13 (by decide)) ?_
        exact g_rZ X zb1 dX7_isFigure_17
  exact G _ rfl _ rfl
theorem k_X7_isFigure {x : Cxt} {cc : ByteArray} {nL : Nat} {own : String} {ret : Option FieldType} (X : Ok x cc nL own ret) {d : Nat} (hR : Rm x d KDF) (hN : Nst x) (Z : xz x = 0) {pc : Nat} {lv : List (Nat × Value)} {rest : List Value} {M : Mm} {x0 : Int32}  {idx : Nat} (hw : Cond.methodLink own idx yX7_isFigure ∈ tbG) (hdd : 1 + 1 ≤ d) (hrm : (rest.map fun v => v.category).sum ≤ 8) (hd : decode cc pc = .ok (.invokestatic idx, 3))  : StpZ x nL pc lv (.int x0 :: rest) KDF M (pc + 3) lv (.int (f_X7_isFigure x0) :: rest) KDF M :=
  w_callS (st := []) (As := [.int x0]) X hR hN (CtX0 Z (c_X7_isFigure  )) ⟨Nat.le_refl _, Nat.le_refl _⟩ ⟨Nat.le_refl _, Nat.le_refl _⟩ hw mw_441 mw_67 mw_442 (n := 1) (by decide +kernel) rfl hdd (by decide) hrm hd
def f_X7_withinBounds (o0 : Nat) (x1 : Int32) (x2 : Int32) (M : Mm) : Option (Int32) :=
  (if x1 = (98 : Int32) then (if x2 < (1 : Int32) then some (0 : Int32) else (if (20 : Int32) < x2 then some (0 : Int32) else some (1 : Int32))) else (if x1 = (114 : Int32) then (if x2 < (1 : Int32) then some (0 : Int32) else (if (20 : Int32) < x2 then some (0 : Int32) else some (1 : Int32))) else Gd (KDF[(M o0 3).toNatClampNeg]? = some (9, 0)) ((if (f_X9_allPlaces (M o0 3).toNatClampNeg M) < x2 then some (0 : Int32) else some (1 : Int32)))))
set_option maxRecDepth 100000 in
set_option maxHeartbeats 4000000 in
theorem c_X7_withinBounds {l : Launch} {D : va_G} {an : An} {b : Nat} {o0 : Nat} {x1 : Int32} {x2 : Int32} (hk0 : KDF[o0]? = some (7, 0)) {M : Mm} {r : Int32} (h : f_X7_withinBounds o0 x1 x2 M = some r) : Ct l D an b 0 yX7_withinBounds cX7_withinBounds 3 (some .boolean) 2 [.ref (b + o0), .int x1, .int x2] KDF M (some (.int r)) KDF M := by
  refine CtX.mk (as := fun b => [.ref (b + o0), .int x1, .int x2]) (rv := fun b => (some (.int r))) (by decide) (fun b => Nat.le_of_ble_eq_true rfl) ⟨Nat.le_refl _, Nat.le_refl _⟩ (fun x X hR Z hN _ _ => ?_)
  have X : Ok x cX7_withinBounds 3 RX7 (some .boolean) := X
  have G : Gz x 3 0 [(0, .ref (xb x + o0)), (1, .int x1), (2, .int x2)] [] KDF M (f_X7_withinBounds o0 x1 x2 M) (PsI x KDF M) := by
    unfold f_X7_withinBounds
    refine g1 (pc' := 1) (w_iload_n X dX7_withinBounds_0 rfl 1 rfl) ?_
    refine g1 (pc' := 3) (w_bipush X (98) dX7_withinBounds_1 (by decide)) ?_
    refine g_if (pcT := 12) (pcF := 6) (w_icmp_eq (tgt := 12) X dX7_withinBounds_3 (by decide)) (fun h1 => ?_) (fun h1 => ?_)
    · refine g1 (pc' := 13) (w_iload_n X dX7_withinBounds_12 rfl 2 rfl) ?_
      refine g1 (pc' := 14) (w_iconst X (1) dX7_withinBounds_13 (by decide)) ?_
      refine g_if (pcT := 27) (pcF := 17) (w_icmp_lt (tgt := 27) X dX7_withinBounds_14 (by decide)) (fun h2 => ?_) (fun h2 => ?_)
      · refine g1 (pc' := 28) (w_iconst X (0) dX7_withinBounds_27 (by decide)) ?_
        exact g_rZ X zb0 dX7_withinBounds_28
      · refine g1 (pc' := 18) (w_iload_n X dX7_withinBounds_17 rfl 2 rfl) ?_
        refine g1 (pc' := 20) (w_bipush X (20) dX7_withinBounds_18 (by decide)) ?_
        refine g_if (pcT := 27) (pcF := 23) (w_icmp_gt (tgt := 27) X dX7_withinBounds_20 (by decide)) (fun h3 => ?_) (fun h3 => ?_)
        · refine g1 (pc' := 28) (w_iconst X (0) dX7_withinBounds_27 (by decide)) ?_
          exact g_rZ X zb0 dX7_withinBounds_28
        · refine g1 (pc' := 24) (w_iconst X (1) dX7_withinBounds_23 (by decide)) ?_
          refine g1 (pc' := 28) (w_goto X dX7_withinBounds_24 (by decide)) ?_
          exact g_rZ X zb1 dX7_withinBounds_28
    · refine g1 (pc' := 7) (w_iload_n X dX7_withinBounds_6 rfl 1 rfl) ?_
      refine g1 (pc' := 9) (w_bipush X (114) dX7_withinBounds_7 (by decide)) ?_
      refine g_if (pcT := 12) (pcF := 29) (w_icmp_ne (tgt := 29) X dX7_withinBounds_9 (by decide)) (fun h4 => ?_) (fun h4 => ?_)
      · refine g1 (pc' := 13) (w_iload_n X dX7_withinBounds_12 rfl 2 rfl) ?_
        refine g1 (pc' := 14) (w_iconst X (1) dX7_withinBounds_13 (by decide)) ?_
        refine g_if (pcT := 27) (pcF := 17) (w_icmp_lt (tgt := 27) X dX7_withinBounds_14 (by decide)) (fun h5 => ?_) (fun h5 => ?_)
        · refine g1 (pc' := 28) (w_iconst X (0) dX7_withinBounds_27 (by decide)) ?_
          exact g_rZ X zb0 dX7_withinBounds_28
        · refine g1 (pc' := 18) (w_iload_n X dX7_withinBounds_17 rfl 2 rfl) ?_
          refine g1 (pc' := 20) (w_bipush X (20) dX7_withinBounds_18 (by decide)) ?_
          refine g_if (pcT := 27) (pcF := 23) (w_icmp_gt (tgt := 27) X dX7_withinBounds_20 (by decide)) (fun h6 => ?_) (fun h6 => ?_)
          · refine g1 (pc' := 28) (w_iconst X (0) dX7_withinBounds_27 (by decide)) ?_
            exact g_rZ X zb0 dX7_withinBounds_28
          · refine g1 (pc' := 24) (w_iconst X (1) dX7_withinBounds_23 (by decide)) ?_
            refine g1 (pc' := 28) (w_goto X dX7_withinBounds_24 (by decide)) ?_
            exact g_rZ X zb1 dX7_withinBounds_28
      · refine g1 (pc' := 30) (w_iload_n X dX7_withinBounds_29 rfl 2 rfl) ?_
        refine g1 (pc' := 31) (w_aload_n X dX7_withinBounds_30 rfl 0 rfl) ?_
        refine g1 (pc' := 34) (gt_7_3 X hk0 mw_168 dX7_withinBounds_31) ?_
        refine g_gd (fun h7 => ?_)
        refine g1 (pc' := 37) (k_X9_allPlaces X hR hN Z h7 mw_447 (by decide) (Nat.le_of_ble_eq_true rfl) dX7_withinBounds_34) ?_
        refine g_if (pcT := 44) (pcF := 40) (w_icmp_gt (tgt := 44) X dX7_withinBounds_37 (by decide)) (fun h8 => ?_) (fun h8 => ?_)
        · refine g1 (pc' := 45) (w_iconst X (0) dX7_withinBounds_44 (by decide)) ?_
          exact g_rZ X zb0 dX7_withinBounds_45
        · refine g1 (pc' := 41) (w_iconst X (1) dX7_withinBounds_40 (by decide)) ?_
          refine g1 (pc' := 45) (w_goto X dX7_withinBounds_41 (by decide)) ?_
          exact g_rZ X zb1 dX7_withinBounds_45
  exact G _ h _ rfl
theorem k_X7_withinBounds {x : Cxt} {cc : ByteArray} {nL : Nat} {own : String} {ret : Option FieldType} (X : Ok x cc nL own ret) {d : Nat} (hR : Rm x d KDF) (hN : Nst x) (Z : xz x = 0) {pc : Nat} {lv : List (Nat × Value)} {rest : List Value} {M : Mm} {o0 : Nat} {x1 : Int32} {x2 : Int32} (hk0 : KDF[o0]? = some (7, 0)) {idx : Nat} (hw : Cond.methodLink own idx yX7_withinBounds ∈ tbG) (hdd : 2 + 1 ≤ d) (hrm : (rest.map fun v => v.category).sum ≤ 8) (hd : decode cc pc = .ok (.invokevirtual idx, 3)) {r : Int32} (h : f_X7_withinBounds o0 x1 x2 M = some r) : StpZ x nL pc lv (.int x2 :: .int x1 :: .ref (xb x + o0) :: rest) KDF M (pc + 3) lv (.int r :: rest) KDF M :=
  w_callV (st := []) (As := [.int x1, .int x2]) X hR hN (CtX0 Z (c_X7_withinBounds hk0 h)) ⟨Nat.le_refl _, Nat.le_refl _⟩ ⟨Nat.le_refl _, Nat.le_refl _⟩ hk0 (ci := 7) (fs := fs_7 o0) (fun _ _ _ => rfl) rfl hw mw_445 mw_6 mw_67 mw_446 (n := 2) (by decide +kernel) rfl hdd (by decide) hrm hd
def b_X7_readNumber_14  (s14 : Int32 × Mm) : Option ((Int32 × Mm) ⊕ (Int32 × Mm)) :=
  some (.inl (s14.1, s14.2))
def f_X7_readNumber (o0 : Nat) (x1 : Int32) (M : Mm) : Option (Int32 × Mm) :=
  Bd (f_X7_skipBlanks o0 M) (fun r1 => Lt (st2 r1 o0 5 (r1 o0 4)) (fun M2 => Bd (Lp (b_X7_readNumber_14) 100000 ((0 : Int32), M2)) (fun e3 => Lt ((e3.2 o0 4) - (e3.2 o0 5)) (fun v4 => Bd (((if v4 = 0 then Bd (f_X7_fail o0 (1 : Int32) (e3.2 o0 4) e3.2) (fun r8 => some r8) else (if (3 : Int32) < v4 then Bd (f_X7_fail o0 (2 : Int32) (e3.2 o0 5) e3.2) (fun r10 => some r10) else Bd (f_X7_withinBounds o0 x1 e3.1 e3.2) (fun r11 => (if r11 = 0 then Bd (f_X7_fail o0 (2 : Int32) (e3.2 o0 5) e3.2) (fun r13 => some r13) else some e3.2))))) : Option (Mm)) (fun j6 => some (e3.1, j6))))))
set_option maxRecDepth 100000 in
set_option maxHeartbeats 4000000 in
theorem c_X7_readNumber {l : Launch} {D : va_G} {an : An} {b : Nat} {o0 : Nat} {x1 : Int32} (hk0 : KDF[o0]? = some (7, 0)) {M : Mm} {r : Int32} {M' : Mm} (h : f_X7_readNumber o0 x1 M = some (r, M')) : Ct l D an b 0 yX7_readNumber cX7_readNumber 4 (some .int) 3 [.ref (b + o0), .int x1] KDF M (some (.int r)) KDF M' := by
  refine CtX.mk (as := fun b => [.ref (b + o0), .int x1]) (rv := fun b => (some (.int r))) (by decide) (fun b => Nat.le_of_ble_eq_true rfl) ⟨Nat.le_refl _, Nat.le_refl _⟩ (fun x X hR Z hN _ _ => ?_)
  have X : Ok x cX7_readNumber 4 RX7 (some .int) := X
  have G : Gz x 4 0 [(0, .ref (xb x + o0)), (1, .int x1)] [] KDF M (f_X7_readNumber o0 x1 M) (PsI2 x KDF) := by
    unfold f_X7_readNumber
    refine g1 (pc' := 1) (w_aload_n X dX7_readNumber_0 rfl 0 rfl) ?_
    refine g_bd (pc' := 4) (fun r1 => [(0, .ref (xb x + o0)), (1, .int x1)]) (fun r1 => []) (fun r1 => r1) (fun r1 h => k_X7_skipBlanks X hR hN Z hk0 mw_409 (by decide) (Nat.le_of_ble_eq_true rfl) dX7_readNumber_1 h) (fun r1 => ?_)
    show Gz x 4 4 [(0, .ref (xb x + o0)), (1, .int x1)] [] KDF r1 _ _
    refine g1 (pc' := 5) (w_aload_n X dX7_readNumber_4 rfl 0 rfl) ?_
    refine g1 (pc' := 6) (w_aload_n X dX7_readNumber_5 rfl 0 rfl) ?_
    refine g1 (pc' := 9) (gt_7_4 X hk0 mw_169 dX7_readNumber_6) ?_
    refine g_lt (pc' := 12) (fun M2 => [(0, .ref (xb x + o0)), (1, .int x1)]) (fun M2 => []) (fun M2 => M2) (pt_7_5 X Z hk0 mw_170 dX7_readNumber_9) (fun M2 => ?_)
    show Gz x 4 12 [(0, .ref (xb x + o0)), (1, .int x1)] [] KDF M2 _ _
    refine g1 (pc' := 13) (w_iconst X (0) dX7_readNumber_12 (by decide)) ?_
    refine g1 (pc' := 14) (lv' := [(2, .int (0 : Int32)), (0, .ref (xb x + o0)), (1, .int x1)]) (w_istore_n X dX7_readNumber_13 rfl (by decide) rfl) ?_
    refine g_pick (lv' := [(0, .ref (xb x + o0)), (1, .int x1), (2, .int (0 : Int32))]) [1, 2, 0] rfl ?_
    refine g_bdJ (J := 74) (fun e3 => [(0, .ref (xb x + o0)), (1, .int x1), (2, .int e3.1)]) (fun e3 => []) (fun e3 => e3.2) (g_lp (fun s14 => [(0, .ref (xb x + o0)), (1, .int x1), (2, .int s14.1)]) (fun s14 => s14.2) (fun s14 => ?_) 100000 ((0 : Int32), M2)) (fun e3 => ?_)
    · show Gz x 4 14 [(0, .ref (xb x + o0)), (1, .int x1), (2, .int s14.1)] [] KDF s14.2 (b_X7_readNumber_14 s14) _
      unfold b_X7_readNumber_14
      refine g_inl ?_
      exact g_end [0, 1, 2] rfl rfl rfl
    · show Gz x 4 74 [(0, .ref (xb x + o0)), (1, .int x1), (2, .int e3.1)] [] KDF e3.2 _ _
      refine g1 (pc' := 75) (w_aload_n X dX7_readNumber_74 rfl 0 rfl) ?_
      refine g1 (pc' := 78) (gt_7_4 X hk0 mw_169 dX7_readNumber_75) ?_
      refine g1 (pc' := 79) (w_aload_n X dX7_readNumber_78 rfl 0 rfl) ?_
      refine g1 (pc' := 82) (gt_7_5 X hk0 mw_170 dX7_readNumber_79) ?_
      refine g1 (pc' := 83) (w_isub X dX7_readNumber_82) ?_
      refine g_lt (pc' := 84) (fun v4 => [(3, .int v4), (0, .ref (xb x + o0)), (1, .int x1), (2, .int e3.1)]) (fun v4 => []) (fun v4 => e3.2) (w_istore_n X dX7_readNumber_83 rfl (by decide) rfl) (fun v4 => ?_)
      show Gz x 4 84 [(3, .int v4), (0, .ref (xb x + o0)), (1, .int x1), (2, .int e3.1)] [] KDF e3.2 _ _
      refine g1 (pc' := 85) (w_iload_n X dX7_readNumber_84 rfl 0 rfl) ?_
      refine g_bdJ (J := 123) (fun j6 => [(2, .int e3.1)]) (fun j6 => []) (fun j6 => j6) ?_ (fun j6 => ?_)
      · refine g_if (pcT := 88) (pcF := 100) (w_if_ne (tgt := 100) X dX7_readNumber_85 (by decide)) (fun h7 => ?_) (fun h7 => ?_)
        · refine g1 (pc' := 89) (w_aload_n X dX7_readNumber_88 rfl 1 rfl) ?_
          refine g1 (pc' := 90) (w_iconst X (1) dX7_readNumber_89 (by decide)) ?_
          refine g1 (pc' := 91) (w_aload_n X dX7_readNumber_90 rfl 1 rfl) ?_
          refine g1 (pc' := 94) (gt_7_4 X hk0 mw_169 dX7_readNumber_91) ?_
          refine g_bd (pc' := 97) (fun r8 => [(3, .int v4), (0, .ref (xb x + o0)), (1, .int x1), (2, .int e3.1)]) (fun r8 => []) (fun r8 => r8) (fun r8 h => k_X7_fail X hR hN Z hk0 mw_429 (by decide) (Nat.le_of_ble_eq_true rfl) dX7_readNumber_94 h) (fun r8 => ?_)
          show Gz x 4 97 [(3, .int v4), (0, .ref (xb x + o0)), (1, .int x1), (2, .int e3.1)] [] KDF r8 _ _
          refine g1 (pc' := 123) (w_goto X dX7_readNumber_97 (by decide)) ?_
          exact g_end [3] rfl rfl rfl
        · refine g1 (pc' := 101) (w_iload_n X dX7_readNumber_100 rfl 0 rfl) ?_
          refine g1 (pc' := 102) (w_iconst X (3) dX7_readNumber_101 (by decide)) ?_
          refine g_if (pcT := 114) (pcF := 105) (w_icmp_gt (tgt := 114) X dX7_readNumber_102 (by decide)) (fun h9 => ?_) (fun h9 => ?_)
          · refine g1 (pc' := 115) (w_aload_n X dX7_readNumber_114 rfl 1 rfl) ?_
            refine g1 (pc' := 116) (w_iconst X (2) dX7_readNumber_115 (by decide)) ?_
            refine g1 (pc' := 117) (w_aload_n X dX7_readNumber_116 rfl 1 rfl) ?_
            refine g1 (pc' := 120) (gt_7_5 X hk0 mw_170 dX7_readNumber_117) ?_
            refine g_bd (pc' := 123) (fun r10 => [(3, .int v4), (0, .ref (xb x + o0)), (1, .int x1), (2, .int e3.1)]) (fun r10 => []) (fun r10 => r10) (fun r10 h => k_X7_fail X hR hN Z hk0 mw_429 (by decide) (Nat.le_of_ble_eq_true rfl) dX7_readNumber_120 h) (fun r10 => ?_)
            show Gz x 4 123 [(3, .int v4), (0, .ref (xb x + o0)), (1, .int x1), (2, .int e3.1)] [] KDF r10 _ _
            exact g_end [3] rfl rfl rfl
          · refine g1 (pc' := 106) (w_aload_n X dX7_readNumber_105 rfl 1 rfl) ?_
            refine g1 (pc' := 107) (w_iload_n X dX7_readNumber_106 rfl 2 rfl) ?_
            refine g1 (pc' := 108) (w_iload_n X dX7_readNumber_107 rfl 3 rfl) ?_
            refine g_bd (pc' := 111) (fun r11 => [(3, .int v4), (0, .ref (xb x + o0)), (1, .int x1), (2, .int e3.1)]) (fun r11 => [.int r11]) (fun r11 => e3.2) (fun r11 h => k_X7_withinBounds X hR hN Z hk0 mw_443 (by decide) (Nat.le_of_ble_eq_true rfl) dX7_readNumber_108 h) (fun r11 => ?_)
            show Gz x 4 111 [(3, .int v4), (0, .ref (xb x + o0)), (1, .int x1), (2, .int e3.1)] [.int r11] KDF e3.2 _ _
            refine g_if (pcT := 114) (pcF := 123) (w_if_ne (tgt := 123) X dX7_readNumber_111 (by decide)) (fun h12 => ?_) (fun h12 => ?_)
            · refine g1 (pc' := 115) (w_aload_n X dX7_readNumber_114 rfl 1 rfl) ?_
              refine g1 (pc' := 116) (w_iconst X (2) dX7_readNumber_115 (by decide)) ?_
              refine g1 (pc' := 117) (w_aload_n X dX7_readNumber_116 rfl 1 rfl) ?_
              refine g1 (pc' := 120) (gt_7_5 X hk0 mw_170 dX7_readNumber_117) ?_
              refine g_bd (pc' := 123) (fun r13 => [(3, .int v4), (0, .ref (xb x + o0)), (1, .int x1), (2, .int e3.1)]) (fun r13 => []) (fun r13 => r13) (fun r13 h => k_X7_fail X hR hN Z hk0 mw_429 (by decide) (Nat.le_of_ble_eq_true rfl) dX7_readNumber_120 h) (fun r13 => ?_)
              show Gz x 4 123 [(3, .int v4), (0, .ref (xb x + o0)), (1, .int x1), (2, .int e3.1)] [] KDF r13 _ _
              exact g_end [3] rfl rfl rfl
            · exact g_end [3] rfl rfl rfl
      · show Gz x 4 123 [(2, .int e3.1)] [] KDF j6 _ _
        refine g1 (pc' := 124) (w_iload_n X dX7_readNumber_123 rfl 0 rfl) ?_
        exact g_rI2 X dX7_readNumber_124
  exact G _ h _ rfl
theorem k_X7_readNumber {x : Cxt} {cc : ByteArray} {nL : Nat} {own : String} {ret : Option FieldType} (X : Ok x cc nL own ret) {d : Nat} (hR : Rm x d KDF) (hN : Nst x) (Z : xz x = 0) {pc : Nat} {lv : List (Nat × Value)} {rest : List Value} {M : Mm} {o0 : Nat} {x1 : Int32} (hk0 : KDF[o0]? = some (7, 0)) {idx : Nat} (hw : Cond.methodLink own idx yX7_readNumber ∈ tbG) (hdd : 3 + 1 ≤ d) (hrm : (rest.map fun v => v.category).sum ≤ 8) (hd : decode cc pc = .ok (.invokevirtual idx, 3)) {r : Int32} {M' : Mm} (h : f_X7_readNumber o0 x1 M = some (r, M')) : StpZ x nL pc lv (.int x1 :: .ref (xb x + o0) :: rest) KDF M (pc + 3) lv (.int r :: rest) KDF M' :=
  w_callV (st := []) (As := [.int x1]) X hR hN (CtX0 Z (c_X7_readNumber hk0 h)) ⟨Nat.le_refl _, Nat.le_refl _⟩ ⟨Nat.le_refl _, Nat.le_refl _⟩ hk0 (ci := 7) (fs := fs_7 o0) (fun _ _ _ => rfl) rfl hw mw_438 mw_5 mw_67 mw_439 (n := 1) (by decide +kernel) rfl hdd (by decide) hrm hd
def f_X9_addBell (o0 : Nat) (x1 : Int32) (M : Mm) : Option (Mm) :=
  (if (6 : Int32) ≤ (M o0 0) then some M else Lt (st2 M o0 0 ((M o0 0) + (1 : Int32))) (fun M2 => Gd (ib (M o0 0) 6) (Lt (st2 M2 (o0 + 3) (ix (M o0 0)) x1) (fun M4 => some M4))))
set_option maxRecDepth 100000 in
set_option maxHeartbeats 4000000 in
theorem c_X9_addBell {l : Launch} {D : va_G} {an : An} {b : Nat} {o0 : Nat} {x1 : Int32} (hk0 : KDF[o0]? = some (9, 0)) {M : Mm} {M' : Mm} (h : f_X9_addBell o0 x1 M = some M') : Ct l D an b 0 yX9_addBell cX9_addBell 2 none 1 [.ref (b + o0), .int x1] KDF M none KDF M' := by
  refine CtX.mk (as := fun b => [.ref (b + o0), .int x1]) (rv := fun b => none) (by decide) (fun b => Nat.le_of_ble_eq_true rfl) ⟨Nat.le_refl _, Nat.le_refl _⟩ (fun x X hR Z hN _ _ => ?_)
  have X : Ok x cX9_addBell 2 RX9 none := X
  have G : Gz x 2 0 [(0, .ref (xb x + o0)), (1, .int x1)] [] KDF M (f_X9_addBell o0 x1 M) (PsM x KDF) := by
    unfold f_X9_addBell
    refine g1 (pc' := 1) (w_aload_n X dX9_addBell_0 rfl 0 rfl) ?_
    refine g1 (pc' := 4) (gt_9_0 X hk0 mw_113 dX9_addBell_1) ?_
    refine g1 (pc' := 6) (w_bipush X (6) dX9_addBell_4 (by decide)) ?_
    refine g_if (pcT := 26) (pcF := 9) (w_icmp_ge (tgt := 26) X dX9_addBell_6 (by decide)) (fun h1 => ?_) (fun h1 => ?_)
    · exact g_rM X dX9_addBell_26
    · refine g1 (pc' := 10) (w_aload_n X dX9_addBell_9 rfl 0 rfl) ?_
      refine g1 (pc' := 13) (gt_9_6 X hk0 mw_137 dX9_addBell_10) ?_
      refine g1 (pc' := 14) (w_aload_n X dX9_addBell_13 rfl 0 rfl) ?_
      refine g1 (pc' := 15) (w_dup X dX9_addBell_14 rfl) ?_
      refine g1 (pc' := 18) (gt_9_0 X hk0 mw_113 dX9_addBell_15) ?_
      refine g1 (pc' := 19) (w_dup_x1 X dX9_addBell_18 rfl rfl) ?_
      refine g1 (pc' := 20) (w_iconst X (1) dX9_addBell_19 (by decide)) ?_
      refine g1 (pc' := 21) (w_iadd X dX9_addBell_20) ?_
      refine g_lt (pc' := 24) (fun M2 => [(0, .ref (xb x + o0)), (1, .int x1)]) (fun M2 => [.int (M o0 0), .ref (xb x + (o0 + 3))]) (fun M2 => M2) (pt_9_0 X Z hk0 mw_113 dX9_addBell_21) (fun M2 => ?_)
      show Gz x 2 24 [(0, .ref (xb x + o0)), (1, .int x1)] [.int (M o0 0), .ref (xb x + (o0 + 3))] KDF M2 _ _
      refine g1 (pc' := 25) (w_iload_n X dX9_addBell_24 rfl 1 rfl) ?_
      refine g_gd (fun h3 => ?_)
      refine g_lt (pc' := 26) (fun M4 => [(0, .ref (xb x + o0)), (1, .int x1)]) (fun M4 => []) (fun M4 => M4) (w_iast X Z (kd_To3 hk0) h3 dX9_addBell_25) (fun M4 => ?_)
      show Gz x 2 26 [(0, .ref (xb x + o0)), (1, .int x1)] [] KDF M4 _ _
      exact g_rM X dX9_addBell_26
  exact G _ h _ rfl
theorem k_X9_addBell {x : Cxt} {cc : ByteArray} {nL : Nat} {own : String} {ret : Option FieldType} (X : Ok x cc nL own ret) {d : Nat} (hR : Rm x d KDF) (hN : Nst x) (Z : xz x = 0) {pc : Nat} {lv : List (Nat × Value)} {rest : List Value} {M : Mm} {o0 : Nat} {x1 : Int32} (hk0 : KDF[o0]? = some (9, 0)) {idx : Nat} (hw : Cond.methodLink own idx yX9_addBell ∈ tbG) (hdd : 1 + 1 ≤ d) (hrm : (rest.map fun v => v.category).sum ≤ 8) (hd : decode cc pc = .ok (.invokevirtual idx, 3)) {M' : Mm} (h : f_X9_addBell o0 x1 M = some M') : StpZ x nL pc lv (.int x1 :: .ref (xb x + o0) :: rest) KDF M (pc + 3) lv (rest) KDF M' :=
  w_callV (st := []) (As := [.int x1]) X hR hN (CtX0 Z (c_X9_addBell hk0 h)) ⟨Nat.le_refl _, Nat.le_refl _⟩ ⟨Nat.le_refl _, Nat.le_refl _⟩ hk0 (ci := 9) (fs := fs_9 o0) (fun _ _ _ => rfl) rfl hw mw_456 mw_457 mw_65 mw_458 (n := 1) (by decide +kernel) rfl hdd (by decide) hrm hd
def f_X9_addSuitor (o0 : Nat) (x1 : Int32) (M : Mm) : Option (Mm) :=
  (if (6 : Int32) ≤ (M o0 2) then some M else Lt (st2 M o0 2 ((M o0 2) + (1 : Int32))) (fun M2 => Gd (ib (M o0 2) 6) (Lt (st2 M2 (o0 + 4) (ix (M o0 2)) x1) (fun M4 => some M4))))
set_option maxRecDepth 100000 in
set_option maxHeartbeats 4000000 in
theorem c_X9_addSuitor {l : Launch} {D : va_G} {an : An} {b : Nat} {o0 : Nat} {x1 : Int32} (hk0 : KDF[o0]? = some (9, 0)) {M : Mm} {M' : Mm} (h : f_X9_addSuitor o0 x1 M = some M') : Ct l D an b 0 yX9_addSuitor cX9_addSuitor 2 none 1 [.ref (b + o0), .int x1] KDF M none KDF M' := by
  refine CtX.mk (as := fun b => [.ref (b + o0), .int x1]) (rv := fun b => none) (by decide) (fun b => Nat.le_of_ble_eq_true rfl) ⟨Nat.le_refl _, Nat.le_refl _⟩ (fun x X hR Z hN _ _ => ?_)
  have X : Ok x cX9_addSuitor 2 RX9 none := X
  have G : Gz x 2 0 [(0, .ref (xb x + o0)), (1, .int x1)] [] KDF M (f_X9_addSuitor o0 x1 M) (PsM x KDF) := by
    unfold f_X9_addSuitor
    refine g1 (pc' := 1) (w_aload_n X dX9_addSuitor_0 rfl 0 rfl) ?_
    refine g1 (pc' := 4) (gt_9_2 X hk0 mw_125 dX9_addSuitor_1) ?_
    refine g1 (pc' := 6) (w_bipush X (6) dX9_addSuitor_4 (by decide)) ?_
    refine g_if (pcT := 26) (pcF := 9) (w_icmp_ge (tgt := 26) X dX9_addSuitor_6 (by decide)) (fun h1 => ?_) (fun h1 => ?_)
    · exact g_rM X dX9_addSuitor_26
    · refine g1 (pc' := 10) (w_aload_n X dX9_addSuitor_9 rfl 0 rfl) ?_
      refine g1 (pc' := 13) (gt_9_7 X hk0 mw_138 dX9_addSuitor_10) ?_
      refine g1 (pc' := 14) (w_aload_n X dX9_addSuitor_13 rfl 0 rfl) ?_
      refine g1 (pc' := 15) (w_dup X dX9_addSuitor_14 rfl) ?_
      refine g1 (pc' := 18) (gt_9_2 X hk0 mw_125 dX9_addSuitor_15) ?_
      refine g1 (pc' := 19) (w_dup_x1 X dX9_addSuitor_18 rfl rfl) ?_
      refine g1 (pc' := 20) (w_iconst X (1) dX9_addSuitor_19 (by decide)) ?_
      refine g1 (pc' := 21) (w_iadd X dX9_addSuitor_20) ?_
      refine g_lt (pc' := 24) (fun M2 => [(0, .ref (xb x + o0)), (1, .int x1)]) (fun M2 => [.int (M o0 2), .ref (xb x + (o0 + 4))]) (fun M2 => M2) (pt_9_2 X Z hk0 mw_125 dX9_addSuitor_21) (fun M2 => ?_)
      show Gz x 2 24 [(0, .ref (xb x + o0)), (1, .int x1)] [.int (M o0 2), .ref (xb x + (o0 + 4))] KDF M2 _ _
      refine g1 (pc' := 25) (w_iload_n X dX9_addSuitor_24 rfl 1 rfl) ?_
      refine g_gd (fun h3 => ?_)
      refine g_lt (pc' := 26) (fun M4 => [(0, .ref (xb x + o0)), (1, .int x1)]) (fun M4 => []) (fun M4 => M4) (w_iast X Z (kd_To4 hk0) h3 dX9_addSuitor_25) (fun M4 => ?_)
      show Gz x 2 26 [(0, .ref (xb x + o0)), (1, .int x1)] [] KDF M4 _ _
      exact g_rM X dX9_addSuitor_26
  exact G _ h _ rfl
theorem k_X9_addSuitor {x : Cxt} {cc : ByteArray} {nL : Nat} {own : String} {ret : Option FieldType} (X : Ok x cc nL own ret) {d : Nat} (hR : Rm x d KDF) (hN : Nst x) (Z : xz x = 0) {pc : Nat} {lv : List (Nat × Value)} {rest : List Value} {M : Mm} {o0 : Nat} {x1 : Int32} (hk0 : KDF[o0]? = some (9, 0)) {idx : Nat} (hw : Cond.methodLink own idx yX9_addSuitor ∈ tbG) (hdd : 1 + 1 ≤ d) (hrm : (rest.map fun v => v.category).sum ≤ 8) (hd : decode cc pc = .ok (.invokevirtual idx, 3)) {M' : Mm} (h : f_X9_addSuitor o0 x1 M = some M') : StpZ x nL pc lv (.int x1 :: .ref (xb x + o0) :: rest) KDF M (pc + 3) lv (rest) KDF M' :=
  w_callV (st := []) (As := [.int x1]) X hR hN (CtX0 Z (c_X9_addSuitor hk0 h)) ⟨Nat.le_refl _, Nat.le_refl _⟩ ⟨Nat.le_refl _, Nat.le_refl _⟩ hk0 (ci := 9) (fs := fs_9 o0) (fun _ _ _ => rfl) rfl hw mw_460 mw_461 mw_65 mw_462 (n := 1) (by decide +kernel) rfl hdd (by decide) hrm hd
def f_X9_addChange (o0 : Nat) (x1 : Int32) (M : Mm) : Option (Int32 × Mm) :=
  (if (12 : Int32) ≤ (M o0 1) then some ((0 : Int32), M) else Gd (ib (M o0 1) 12) (Gd (KDF[((o0 + 2) + 3 + ix (M o0 1))]? = some (0, 0)) (Bd (f_X0_become ((o0 + 2) + 3 + ix (M o0 1)) x1 (M o0 0) M) (fun r4 => (if r4.1 = 0 then some ((0 : Int32), r4.2) else Lt (st2 r4.2 o0 1 ((r4.2 o0 1) + (1 : Int32))) (fun M6 => some ((1 : Int32), M6)))))))
set_option maxRecDepth 100000 in
set_option maxHeartbeats 4000000 in
theorem c_X9_addChange {l : Launch} {D : va_G} {an : An} {b : Nat} {o0 : Nat} {x1 : Int32} (hk0 : KDF[o0]? = some (9, 0)) {M : Mm} {r : Int32} {M' : Mm} (h : f_X9_addChange o0 x1 M = some (r, M')) : Ct l D an b 0 yX9_addChange cX9_addChange 2 (some .boolean) 3 [.ref (b + o0), .int x1] KDF M (some (.int r)) KDF M' := by
  refine CtX.mk (as := fun b => [.ref (b + o0), .int x1]) (rv := fun b => (some (.int r))) (by decide) (fun b => Nat.le_of_ble_eq_true rfl) ⟨Nat.le_refl _, Nat.le_refl _⟩ (fun x X hR Z hN _ _ => ?_)
  have X : Ok x cX9_addChange 2 RX9 (some .boolean) := X
  have G : Gz x 2 0 [(0, .ref (xb x + o0)), (1, .int x1)] [] KDF M (f_X9_addChange o0 x1 M) (PsI2 x KDF) := by
    unfold f_X9_addChange
    refine g1 (pc' := 1) (w_aload_n X dX9_addChange_0 rfl 0 rfl) ?_
    refine g1 (pc' := 4) (gt_9_1 X hk0 mw_120 dX9_addChange_1) ?_
    refine g1 (pc' := 6) (w_bipush X (12) dX9_addChange_4 (by decide)) ?_
    refine g_if (pcT := 29) (pcF := 9) (w_icmp_ge (tgt := 29) X dX9_addChange_6 (by decide)) (fun h1 => ?_) (fun h1 => ?_)
    · refine g1 (pc' := 30) (w_iconst X (0) dX9_addChange_29 (by decide)) ?_
      exact g_rZ2 X zb0 dX9_addChange_30
    · refine g1 (pc' := 10) (w_aload_n X dX9_addChange_9 rfl 0 rfl) ?_
      refine g1 (pc' := 13) (gt_9_5 X hk0 mw_136 dX9_addChange_10) ?_
      refine g1 (pc' := 14) (w_aload_n X dX9_addChange_13 rfl 0 rfl) ?_
      refine g1 (pc' := 17) (gt_9_1 X hk0 mw_120 dX9_addChange_14) ?_
      refine g_gd (fun h2 => ?_)
      refine g1 (pc' := 18) (w_aald15 X (kd_To2 hk0) h2 dX9_addChange_17) ?_
      refine g_gd (fun h3 => ?_)
      refine g1 (pc' := 19) (w_iload_n X dX9_addChange_18 rfl 1 rfl) ?_
      refine g1 (pc' := 20) (w_aload_n X dX9_addChange_19 rfl 0 rfl) ?_
      refine g1 (pc' := 23) (gt_9_0 X hk0 mw_113 dX9_addChange_20) ?_
      refine g_bd (pc' := 26) (fun r4 => [(0, .ref (xb x + o0)), (1, .int x1)]) (fun r4 => [.int r4.1]) (fun r4 => r4.2) (fun r4 h => k_X0_become X hR hN Z h3 mw_467 (by decide) (Nat.le_of_ble_eq_true rfl) dX9_addChange_23 h) (fun r4 => ?_)
      show Gz x 2 26 [(0, .ref (xb x + o0)), (1, .int x1)] [.int r4.1] KDF r4.2 _ _
      refine g_if (pcT := 29) (pcF := 31) (w_if_ne (tgt := 31) X dX9_addChange_26 (by decide)) (fun h5 => ?_) (fun h5 => ?_)
      · refine g1 (pc' := 30) (w_iconst X (0) dX9_addChange_29 (by decide)) ?_
        exact g_rZ2 X zb0 dX9_addChange_30
      · refine g1 (pc' := 32) (w_aload_n X dX9_addChange_31 rfl 0 rfl) ?_
        refine g1 (pc' := 33) (w_dup X dX9_addChange_32 rfl) ?_
        refine g1 (pc' := 36) (gt_9_1 X hk0 mw_120 dX9_addChange_33) ?_
        refine g1 (pc' := 37) (w_iconst X (1) dX9_addChange_36 (by decide)) ?_
        refine g1 (pc' := 38) (w_iadd X dX9_addChange_37) ?_
        refine g_lt (pc' := 41) (fun M6 => [(0, .ref (xb x + o0)), (1, .int x1)]) (fun M6 => []) (fun M6 => M6) (pt_9_1 X Z hk0 mw_120 dX9_addChange_38) (fun M6 => ?_)
        show Gz x 2 41 [(0, .ref (xb x + o0)), (1, .int x1)] [] KDF M6 _ _
        refine g1 (pc' := 42) (w_iconst X (1) dX9_addChange_41 (by decide)) ?_
        exact g_rZ2 X zb1 dX9_addChange_42
  exact G _ h _ rfl
theorem k_X9_addChange {x : Cxt} {cc : ByteArray} {nL : Nat} {own : String} {ret : Option FieldType} (X : Ok x cc nL own ret) {d : Nat} (hR : Rm x d KDF) (hN : Nst x) (Z : xz x = 0) {pc : Nat} {lv : List (Nat × Value)} {rest : List Value} {M : Mm} {o0 : Nat} {x1 : Int32} (hk0 : KDF[o0]? = some (9, 0)) {idx : Nat} (hw : Cond.methodLink own idx yX9_addChange ∈ tbG) (hdd : 3 + 1 ≤ d) (hrm : (rest.map fun v => v.category).sum ≤ 8) (hd : decode cc pc = .ok (.invokevirtual idx, 3)) {r : Int32} {M' : Mm} (h : f_X9_addChange o0 x1 M = some (r, M')) : StpZ x nL pc lv (.int x1 :: .ref (xb x + o0) :: rest) KDF M (pc + 3) lv (.int r :: rest) KDF M' :=
  w_callV (st := []) (As := [.int x1]) X hR hN (CtX0 Z (c_X9_addChange hk0 h)) ⟨Nat.le_refl _, Nat.le_refl _⟩ ⟨Nat.le_refl _, Nat.le_refl _⟩ hk0 (ci := 9) (fs := fs_9 o0) (fun _ _ _ => rfl) rfl hw mw_464 mw_465 mw_65 mw_466 (n := 1) (by decide +kernel) rfl hdd (by decide) hrm hd
def f_X9_tellCall (o0 : Nat) (x1 : Int32) (M : Mm) : Option (Int32 × Mm) :=
  Lt (st2 M o0 3 (1 : Int32)) (fun M1 => Bd (f_X0_become (o0 + 1) x1 (M1 o0 0) M1) (fun r2 => Gd (zb r2.1) (some (r2.1, r2.2))))
set_option maxRecDepth 100000 in
set_option maxHeartbeats 4000000 in
theorem c_X9_tellCall {l : Launch} {D : va_G} {an : An} {b : Nat} {o0 : Nat} {x1 : Int32} (hk0 : KDF[o0]? = some (9, 0)) {M : Mm} {r : Int32} {M' : Mm} (h : f_X9_tellCall o0 x1 M = some (r, M')) : Ct l D an b 0 yX9_tellCall cX9_tellCall 2 (some .boolean) 3 [.ref (b + o0), .int x1] KDF M (some (.int r)) KDF M' := by
  refine CtX.mk (as := fun b => [.ref (b + o0), .int x1]) (rv := fun b => (some (.int r))) (by decide) (fun b => Nat.le_of_ble_eq_true rfl) ⟨Nat.le_refl _, Nat.le_refl _⟩ (fun x X hR Z hN _ _ => ?_)
  have X : Ok x cX9_tellCall 2 RX9 (some .boolean) := X
  have G : Gz x 2 0 [(0, .ref (xb x + o0)), (1, .int x1)] [] KDF M (f_X9_tellCall o0 x1 M) (PsI2 x KDF) := by
    unfold f_X9_tellCall
    refine g1 (pc' := 1) (w_aload_n X dX9_tellCall_0 rfl 0 rfl) ?_
    refine g1 (pc' := 2) (w_iconst X (1) dX9_tellCall_1 (by decide)) ?_
    refine g_lt (pc' := 5) (fun M1 => [(0, .ref (xb x + o0)), (1, .int x1)]) (fun M1 => []) (fun M1 => M1) (pt_9_3 X Z hk0 zb1 mw_130 dX9_tellCall_2) (fun M1 => ?_)
    show Gz x 2 5 [(0, .ref (xb x + o0)), (1, .int x1)] [] KDF M1 _ _
    refine g1 (pc' := 6) (w_aload_n X dX9_tellCall_5 rfl 0 rfl) ?_
    refine g1 (pc' := 9) (gt_9_4 X hk0 mw_132 dX9_tellCall_6) ?_
    refine g1 (pc' := 10) (w_iload_n X dX9_tellCall_9 rfl 1 rfl) ?_
    refine g1 (pc' := 11) (w_aload_n X dX9_tellCall_10 rfl 0 rfl) ?_
    refine g1 (pc' := 14) (gt_9_0 X hk0 mw_113 dX9_tellCall_11) ?_
    refine g_bd (pc' := 17) (fun r2 => [(0, .ref (xb x + o0)), (1, .int x1)]) (fun r2 => [.int r2.1]) (fun r2 => r2.2) (fun r2 h => k_X0_become X hR hN Z (kd_To1 hk0) mw_467 (by decide) (Nat.le_of_ble_eq_true rfl) dX9_tellCall_14 h) (fun r2 => ?_)
    show Gz x 2 17 [(0, .ref (xb x + o0)), (1, .int x1)] [.int r2.1] KDF r2.2 _ _
    refine g_gd (fun h3 => ?_)
    exact g_rZ2 X h3 dX9_tellCall_17
  exact G _ h _ rfl
theorem k_X9_tellCall {x : Cxt} {cc : ByteArray} {nL : Nat} {own : String} {ret : Option FieldType} (X : Ok x cc nL own ret) {d : Nat} (hR : Rm x d KDF) (hN : Nst x) (Z : xz x = 0) {pc : Nat} {lv : List (Nat × Value)} {rest : List Value} {M : Mm} {o0 : Nat} {x1 : Int32} (hk0 : KDF[o0]? = some (9, 0)) {idx : Nat} (hw : Cond.methodLink own idx yX9_tellCall ∈ tbG) (hdd : 3 + 1 ≤ d) (hrm : (rest.map fun v => v.category).sum ≤ 8) (hd : decode cc pc = .ok (.invokevirtual idx, 3)) {r : Int32} {M' : Mm} (h : f_X9_tellCall o0 x1 M = some (r, M')) : StpZ x nL pc lv (.int x1 :: .ref (xb x + o0) :: rest) KDF M (pc + 3) lv (.int r :: rest) KDF M' :=
  w_callV (st := []) (As := [.int x1]) X hR hN (CtX0 Z (c_X9_tellCall hk0 h)) ⟨Nat.le_refl _, Nat.le_refl _⟩ ⟨Nat.le_refl _, Nat.le_refl _⟩ hk0 (ci := 9) (fs := fs_9 o0) (fun _ _ _ => rfl) rfl hw mw_475 mw_476 mw_65 mw_477 (n := 1) (by decide +kernel) rfl hdd (by decide) hrm hd
def f_X7_enter (o0 : Nat) (x1 : Int32) (x2 : Int32) (M : Mm) : Option (Int32 × Mm) :=
  (if x1 = (98 : Int32) then Gd (KDF[(M o0 3).toNatClampNeg]? = some (9, 0)) (Bd (f_X9_addBell (M o0 3).toNatClampNeg x2 M) (fun r3 => some ((1 : Int32), r3))) else (if x1 = (109 : Int32) then Gd (KDF[(M o0 3).toNatClampNeg]? = some (9, 0)) (Bd (f_X9_addChange (M o0 3).toNatClampNeg x2 M) (fun r6 => Gd (zb r6.1) (some (r6.1, r6.2)))) else (if x1 = (114 : Int32) then Gd (KDF[(M o0 3).toNatClampNeg]? = some (9, 0)) (Bd (f_X9_addSuitor (M o0 3).toNatClampNeg x2 M) (fun r10 => some ((1 : Int32), r10))) else Gd (KDF[(M o0 3).toNatClampNeg]? = some (9, 0)) (Bd (f_X9_tellCall (M o0 3).toNatClampNeg x2 M) (fun r12 => Gd (zb r12.1) (some (r12.1, r12.2)))))))
set_option maxRecDepth 100000 in
set_option maxHeartbeats 4000000 in
theorem c_X7_enter {l : Launch} {D : va_G} {an : An} {b : Nat} {o0 : Nat} {x1 : Int32} {x2 : Int32} (hk0 : KDF[o0]? = some (7, 0)) {M : Mm} {r : Int32} {M' : Mm} (h : f_X7_enter o0 x1 x2 M = some (r, M')) : Ct l D an b 0 yX7_enter cX7_enter 3 (some .boolean) 4 [.ref (b + o0), .int x1, .int x2] KDF M (some (.int r)) KDF M' := by
  refine CtX.mk (as := fun b => [.ref (b + o0), .int x1, .int x2]) (rv := fun b => (some (.int r))) (by decide) (fun b => Nat.le_of_ble_eq_true rfl) ⟨Nat.le_refl _, Nat.le_refl _⟩ (fun x X hR Z hN _ _ => ?_)
  have X : Ok x cX7_enter 3 RX7 (some .boolean) := X
  have G : Gz x 3 0 [(0, .ref (xb x + o0)), (1, .int x1), (2, .int x2)] [] KDF M (f_X7_enter o0 x1 x2 M) (PsI2 x KDF) := by
    unfold f_X7_enter
    refine g1 (pc' := 1) (w_iload_n X dX7_enter_0 rfl 1 rfl) ?_
    refine g_by (fun h1 => ?_) (fun h1 => ?_)
    · refine g1 (pc' := 36) (w_lkup (off := 35) X dX7_enter_1 (by decide) (by rw [h1]; decide) (by decide)) ?_
      refine g1 (pc' := 37) (w_aload_n X dX7_enter_36 rfl 0 rfl) ?_
      refine g1 (pc' := 40) (gt_7_3 X hk0 mw_168 dX7_enter_37) ?_
      refine g_gd (fun h2 => ?_)
      refine g1 (pc' := 41) (w_iload_n X dX7_enter_40 rfl 2 rfl) ?_
      refine g_bd (pc' := 44) (fun r3 => [(0, .ref (xb x + o0)), (1, .int x1), (2, .int x2)]) (fun r3 => []) (fun r3 => r3) (fun r3 h => k_X9_addBell X hR hN Z h2 mw_455 (by decide) (Nat.le_of_ble_eq_true rfl) dX7_enter_41 h) (fun r3 => ?_)
      show Gz x 3 44 [(0, .ref (xb x + o0)), (1, .int x1), (2, .int x2)] [] KDF r3 _ _
      refine g1 (pc' := 45) (w_iconst X (1) dX7_enter_44 (by decide)) ?_
      exact g_rZ2 X zb1 dX7_enter_45
    · refine g_by (fun h4 => ?_) (fun h4 => ?_)
      · refine g1 (pc' := 56) (w_lkup (off := 55) X dX7_enter_1 (by decide) (by rw [h4]; decide) (by decide)) ?_
        refine g1 (pc' := 57) (w_aload_n X dX7_enter_56 rfl 0 rfl) ?_
        refine g1 (pc' := 60) (gt_7_3 X hk0 mw_168 dX7_enter_57) ?_
        refine g_gd (fun h5 => ?_)
        refine g1 (pc' := 61) (w_iload_n X dX7_enter_60 rfl 2 rfl) ?_
        refine g_bd (pc' := 64) (fun r6 => [(0, .ref (xb x + o0)), (1, .int x1), (2, .int x2)]) (fun r6 => [.int r6.1]) (fun r6 => r6.2) (fun r6 h => k_X9_addChange X hR hN Z h5 mw_463 (by decide) (Nat.le_of_ble_eq_true rfl) dX7_enter_61 h) (fun r6 => ?_)
        show Gz x 3 64 [(0, .ref (xb x + o0)), (1, .int x1), (2, .int x2)] [.int r6.1] KDF r6.2 _ _
        refine g_gd (fun h7 => ?_)
        exact g_rZ2 X h7 dX7_enter_64
      · refine g_by (fun h8 => ?_) (fun h8 => ?_)
        · refine g1 (pc' := 46) (w_lkup (off := 45) X dX7_enter_1 (by decide) (by rw [h8]; decide) (by decide)) ?_
          refine g1 (pc' := 47) (w_aload_n X dX7_enter_46 rfl 0 rfl) ?_
          refine g1 (pc' := 50) (gt_7_3 X hk0 mw_168 dX7_enter_47) ?_
          refine g_gd (fun h9 => ?_)
          refine g1 (pc' := 51) (w_iload_n X dX7_enter_50 rfl 2 rfl) ?_
          refine g_bd (pc' := 54) (fun r10 => [(0, .ref (xb x + o0)), (1, .int x1), (2, .int x2)]) (fun r10 => []) (fun r10 => r10) (fun r10 h => k_X9_addSuitor X hR hN Z h9 mw_459 (by decide) (Nat.le_of_ble_eq_true rfl) dX7_enter_51 h) (fun r10 => ?_)
          show Gz x 3 54 [(0, .ref (xb x + o0)), (1, .int x1), (2, .int x2)] [] KDF r10 _ _
          refine g1 (pc' := 55) (w_iconst X (1) dX7_enter_54 (by decide)) ?_
          exact g_rZ2 X zb1 dX7_enter_55
        · refine g1 (pc' := 65) (w_lkup (off := 64) X dX7_enter_1 (by decide) (by rw [lv_osw h1 (by decide), lv_osw h4 (by decide), lv_osw h8 (by decide)]; rfl) (by decide)) ?_
          refine g1 (pc' := 66) (w_aload_n X dX7_enter_65 rfl 0 rfl) ?_
          refine g1 (pc' := 69) (gt_7_3 X hk0 mw_168 dX7_enter_66) ?_
          refine g_gd (fun h11 => ?_)
          refine g1 (pc' := 70) (w_iload_n X dX7_enter_69 rfl 2 rfl) ?_
          refine g_bd (pc' := 73) (fun r12 => [(0, .ref (xb x + o0)), (1, .int x1), (2, .int x2)]) (fun r12 => [.int r12.1]) (fun r12 => r12.2) (fun r12 h => k_X9_tellCall X hR hN Z h11 mw_474 (by decide) (Nat.le_of_ble_eq_true rfl) dX7_enter_70 h) (fun r12 => ?_)
          show Gz x 3 73 [(0, .ref (xb x + o0)), (1, .int x1), (2, .int x2)] [.int r12.1] KDF r12.2 _ _
          refine g_gd (fun h13 => ?_)
          exact g_rZ2 X h13 dX7_enter_73
  exact G _ h _ rfl
theorem k_X7_enter {x : Cxt} {cc : ByteArray} {nL : Nat} {own : String} {ret : Option FieldType} (X : Ok x cc nL own ret) {d : Nat} (hR : Rm x d KDF) (hN : Nst x) (Z : xz x = 0) {pc : Nat} {lv : List (Nat × Value)} {rest : List Value} {M : Mm} {o0 : Nat} {x1 : Int32} {x2 : Int32} (hk0 : KDF[o0]? = some (7, 0)) {idx : Nat} (hw : Cond.methodLink own idx yX7_enter ∈ tbG) (hdd : 4 + 1 ≤ d) (hrm : (rest.map fun v => v.category).sum ≤ 8) (hd : decode cc pc = .ok (.invokevirtual idx, 3)) {r : Int32} {M' : Mm} (h : f_X7_enter o0 x1 x2 M = some (r, M')) : StpZ x nL pc lv (.int x2 :: .int x1 :: .ref (xb x + o0) :: rest) KDF M (pc + 3) lv (.int r :: rest) KDF M' :=
  w_callV (st := []) (As := [.int x1, .int x2]) X hR hN (CtX0 Z (c_X7_enter hk0 h)) ⟨Nat.le_refl _, Nat.le_refl _⟩ ⟨Nat.le_refl _, Nat.le_refl _⟩ hk0 (ci := 7) (fs := fs_7 o0) (fun _ _ _ => rfl) rfl hw mw_453 mw_7 mw_67 mw_454 (n := 2) (by decide +kernel) rfl hdd (by decide) hrm hd
