def b_X12_isRead_29 (o0 : Nat) (s29 : Mm) : Option ((Mm) ⊕ ((Int32 × Mm) ⊕ (Mm))) :=
  (if (s29 o0 4) = (-2 : Int32) then some (.inr (.inr s29)) else Bd (f_X12_isClause o0 s29) (fun r8 => (if r8.1 = 0 then some (.inr (.inl ((0 : Int32), r8.2))) else Bd (f_X12_nextToken o0 r8.2) (fun r10 => some (.inl r10)))))
def f_X12_isRead (o0 : Nat) (M : Mm) : Option (Int32 × Mm) :=
  Lt (st2 M o0 2 (0 : Int32)) (fun M1 => Lt (st2 M1 o0 9 (0 : Int32)) (fun M2 => Lt (st2 M2 o0 10 (0 : Int32)) (fun M3 => Lt (st2 M3 o0 11 (0 : Int32)) (fun M4 => Lt (st2 M4 o0 12 (-1 : Int32)) (fun M5 => Bd (f_X12_nextToken o0 M5) (fun r6 => BdS (Lp (b_X12_isRead_29 o0) 100000 r6) (fun e11 => some ((1 : Int32), e11))))))))
set_option maxRecDepth 100000 in
set_option maxHeartbeats 4000000 in
theorem c_X12_isRead {l : Launch} {D : va_G} {an : An} {b : Nat} {o0 : Nat} (hk0 : KDF[o0]? = some (12, 0)) {M : Mm} {r : Int32} {M' : Mm} (h : f_X12_isRead o0 M = some (r, M')) : Ct l D an b 0 yX12_isRead cX12_isRead 1 (some .boolean) 7 [.ref (b + o0)] KDF M (some (.int r)) KDF M' := by
  refine CtX.mk (as := fun b => [.ref (b + o0)]) (rv := fun b => (some (.int r))) (by decide) (fun b => Nat.le_of_ble_eq_true rfl) ⟨Nat.le_refl _, Nat.le_refl _⟩ (fun x X hR Z hN _ _ => ?_)
  have X : Ok x cX12_isRead 1 RX12 (some .boolean) := X
  have G : Gz x 1 0 [(0, .ref (xb x + o0))] [] KDF M (f_X12_isRead o0 M) (PsI2 x KDF) := by
    unfold f_X12_isRead
    refine g1 (pc' := 1) (w_aload_n X dX12_isRead_0 rfl 0 rfl) ?_
    refine g1 (pc' := 2) (w_iconst X (0) dX12_isRead_1 (by decide)) ?_
    refine g_lt (pc' := 5) (fun M1 => [(0, .ref (xb x + o0))]) (fun M1 => []) (fun M1 => M1) (pt_12_2 X Z hk0 mw_931 dX12_isRead_2) (fun M1 => ?_)
    show Gz x 1 5 [(0, .ref (xb x + o0))] [] KDF M1 _ _
    refine g1 (pc' := 6) (w_aload_n X dX12_isRead_5 rfl 0 rfl) ?_
    refine g1 (pc' := 7) (w_iconst X (0) dX12_isRead_6 (by decide)) ?_
    refine g_lt (pc' := 10) (fun M2 => [(0, .ref (xb x + o0))]) (fun M2 => []) (fun M2 => M2) (pt_12_9 X Z hk0 mw_938 dX12_isRead_7) (fun M2 => ?_)
    show Gz x 1 10 [(0, .ref (xb x + o0))] [] KDF M2 _ _
    refine g1 (pc' := 11) (w_aload_n X dX12_isRead_10 rfl 0 rfl) ?_
    refine g1 (pc' := 12) (w_iconst X (0) dX12_isRead_11 (by decide)) ?_
    refine g_lt (pc' := 15) (fun M3 => [(0, .ref (xb x + o0))]) (fun M3 => []) (fun M3 => M3) (pt_12_10 X Z hk0 mw_939 dX12_isRead_12) (fun M3 => ?_)
    show Gz x 1 15 [(0, .ref (xb x + o0))] [] KDF M3 _ _
    refine g1 (pc' := 16) (w_aload_n X dX12_isRead_15 rfl 0 rfl) ?_
    refine g1 (pc' := 17) (w_iconst X (0) dX12_isRead_16 (by decide)) ?_
    refine g_lt (pc' := 20) (fun M4 => [(0, .ref (xb x + o0))]) (fun M4 => []) (fun M4 => M4) (pt_12_11 X Z hk0 mw_940 dX12_isRead_17) (fun M4 => ?_)
    show Gz x 1 20 [(0, .ref (xb x + o0))] [] KDF M4 _ _
    refine g1 (pc' := 21) (w_aload_n X dX12_isRead_20 rfl 0 rfl) ?_
    refine g1 (pc' := 22) (w_iconst X (-1) dX12_isRead_21 (by decide)) ?_
    refine g_lt (pc' := 25) (fun M5 => [(0, .ref (xb x + o0))]) (fun M5 => []) (fun M5 => M5) (pt_12_12 X Z hk0 mw_941 dX12_isRead_22) (fun M5 => ?_)
    show Gz x 1 25 [(0, .ref (xb x + o0))] [] KDF M5 _ _
    refine g1 (pc' := 26) (w_aload_n X dX12_isRead_25 rfl 0 rfl) ?_
    refine g_bd (pc' := 29) (fun r6 => [(0, .ref (xb x + o0))]) (fun r6 => []) (fun r6 => r6) (fun r6 h => k_X12_nextToken X hR hN Z hk0 mw_1068 (by decide) (Nat.le_of_ble_eq_true rfl) dX12_isRead_26 h) (fun r6 => ?_)
    show Gz x 1 29 [(0, .ref (xb x + o0))] [] KDF r6 _ _
    refine g_pick (lv' := [(0, .ref (xb x + o0))]) [0] rfl ?_
    refine g_bdS (J := 54) (fun e11 => []) (fun e11 => []) (fun e11 => e11) (g_lp (fun s29 => [(0, .ref (xb x + o0))]) (fun s29 => s29) (fun s29 => ?_) 100000 r6) (fun e11 => ?_)
    · show Gz x 1 29 [(0, .ref (xb x + o0))] [] KDF s29 (b_X12_isRead_29 o0 s29) _
      unfold b_X12_isRead_29
      refine g1 (pc' := 30) (w_aload_n X dX12_isRead_29 rfl 0 rfl) ?_
      refine g1 (pc' := 33) (gt_12_4 X hk0 mw_933 dX12_isRead_30) ?_
      refine g1 (pc' := 35) (w_bipush X (-2) dX12_isRead_33 (by decide)) ?_
      refine g_if (pcT := 54) (pcF := 38) (w_icmp_eq (tgt := 54) X dX12_isRead_35 (by decide)) (fun h7 => ?_) (fun h7 => ?_)
      · refine g_inr ?_
        refine g_inr ?_
        exact g_end [] rfl rfl rfl
      · refine g1 (pc' := 39) (w_aload_n X dX12_isRead_38 rfl 0 rfl) ?_
        refine g_bd (pc' := 42) (fun r8 => [(0, .ref (xb x + o0))]) (fun r8 => [.int r8.1]) (fun r8 => r8.2) (fun r8 h => k_X12_isClause X hR hN Z hk0 mw_1072 (by decide) (Nat.le_of_ble_eq_true rfl) dX12_isRead_39 h) (fun r8 => ?_)
        show Gz x 1 42 [(0, .ref (xb x + o0))] [.int r8.1] KDF r8.2 _ _
        refine g_if (pcT := 45) (pcF := 47) (w_if_ne (tgt := 47) X dX12_isRead_42 (by decide)) (fun h9 => ?_) (fun h9 => ?_)
        · refine g1 (pc' := 46) (w_iconst X (0) dX12_isRead_45 (by decide)) ?_
          refine g_inr ?_
          refine g_inl ?_
          exact g_rZ2 X zb0 dX12_isRead_46
        · refine g1 (pc' := 48) (w_aload_n X dX12_isRead_47 rfl 0 rfl) ?_
          refine g_bd (pc' := 51) (fun r10 => [(0, .ref (xb x + o0))]) (fun r10 => []) (fun r10 => r10) (fun r10 h => k_X12_nextToken X hR hN Z hk0 mw_1068 (by decide) (Nat.le_of_ble_eq_true rfl) dX12_isRead_48 h) (fun r10 => ?_)
          show Gz x 1 51 [(0, .ref (xb x + o0))] [] KDF r10 _ _
          refine g1 (pc' := 29) (w_goto X dX12_isRead_51 (by decide)) ?_
          refine g_inl ?_
          exact g_end [0] rfl rfl rfl
    · show Gz x 1 54 [] [] KDF e11 _ _
      refine g1 (pc' := 55) (w_iconst X (1) dX12_isRead_54 (by decide)) ?_
      exact g_rZ2 X zb1 dX12_isRead_55
  exact G _ h _ rfl
theorem k_X12_isRead {x : Cxt} {cc : ByteArray} {nL : Nat} {own : String} {ret : Option FieldType} (X : Ok x cc nL own ret) {d : Nat} (hR : Rm x d KDF) (hN : Nst x) (Z : xz x = 0) {pc : Nat} {lv : List (Nat × Value)} {rest : List Value} {M : Mm} {o0 : Nat} (hk0 : KDF[o0]? = some (12, 0)) {idx : Nat} (hw : Cond.methodLink own idx yX12_isRead ∈ tbG) (hdd : 7 + 1 ≤ d) (hrm : (rest.map fun v => v.category).sum ≤ 8) (hd : decode cc pc = .ok (.invokevirtual idx, 3)) {r : Int32} {M' : Mm} (h : f_X12_isRead o0 M = some (r, M')) : StpZ x nL pc lv (.ref (xb x + o0) :: rest) KDF M (pc + 3) lv (.int r :: rest) KDF M' :=
  w_callV (st := []) (As := []) X hR hN (CtX0 Z (c_X12_isRead hk0 h)) ⟨Nat.le_refl _, Nat.le_refl _⟩ ⟨Nat.le_refl _, Nat.le_refl _⟩ hk0 (ci := 12) (fs := fs_12 o0) (fun _ _ _ => rfl) rfl hw mw_1066 mw_23 mw_72 mw_1067 (n := 0) (by decide +kernel) rfl hdd (by decide) hrm hd
def b_X12_bring_3 (o0 : Nat) (x1 : Int32) (o2 : Nat) (x3 : Int32) (x4 : Int32) (s3 : Int32 × Mm) : Option ((Int32 × Mm) ⊕ (Mm)) :=
  (if x4 ≤ s3.1 then some (.inr s3.2) else Gd (ib (x1 + s3.1) (kln o0)) (Gd (ib (x3 + s3.1) (kln o2)) (Lt (st2 s3.2 o2 (ix (x3 + s3.1)) (s3.2 o0 (ix (x1 + s3.1)))) (fun M4 => Lt (s3.1 + (1 : Int32)) (fun v5 => some (.inl (v5, M4)))))))
def f_X12_bring (o0 : Nat) (x1 : Int32) (o2 : Nat) (x3 : Int32) (x4 : Int32) (M : Mm) : Option (Mm) :=
  Bd (Lp (b_X12_bring_3 o0 x1 o2 x3 x4) 100000 ((0 : Int32), M)) (fun e6 => some e6)
set_option maxRecDepth 100000 in
set_option maxHeartbeats 4000000 in
theorem c_X12_bring {l : Launch} {D : va_G} {an : An} {b : Nat} {o0 : Nat} {x1 : Int32} {o2 : Nat} {x3 : Int32} {x4 : Int32} (hk0 : KDF[o0]? = some (13, kln o0)) (hk2 : KDF[o2]? = some (13, kln o2)) {M : Mm} {M' : Mm} (h : f_X12_bring o0 x1 o2 x3 x4 M = some M') : Ct l D an b 0 yX12_bring cX12_bring 6 none 1 [.ref (b + o0), .int x1, .ref (b + o2), .int x3, .int x4] KDF M none KDF M' := by
  refine CtX.mk (as := fun b => [.ref (b + o0), .int x1, .ref (b + o2), .int x3, .int x4]) (rv := fun b => none) (by decide) (fun b => Nat.le_of_ble_eq_true rfl) ⟨Nat.le_refl _, Nat.le_refl _⟩ (fun x X hR Z hN _ _ => ?_)
  have X : Ok x cX12_bring 6 RX12 none := X
  have G : Gz x 6 0 [(0, .ref (xb x + o0)), (1, .int x1), (2, .ref (xb x + o2)), (3, .int x3), (4, .int x4)] [] KDF M (f_X12_bring o0 x1 o2 x3 x4 M) (PsM x KDF) := by
    unfold f_X12_bring
    refine g1 (pc' := 1) (w_iconst X (0) dX12_bring_0 (by decide)) ?_
    refine g1 (pc' := 3) (lv' := [(5, .int (0 : Int32)), (0, .ref (xb x + o0)), (1, .int x1), (2, .ref (xb x + o2)), (3, .int x3), (4, .int x4)]) (w_istore X dX12_bring_1 (by decide) rfl) ?_
    refine g_pick (lv' := [(0, .ref (xb x + o0)), (1, .int x1), (2, .ref (xb x + o2)), (3, .int x3), (4, .int x4), (5, .int (0 : Int32))]) [1, 2, 3, 4, 5, 0] rfl ?_
    refine g_bdJ (J := 28) (fun e6 => []) (fun e6 => []) (fun e6 => e6) (g_lp (fun s3 => [(0, .ref (xb x + o0)), (1, .int x1), (2, .ref (xb x + o2)), (3, .int x3), (4, .int x4), (5, .int s3.1)]) (fun s3 => s3.2) (fun s3 => ?_) 100000 ((0 : Int32), M)) (fun e6 => ?_)
    · show Gz x 6 3 [(0, .ref (xb x + o0)), (1, .int x1), (2, .ref (xb x + o2)), (3, .int x3), (4, .int x4), (5, .int s3.1)] [] KDF s3.2 (b_X12_bring_3 o0 x1 o2 x3 x4 s3) _
      unfold b_X12_bring_3
      refine g1 (pc' := 5) (w_iload X dX12_bring_3 5 rfl) ?_
      refine g1 (pc' := 7) (w_iload X dX12_bring_5 4 rfl) ?_
      refine g_if (pcT := 28) (pcF := 10) (w_icmp_ge (tgt := 28) X dX12_bring_7 (by decide)) (fun h1 => ?_) (fun h1 => ?_)
      · refine g_inr ?_
        exact g_end [] rfl rfl rfl
      · refine g1 (pc' := 11) (w_aload_n X dX12_bring_10 rfl 2 rfl) ?_
        refine g1 (pc' := 12) (w_iload_n X dX12_bring_11 rfl 3 rfl) ?_
        refine g1 (pc' := 14) (w_iload X dX12_bring_12 5 rfl) ?_
        refine g1 (pc' := 15) (w_iadd X dX12_bring_14) ?_
        refine g1 (pc' := 16) (w_aload_n X dX12_bring_15 rfl 0 rfl) ?_
        refine g1 (pc' := 17) (w_iload_n X dX12_bring_16 rfl 1 rfl) ?_
        refine g1 (pc' := 19) (w_iload X dX12_bring_17 5 rfl) ?_
        refine g1 (pc' := 20) (w_iadd X dX12_bring_19) ?_
        refine g_gd (fun h2 => ?_)
        refine g1 (pc' := 21) (w_iald X hk0 h2 dX12_bring_20) ?_
        refine g_gd (fun h3 => ?_)
        refine g_lt (pc' := 22) (fun M4 => [(0, .ref (xb x + o0)), (1, .int x1), (2, .ref (xb x + o2)), (3, .int x3), (4, .int x4), (5, .int s3.1)]) (fun M4 => []) (fun M4 => M4) (w_iast X Z hk2 h3 dX12_bring_21) (fun M4 => ?_)
        show Gz x 6 22 [(0, .ref (xb x + o0)), (1, .int x1), (2, .ref (xb x + o2)), (3, .int x3), (4, .int x4), (5, .int s3.1)] [] KDF M4 _ _
        refine g_lt (pc' := 25) (fun v5 => [(5, .int v5), (0, .ref (xb x + o0)), (1, .int x1), (2, .ref (xb x + o2)), (3, .int x3), (4, .int x4)]) (fun v5 => []) (fun v5 => M4) (w_iinc X dX12_bring_22 5 rfl rfl (by decide) rfl) (fun v5 => ?_)
        show Gz x 6 25 [(5, .int v5), (0, .ref (xb x + o0)), (1, .int x1), (2, .ref (xb x + o2)), (3, .int x3), (4, .int x4)] [] KDF M4 _ _
        refine g1 (pc' := 3) (w_goto X dX12_bring_25 (by decide)) ?_
        refine g_inl ?_
        exact g_end [1, 2, 3, 4, 5, 0] rfl rfl rfl
    · show Gz x 6 28 [] [] KDF e6 _ _
      exact g_rM X dX12_bring_28
  exact G _ h _ rfl
theorem k_X12_bring {x : Cxt} {cc : ByteArray} {nL : Nat} {own : String} {ret : Option FieldType} (X : Ok x cc nL own ret) {d : Nat} (hR : Rm x d KDF) (hN : Nst x) (Z : xz x = 0) {pc : Nat} {lv : List (Nat × Value)} {rest : List Value} {M : Mm} {o0 : Nat} {x1 : Int32} {o2 : Nat} {x3 : Int32} {x4 : Int32} (hk0 : KDF[o0]? = some (13, kln o0)) (hk2 : KDF[o2]? = some (13, kln o2)) {idx : Nat} (hw : Cond.methodLink own idx yX12_bring ∈ tbG) (hdd : 1 + 1 ≤ d) (hrm : (rest.map fun v => v.category).sum ≤ 8) (hd : decode cc pc = .ok (.invokestatic idx, 3)) {M' : Mm} (h : f_X12_bring o0 x1 o2 x3 x4 M = some M') : StpZ x nL pc lv (.int x4 :: .int x3 :: .ref (xb x + o2) :: .int x1 :: .ref (xb x + o0) :: rest) KDF M (pc + 3) lv (rest) KDF M' :=
  w_callS (st := []) (As := [.ref (xb x + o0), .int x1, .ref (xb x + o2), .int x3, .int x4]) X hR hN (CtX0 Z (c_X12_bring hk0 hk2 h)) ⟨Nat.le_refl _, Nat.le_refl _⟩ ⟨Nat.le_refl _, Nat.le_refl _⟩ hw mw_1115 mw_72 mw_1116 (n := 5) (by decide +kernel) rfl hdd (by decide) hrm hd
def b_X12_toRounds_2 (o0 : Nat) (s2 : Int32 × Mm) : Option ((Int32 × Mm) ⊕ (Mm)) :=
  (if (6 : Int32) ≤ s2.1 then some (.inr s2.2) else Gd (ib ((5 : Int32) + s2.1) (kln o0)) (Lt (st2 s2.2 o0 (ix ((5 : Int32) + s2.1)) s2.1) (fun M3 => Lt (s2.1 + (1 : Int32)) (fun v4 => some (.inl (v4, M3))))))
def f_X12_toRounds (o0 : Nat) (M : Mm) : Option (Mm) :=
  Bd (Lp (b_X12_toRounds_2 o0) 100000 ((0 : Int32), M)) (fun e5 => Gd (ib (1 : Int32) (kln o0)) (Lt (st2 e5 o0 (ix (1 : Int32)) (0 : Int32)) (fun M7 => Gd (ib (2 : Int32) (kln o0)) (Lt (st2 M7 o0 (ix (2 : Int32)) (0 : Int32)) (fun M9 => some M9)))))
set_option maxRecDepth 100000 in
set_option maxHeartbeats 4000000 in
theorem c_X12_toRounds {l : Launch} {D : va_G} {an : An} {b : Nat} {o0 : Nat} (hk0 : KDF[o0]? = some (13, kln o0)) {M : Mm} {M' : Mm} (h : f_X12_toRounds o0 M = some M') : Ct l D an b 0 yX12_toRounds cX12_toRounds 2 none 1 [.ref (b + o0)] KDF M none KDF M' := by
  refine CtX.mk (as := fun b => [.ref (b + o0)]) (rv := fun b => none) (by decide) (fun b => Nat.le_of_ble_eq_true rfl) ⟨Nat.le_refl _, Nat.le_refl _⟩ (fun x X hR Z hN _ _ => ?_)
  have X : Ok x cX12_toRounds 2 RX12 none := X
  have G : Gz x 2 0 [(0, .ref (xb x + o0))] [] KDF M (f_X12_toRounds o0 M) (PsM x KDF) := by
    unfold f_X12_toRounds
    refine g1 (pc' := 1) (w_iconst X (0) dX12_toRounds_0 (by decide)) ?_
    refine g1 (pc' := 2) (lv' := [(1, .int (0 : Int32)), (0, .ref (xb x + o0))]) (w_istore_n X dX12_toRounds_1 rfl (by decide) rfl) ?_
    refine g_pick (lv' := [(0, .ref (xb x + o0)), (1, .int (0 : Int32))]) [1, 0] rfl ?_
    refine g_bdJ (J := 20) (fun e5 => [(0, .ref (xb x + o0))]) (fun e5 => []) (fun e5 => e5) (g_lp (fun s2 => [(0, .ref (xb x + o0)), (1, .int s2.1)]) (fun s2 => s2.2) (fun s2 => ?_) 100000 ((0 : Int32), M)) (fun e5 => ?_)
    · show Gz x 2 2 [(0, .ref (xb x + o0)), (1, .int s2.1)] [] KDF s2.2 (b_X12_toRounds_2 o0 s2) _
      unfold b_X12_toRounds_2
      refine g1 (pc' := 3) (w_iload_n X dX12_toRounds_2 rfl 1 rfl) ?_
      refine g1 (pc' := 5) (w_bipush X (6) dX12_toRounds_3 (by decide)) ?_
      refine g_if (pcT := 20) (pcF := 8) (w_icmp_ge (tgt := 20) X dX12_toRounds_5 (by decide)) (fun h1 => ?_) (fun h1 => ?_)
      · refine g_inr ?_
        exact g_end [0] rfl rfl rfl
      · refine g1 (pc' := 9) (w_aload_n X dX12_toRounds_8 rfl 0 rfl) ?_
        refine g1 (pc' := 10) (w_iconst X (5) dX12_toRounds_9 (by decide)) ?_
        refine g1 (pc' := 11) (w_iload_n X dX12_toRounds_10 rfl 1 rfl) ?_
        refine g1 (pc' := 12) (w_iadd X dX12_toRounds_11) ?_
        refine g1 (pc' := 13) (w_iload_n X dX12_toRounds_12 rfl 1 rfl) ?_
        refine g_gd (fun h2 => ?_)
        refine g_lt (pc' := 14) (fun M3 => [(0, .ref (xb x + o0)), (1, .int s2.1)]) (fun M3 => []) (fun M3 => M3) (w_iast X Z hk0 h2 dX12_toRounds_13) (fun M3 => ?_)
        show Gz x 2 14 [(0, .ref (xb x + o0)), (1, .int s2.1)] [] KDF M3 _ _
        refine g_lt (pc' := 17) (fun v4 => [(1, .int v4), (0, .ref (xb x + o0))]) (fun v4 => []) (fun v4 => M3) (w_iinc X dX12_toRounds_14 1 rfl rfl (by decide) rfl) (fun v4 => ?_)
        show Gz x 2 17 [(1, .int v4), (0, .ref (xb x + o0))] [] KDF M3 _ _
        refine g1 (pc' := 2) (w_goto X dX12_toRounds_17 (by decide)) ?_
        refine g_inl ?_
        exact g_end [1, 0] rfl rfl rfl
    · show Gz x 2 20 [(0, .ref (xb x + o0))] [] KDF e5 _ _
      refine g1 (pc' := 21) (w_aload_n X dX12_toRounds_20 rfl 0 rfl) ?_
      refine g1 (pc' := 22) (w_iconst X (1) dX12_toRounds_21 (by decide)) ?_
      refine g1 (pc' := 23) (w_iconst X (0) dX12_toRounds_22 (by decide)) ?_
      refine g_gd (fun h6 => ?_)
      refine g_lt (pc' := 24) (fun M7 => [(0, .ref (xb x + o0))]) (fun M7 => []) (fun M7 => M7) (w_iast X Z hk0 h6 dX12_toRounds_23) (fun M7 => ?_)
      show Gz x 2 24 [(0, .ref (xb x + o0))] [] KDF M7 _ _
      refine g1 (pc' := 25) (w_aload_n X dX12_toRounds_24 rfl 0 rfl) ?_
      refine g1 (pc' := 26) (w_iconst X (2) dX12_toRounds_25 (by decide)) ?_
      refine g1 (pc' := 27) (w_iconst X (0) dX12_toRounds_26 (by decide)) ?_
      refine g_gd (fun h8 => ?_)
      refine g_lt (pc' := 28) (fun M9 => [(0, .ref (xb x + o0))]) (fun M9 => []) (fun M9 => M9) (w_iast X Z hk0 h8 dX12_toRounds_27) (fun M9 => ?_)
      show Gz x 2 28 [(0, .ref (xb x + o0))] [] KDF M9 _ _
      exact g_rM X dX12_toRounds_28
  exact G _ h _ rfl
theorem k_X12_toRounds {x : Cxt} {cc : ByteArray} {nL : Nat} {own : String} {ret : Option FieldType} (X : Ok x cc nL own ret) {d : Nat} (hR : Rm x d KDF) (hN : Nst x) (Z : xz x = 0) {pc : Nat} {lv : List (Nat × Value)} {rest : List Value} {M : Mm} {o0 : Nat} (hk0 : KDF[o0]? = some (13, kln o0)) {idx : Nat} (hw : Cond.methodLink own idx yX12_toRounds ∈ tbG) (hdd : 1 + 1 ≤ d) (hrm : (rest.map fun v => v.category).sum ≤ 8) (hd : decode cc pc = .ok (.invokestatic idx, 3)) {M' : Mm} (h : f_X12_toRounds o0 M = some M') : StpZ x nL pc lv (.ref (xb x + o0) :: rest) KDF M (pc + 3) lv (rest) KDF M' :=
  w_callS (st := []) (As := [.ref (xb x + o0)]) X hR hN (CtX0 Z (c_X12_toRounds hk0 h)) ⟨Nat.le_refl _, Nat.le_refl _⟩ ⟨Nat.le_refl _, Nat.le_refl _⟩ hw mw_1118 mw_72 mw_1119 (n := 1) (by decide +kernel) rfl hdd (by decide) hrm hd
def b_X12_tower_171  (s171 : Int32 × Mm) : Option ((Int32 × Mm) ⊕ (Mm)) :=
  (if (23 : Int32) ≤ s171.1 then some (.inr s171.2) else Gd (ib s171.1 23) (Lt (st2 s171.2 136 (ix s171.1) (0 : Int32)) (fun M23 => Lt (s171.1 + (1 : Int32)) (fun v24 => some (.inl (v24, M23))))))
def b_X12_tower_199  (s199 : Int32 × Mm) : Option ((Int32 × Mm) ⊕ (Mm)) :=
  (if (6 : Int32) ≤ s199.1 then some (.inr s199.2) else Gd (ib ((11 : Int32) + s199.1) 23) (Lt (st2 s199.2 136 (ix ((11 : Int32) + s199.1)) s199.1) (fun M29 => Lt (s199.1 + (1 : Int32)) (fun v30 => some (.inl (v30, M29))))))
def f_X12_tower (o0 : Nat) (M : Mm) : Option (Int32 × Mm) :=
  Bd (f_X12_isRead o0 M) (fun r1 => Lt (st2 r1.2 o0 0 (0 : Int32)) (fun M2 => (if r1.1 = 0 then some (((-10 : Int32) - (M2 o0 8)), M2) else Lt (st2 M2 o0 7 (-1 : Int32)) (fun M4 => Lt (st2 M4 o0 16 (M4 o0 9)) (fun M5 => Lt (st2 M5 o0 18 (M5 o0 11)) (fun M6 => Bd (f_X12_bring 130 (0 : Int32) 133 (0 : Int32) (6 : Int32) M6) (fun r7 => Bd (f_X12_bring 131 (0 : Int32) 134 (0 : Int32) (12 : Int32) r7) (fun r8 => Bd (f_X12_bring 132 (0 : Int32) 135 (0 : Int32) (6 : Int32) r8) (fun r9 => Lt ((sl (1 : Int32) (r9 o0 16)) - (1 : Int32)) (fun v10 => Lt (((if (r9 o0 10) ≤ 0 then (if (r9 o0 16) ≤ 0 then (0 : Int32) else (1 : Int32)) else (r9 o0 10))) : Int32) (fun j11 => Lt (st2 r9 o0 17 j11) (fun M14 => Lt (((if (M14 o0 10) ≤ 0 then v10 else (M14 134 (ix (0 : Int32))))) : Int32) (fun j15 => Lt (st2 M14 134 (ix (0 : Int32)) j15) (fun M17 => Lt (((if (M17 o0 12) < 0 then v10 else (M17 o0 12))) : Int32) (fun j18 => Lt (st2 M17 o0 19 j18) (fun M20 => Bd (Lp (b_X12_tower_171) 100000 ((0 : Int32), M20)) (fun e25 => Bd (f_X12_toRounds 136 e25) (fun r26 => Bd (Lp (b_X12_tower_199) 100000 ((0 : Int32), r26)) (fun e31 => Lt (st2 e31 o0 31 (0 : Int32)) (fun M32 => Lt (st2 M32 o0 33 (0 : Int32)) (fun M33 => Lt (st2 M33 141 (ix (0 : Int32)) (vp_nar .boolean (0 : Int32))) (fun M34 => Lt (st2 M34 141 (ix (1 : Int32)) (vp_nar .boolean (0 : Int32))) (fun M35 => Lt (st2 M35 o0 26 (0 : Int32)) (fun M36 => some ((M36 o0 16), M36)))))))))))))))))))))))))
set_option maxRecDepth 100000 in
set_option maxHeartbeats 4000000 in
theorem c_X12_tower {l : Launch} {D : va_G} {an : An} {b : Nat} {o0 : Nat} (hk0 : KDF[o0]? = some (12, 0)) {M : Mm} {r : Int32} {M' : Mm} (h : f_X12_tower o0 M = some (r, M')) : Ct l D an b 0 yX12_tower cX12_tower 4 (some .int) 8 [.ref (b + o0)] KDF M (some (.int r)) KDF M' := by
  refine CtX.mk (as := fun b => [.ref (b + o0)]) (rv := fun b => (some (.int r))) (by decide) (fun b => Nat.le_of_ble_eq_true rfl) ⟨Nat.le_refl _, Nat.le_refl _⟩ (fun x X hR Z hN _ _ => ?_)
  have X : Ok x cX12_tower 4 RX12 (some .int) := X
  have G : Gz x 4 0 [(0, .ref (xb x + o0))] [] KDF M (f_X12_tower o0 M) (PsI2 x KDF) := by
    unfold f_X12_tower
    refine g1 (pc' := 1) (w_aload_n X dX12_tower_0 rfl 0 rfl) ?_
    refine g_bd (pc' := 4) (fun r1 => [(0, .ref (xb x + o0))]) (fun r1 => [.int r1.1]) (fun r1 => r1.2) (fun r1 h => k_X12_isRead X hR hN Z hk0 mw_1064 (by decide) (Nat.le_of_ble_eq_true rfl) dX12_tower_1 h) (fun r1 => ?_)
    show Gz x 4 4 [(0, .ref (xb x + o0))] [.int r1.1] KDF r1.2 _ _
    refine g1 (pc' := 5) (lv' := [(1, .int r1.1), (0, .ref (xb x + o0))]) (w_istore_n X dX12_tower_4 rfl (by decide) rfl) ?_
    refine g1 (pc' := 6) (w_aload_n X dX12_tower_5 rfl 1 rfl) ?_
    refine g1 (pc' := 7) (w_iconst X (0) dX12_tower_6 (by decide)) ?_
    refine g_lt (pc' := 10) (fun M2 => [(1, .int r1.1), (0, .ref (xb x + o0))]) (fun M2 => []) (fun M2 => M2) (pt_12_0 X Z hk0 mw_929 dX12_tower_7) (fun M2 => ?_)
    show Gz x 4 10 [(1, .int r1.1), (0, .ref (xb x + o0))] [] KDF M2 _ _
    refine g1 (pc' := 11) (w_iload_n X dX12_tower_10 rfl 0 rfl) ?_
    refine g_if (pcT := 14) (pcF := 22) (w_if_ne (tgt := 22) X dX12_tower_11 (by decide)) (fun h3 => ?_) (fun h3 => ?_)
    · refine g1 (pc' := 16) (w_bipush X (-10) dX12_tower_14 (by decide)) ?_
      refine g1 (pc' := 17) (w_aload_n X dX12_tower_16 rfl 1 rfl) ?_
      refine g1 (pc' := 20) (gt_12_8 X hk0 mw_937 dX12_tower_17) ?_
      refine g1 (pc' := 21) (w_isub X dX12_tower_20) ?_
      exact g_rI2 X dX12_tower_21
    · refine g1 (pc' := 23) (w_aload_n X dX12_tower_22 rfl 1 rfl) ?_
      refine g1 (pc' := 24) (w_iconst X (-1) dX12_tower_23 (by decide)) ?_
      refine g_lt (pc' := 27) (fun M4 => [(1, .int r1.1), (0, .ref (xb x + o0))]) (fun M4 => []) (fun M4 => M4) (pt_12_7 X Z hk0 mw_936 dX12_tower_24) (fun M4 => ?_)
      show Gz x 4 27 [(1, .int r1.1), (0, .ref (xb x + o0))] [] KDF M4 _ _
      refine g1 (pc' := 28) (w_aload_n X dX12_tower_27 rfl 1 rfl) ?_
      refine g1 (pc' := 29) (w_aload_n X dX12_tower_28 rfl 1 rfl) ?_
      refine g1 (pc' := 32) (gt_12_9 X hk0 mw_938 dX12_tower_29) ?_
      refine g_lt (pc' := 35) (fun M5 => [(1, .int r1.1), (0, .ref (xb x + o0))]) (fun M5 => []) (fun M5 => M5) (pt_12_16 X Z hk0 mw_945 dX12_tower_32) (fun M5 => ?_)
      show Gz x 4 35 [(1, .int r1.1), (0, .ref (xb x + o0))] [] KDF M5 _ _
      refine g1 (pc' := 36) (w_aload_n X dX12_tower_35 rfl 1 rfl) ?_
      refine g1 (pc' := 37) (w_aload_n X dX12_tower_36 rfl 1 rfl) ?_
      refine g1 (pc' := 40) (gt_12_11 X hk0 mw_940 dX12_tower_37) ?_
      refine g_lt (pc' := 43) (fun M6 => [(1, .int r1.1), (0, .ref (xb x + o0))]) (fun M6 => []) (fun M6 => M6) (pt_12_18 X Z hk0 mw_947 dX12_tower_40) (fun M6 => ?_)
      show Gz x 4 43 [(1, .int r1.1), (0, .ref (xb x + o0))] [] KDF M6 _ _
      refine g1 (pc' := 44) (w_aload_n X dX12_tower_43 rfl 1 rfl) ?_
      refine g1 (pc' := 47) (gt_12_13 X hk0 mw_942 dX12_tower_44) ?_
      refine g1 (pc' := 48) (w_iconst X (0) dX12_tower_47 (by decide)) ?_
      refine g1 (pc' := 49) (w_aload_n X dX12_tower_48 rfl 1 rfl) ?_
      refine g1 (pc' := 52) (gt_12_20 X hk0 mw_949 dX12_tower_49) ?_
      refine g1 (pc' := 53) (w_iconst X (0) dX12_tower_52 (by decide)) ?_
      refine g1 (pc' := 55) (w_bipush X (6) dX12_tower_53 (by decide)) ?_
      refine g_bd (pc' := 58) (fun r7 => [(1, .int r1.1), (0, .ref (xb x + o0))]) (fun r7 => []) (fun r7 => r7) (fun r7 h => k_X12_bring X hR hN Z (kln_of kd_130) (kln_of kd_133) mw_1114 (by decide) (Nat.le_of_ble_eq_true rfl) dX12_tower_55 h) (fun r7 => ?_)
      show Gz x 4 58 [(1, .int r1.1), (0, .ref (xb x + o0))] [] KDF r7 _ _
      refine g1 (pc' := 59) (w_aload_n X dX12_tower_58 rfl 1 rfl) ?_
      refine g1 (pc' := 62) (gt_12_14 X hk0 mw_943 dX12_tower_59) ?_
      refine g1 (pc' := 63) (w_iconst X (0) dX12_tower_62 (by decide)) ?_
      refine g1 (pc' := 64) (w_aload_n X dX12_tower_63 rfl 1 rfl) ?_
      refine g1 (pc' := 67) (gt_12_21 X hk0 mw_950 dX12_tower_64) ?_
      refine g1 (pc' := 68) (w_iconst X (0) dX12_tower_67 (by decide)) ?_
      refine g1 (pc' := 70) (w_bipush X (12) dX12_tower_68 (by decide)) ?_
      refine g_bd (pc' := 73) (fun r8 => [(1, .int r1.1), (0, .ref (xb x + o0))]) (fun r8 => []) (fun r8 => r8) (fun r8 h => k_X12_bring X hR hN Z (kln_of kd_131) (kln_of kd_134) mw_1114 (by decide) (Nat.le_of_ble_eq_true rfl) dX12_tower_70 h) (fun r8 => ?_)
      show Gz x 4 73 [(1, .int r1.1), (0, .ref (xb x + o0))] [] KDF r8 _ _
      refine g1 (pc' := 74) (w_aload_n X dX12_tower_73 rfl 1 rfl) ?_
      refine g1 (pc' := 77) (gt_12_15 X hk0 mw_944 dX12_tower_74) ?_
      refine g1 (pc' := 78) (w_iconst X (0) dX12_tower_77 (by decide)) ?_
      refine g1 (pc' := 79) (w_aload_n X dX12_tower_78 rfl 1 rfl) ?_
      refine g1 (pc' := 82) (gt_12_22 X hk0 mw_951 dX12_tower_79) ?_
      refine g1 (pc' := 83) (w_iconst X (0) dX12_tower_82 (by decide)) ?_
      refine g1 (pc' := 85) (w_bipush X (6) dX12_tower_83 (by decide)) ?_
      refine g_bd (pc' := 88) (fun r9 => [(1, .int r1.1), (0, .ref (xb x + o0))]) (fun r9 => []) (fun r9 => r9) (fun r9 h => k_X12_bring X hR hN Z (kln_of kd_132) (kln_of kd_135) mw_1114 (by decide) (Nat.le_of_ble_eq_true rfl) dX12_tower_85 h) (fun r9 => ?_)
      show Gz x 4 88 [(1, .int r1.1), (0, .ref (xb x + o0))] [] KDF r9 _ _
      refine g1 (pc' := 89) (w_iconst X (1) dX12_tower_88 (by decide)) ?_
      refine g1 (pc' := 90) (w_aload_n X dX12_tower_89 rfl 1 rfl) ?_
      refine g1 (pc' := 93) (gt_12_16 X hk0 mw_945 dX12_tower_90) ?_
      refine g1 (pc' := 94) (w_ishl X dX12_tower_93) ?_
      refine g1 (pc' := 95) (w_iconst X (1) dX12_tower_94 (by decide)) ?_
      refine g1 (pc' := 96) (w_isub X dX12_tower_95) ?_
      refine g_lt (pc' := 97) (fun v10 => [(2, .int v10), (1, .int r1.1), (0, .ref (xb x + o0))]) (fun v10 => []) (fun v10 => r9) (w_istore_n X dX12_tower_96 rfl (by decide) rfl) (fun v10 => ?_)
      show Gz x 4 97 [(2, .int v10), (1, .int r1.1), (0, .ref (xb x + o0))] [] KDF r9 _ _
      refine g1 (pc' := 98) (w_aload_n X dX12_tower_97 rfl 2 rfl) ?_
      refine g1 (pc' := 99) (w_aload_n X dX12_tower_98 rfl 2 rfl) ?_
      refine g1 (pc' := 102) (gt_12_10 X hk0 mw_939 dX12_tower_99) ?_
      refine g_ltJ (J := 124) (fun j11 => [(0, .ref (xb x + o0)), (2, .int v10)]) (fun j11 => [.int j11, .ref (xb x + o0)]) (fun j11 => r9) ?_ (fun j11 => ?_)
      · refine g_ifS (pcT := 112) (pcF := 105) (w_if_le (tgt := 112) X dX12_tower_102 (by decide)) (fun h12 => ?_) (fun h12 => ?_)
        · refine g1 (pc' := 113) (w_aload_n X dX12_tower_112 rfl 2 rfl) ?_
          refine g1 (pc' := 116) (gt_12_16 X hk0 mw_945 dX12_tower_113) ?_
          refine g_ifS (pcT := 123) (pcF := 119) (w_if_le (tgt := 123) X dX12_tower_116 (by decide)) (fun h13 => ?_) (fun h13 => ?_)
          · refine g1 (pc' := 124) (w_iconst X (0) dX12_tower_123 (by decide)) ?_
            exact g_end [2, 0] rfl rfl rfl
          · refine g1 (pc' := 120) (w_iconst X (1) dX12_tower_119 (by decide)) ?_
            refine g1 (pc' := 124) (w_goto X dX12_tower_120 (by decide)) ?_
            exact g_end [2, 0] rfl rfl rfl
        · refine g1 (pc' := 106) (w_aload_n X dX12_tower_105 rfl 2 rfl) ?_
          refine g1 (pc' := 109) (gt_12_10 X hk0 mw_939 dX12_tower_106) ?_
          refine g1 (pc' := 124) (w_goto X dX12_tower_109 (by decide)) ?_
          exact g_end [2, 0] rfl rfl rfl
      · show Gz x 4 124 [(0, .ref (xb x + o0)), (2, .int v10)] [.int j11, .ref (xb x + o0)] KDF r9 _ _
        refine g_lt (pc' := 127) (fun M14 => [(0, .ref (xb x + o0)), (2, .int v10)]) (fun M14 => []) (fun M14 => M14) (pt_12_17 X Z hk0 mw_946 dX12_tower_124) (fun M14 => ?_)
        show Gz x 4 127 [(0, .ref (xb x + o0)), (2, .int v10)] [] KDF M14 _ _
        refine g1 (pc' := 128) (w_aload_n X dX12_tower_127 rfl 0 rfl) ?_
        refine g1 (pc' := 131) (gt_12_21 X hk0 mw_950 dX12_tower_128) ?_
        refine g1 (pc' := 132) (w_iconst X (0) dX12_tower_131 (by decide)) ?_
        refine g1 (pc' := 133) (w_aload_n X dX12_tower_132 rfl 0 rfl) ?_
        refine g1 (pc' := 136) (gt_12_10 X hk0 mw_939 dX12_tower_133) ?_
        refine g_ltJ (J := 149) (fun j15 => [(0, .ref (xb x + o0)), (2, .int v10)]) (fun j15 => [.int j15, .int (0 : Int32), .ref (xb x + 134)]) (fun j15 => M14) ?_ (fun j15 => ?_)
        · refine g_ifS (pcT := 148) (pcF := 139) (w_if_le (tgt := 148) X dX12_tower_136 (by decide)) (fun h16 => ?_) (fun h16 => ?_)
          · refine g1 (pc' := 149) (w_iload_n X dX12_tower_148 rfl 1 rfl) ?_
            exact g_end [0, 1] rfl rfl rfl
          · refine g1 (pc' := 140) (w_aload_n X dX12_tower_139 rfl 0 rfl) ?_
            refine g1 (pc' := 143) (gt_12_21 X hk0 mw_950 dX12_tower_140) ?_
            refine g1 (pc' := 144) (w_iconst X (0) dX12_tower_143 (by decide)) ?_
            refine g1 (pc' := 145) (w_iald X kd_134 (ib_lit (by decide)) dX12_tower_144) ?_
            refine g1 (pc' := 149) (w_goto X dX12_tower_145 (by decide)) ?_
            exact g_end [0, 1] rfl rfl rfl
        · show Gz x 4 149 [(0, .ref (xb x + o0)), (2, .int v10)] [.int j15, .int (0 : Int32), .ref (xb x + 134)] KDF M14 _ _
          refine g_lt (pc' := 150) (fun M17 => [(0, .ref (xb x + o0)), (2, .int v10)]) (fun M17 => []) (fun M17 => M17) (w_iast X Z kd_134 (ib_lit (by decide)) dX12_tower_149) (fun M17 => ?_)
          show Gz x 4 150 [(0, .ref (xb x + o0)), (2, .int v10)] [] KDF M17 _ _
          refine g1 (pc' := 151) (w_aload_n X dX12_tower_150 rfl 0 rfl) ?_
          refine g1 (pc' := 152) (w_aload_n X dX12_tower_151 rfl 0 rfl) ?_
          refine g1 (pc' := 155) (gt_12_12 X hk0 mw_941 dX12_tower_152) ?_
          refine g_ltJ (J := 166) (fun j18 => [(0, .ref (xb x + o0))]) (fun j18 => [.int j18, .ref (xb x + o0)]) (fun j18 => M17) ?_ (fun j18 => ?_)
          · refine g_ifS (pcT := 165) (pcF := 158) (w_if_lt (tgt := 165) X dX12_tower_155 (by decide)) (fun h19 => ?_) (fun h19 => ?_)
            · refine g1 (pc' := 166) (w_iload_n X dX12_tower_165 rfl 1 rfl) ?_
              exact g_end [0] rfl rfl rfl
            · refine g1 (pc' := 159) (w_aload_n X dX12_tower_158 rfl 0 rfl) ?_
              refine g1 (pc' := 162) (gt_12_12 X hk0 mw_941 dX12_tower_159) ?_
              refine g1 (pc' := 166) (w_goto X dX12_tower_162 (by decide)) ?_
              exact g_end [0] rfl rfl rfl
          · show Gz x 4 166 [(0, .ref (xb x + o0))] [.int j18, .ref (xb x + o0)] KDF M17 _ _
            refine g_lt (pc' := 169) (fun M20 => [(0, .ref (xb x + o0))]) (fun M20 => []) (fun M20 => M20) (pt_12_19 X Z hk0 mw_948 dX12_tower_166) (fun M20 => ?_)
            show Gz x 4 169 [(0, .ref (xb x + o0))] [] KDF M20 _ _
            refine g1 (pc' := 170) (w_iconst X (0) dX12_tower_169 (by decide)) ?_
            refine g1 (pc' := 171) (lv' := [(3, .int (0 : Int32)), (0, .ref (xb x + o0))]) (w_istore_n X dX12_tower_170 rfl (by decide) rfl) ?_
            refine g_pick (lv' := [(0, .ref (xb x + o0)), (3, .int (0 : Int32))]) [1, 0] rfl ?_
            refine g_bdJ (J := 190) (fun e25 => [(0, .ref (xb x + o0))]) (fun e25 => []) (fun e25 => e25) (g_lp (fun s171 => [(0, .ref (xb x + o0)), (3, .int s171.1)]) (fun s171 => s171.2) (fun s171 => ?_) 100000 ((0 : Int32), M20)) (fun e25 => ?_)
            · show Gz x 4 171 [(0, .ref (xb x + o0)), (3, .int s171.1)] [] KDF s171.2 (b_X12_tower_171 s171) _
              unfold b_X12_tower_171
              refine g1 (pc' := 172) (w_iload_n X dX12_tower_171 rfl 1 rfl) ?_
              refine g1 (pc' := 174) (w_bipush X (23) dX12_tower_172 (by decide)) ?_
              refine g_if (pcT := 190) (pcF := 177) (w_icmp_ge (tgt := 190) X dX12_tower_174 (by decide)) (fun h21 => ?_) (fun h21 => ?_)
              · refine g_inr ?_
                exact g_end [0] rfl rfl rfl
              · refine g1 (pc' := 178) (w_aload_n X dX12_tower_177 rfl 0 rfl) ?_
                refine g1 (pc' := 181) (gt_12_23 X hk0 mw_952 dX12_tower_178) ?_
                refine g1 (pc' := 182) (w_iload_n X dX12_tower_181 rfl 1 rfl) ?_
                refine g1 (pc' := 183) (w_iconst X (0) dX12_tower_182 (by decide)) ?_
                refine g_gd (fun h22 => ?_)
                refine g_lt (pc' := 184) (fun M23 => [(0, .ref (xb x + o0)), (3, .int s171.1)]) (fun M23 => []) (fun M23 => M23) (w_iast X Z kd_136 h22 dX12_tower_183) (fun M23 => ?_)
                show Gz x 4 184 [(0, .ref (xb x + o0)), (3, .int s171.1)] [] KDF M23 _ _
                refine g_lt (pc' := 187) (fun v24 => [(3, .int v24), (0, .ref (xb x + o0))]) (fun v24 => []) (fun v24 => M23) (w_iinc X dX12_tower_184 1 rfl rfl (by decide) rfl) (fun v24 => ?_)
                show Gz x 4 187 [(3, .int v24), (0, .ref (xb x + o0))] [] KDF M23 _ _
                refine g1 (pc' := 171) (w_goto X dX12_tower_187 (by decide)) ?_
                refine g_inl ?_
                exact g_end [1, 0] rfl rfl rfl
            · show Gz x 4 190 [(0, .ref (xb x + o0))] [] KDF e25 _ _
              refine g1 (pc' := 191) (w_aload_n X dX12_tower_190 rfl 0 rfl) ?_
              refine g1 (pc' := 194) (gt_12_23 X hk0 mw_952 dX12_tower_191) ?_
              refine g_bd (pc' := 197) (fun r26 => [(0, .ref (xb x + o0))]) (fun r26 => []) (fun r26 => r26) (fun r26 h => k_X12_toRounds X hR hN Z (kln_of kd_136) mw_1117 (by decide) (Nat.le_of_ble_eq_true rfl) dX12_tower_194 h) (fun r26 => ?_)
              show Gz x 4 197 [(0, .ref (xb x + o0))] [] KDF r26 _ _
              refine g1 (pc' := 198) (w_iconst X (0) dX12_tower_197 (by decide)) ?_
              refine g1 (pc' := 199) (lv' := [(3, .int (0 : Int32)), (0, .ref (xb x + o0))]) (w_istore_n X dX12_tower_198 rfl (by decide) rfl) ?_
              refine g_pick (lv' := [(0, .ref (xb x + o0)), (3, .int (0 : Int32))]) [1, 0] rfl ?_
              refine g_bdJ (J := 221) (fun e31 => [(0, .ref (xb x + o0))]) (fun e31 => []) (fun e31 => e31) (g_lp (fun s199 => [(0, .ref (xb x + o0)), (3, .int s199.1)]) (fun s199 => s199.2) (fun s199 => ?_) 100000 ((0 : Int32), r26)) (fun e31 => ?_)
              · show Gz x 4 199 [(0, .ref (xb x + o0)), (3, .int s199.1)] [] KDF s199.2 (b_X12_tower_199 s199) _
                unfold b_X12_tower_199
                refine g1 (pc' := 200) (w_iload_n X dX12_tower_199 rfl 1 rfl) ?_
                refine g1 (pc' := 202) (w_bipush X (6) dX12_tower_200 (by decide)) ?_
                refine g_if (pcT := 221) (pcF := 205) (w_icmp_ge (tgt := 221) X dX12_tower_202 (by decide)) (fun h27 => ?_) (fun h27 => ?_)
                · refine g_inr ?_
                  exact g_end [0] rfl rfl rfl
                · refine g1 (pc' := 206) (w_aload_n X dX12_tower_205 rfl 0 rfl) ?_
                  refine g1 (pc' := 209) (gt_12_23 X hk0 mw_952 dX12_tower_206) ?_
                  refine g1 (pc' := 211) (w_bipush X (11) dX12_tower_209 (by decide)) ?_
                  refine g1 (pc' := 212) (w_iload_n X dX12_tower_211 rfl 1 rfl) ?_
                  refine g1 (pc' := 213) (w_iadd X dX12_tower_212) ?_
                  refine g1 (pc' := 214) (w_iload_n X dX12_tower_213 rfl 1 rfl) ?_
                  refine g_gd (fun h28 => ?_)
                  refine g_lt (pc' := 215) (fun M29 => [(0, .ref (xb x + o0)), (3, .int s199.1)]) (fun M29 => []) (fun M29 => M29) (w_iast X Z kd_136 h28 dX12_tower_214) (fun M29 => ?_)
                  show Gz x 4 215 [(0, .ref (xb x + o0)), (3, .int s199.1)] [] KDF M29 _ _
                  refine g_lt (pc' := 218) (fun v30 => [(3, .int v30), (0, .ref (xb x + o0))]) (fun v30 => []) (fun v30 => M29) (w_iinc X dX12_tower_215 1 rfl rfl (by decide) rfl) (fun v30 => ?_)
                  show Gz x 4 218 [(3, .int v30), (0, .ref (xb x + o0))] [] KDF M29 _ _
                  refine g1 (pc' := 199) (w_goto X dX12_tower_218 (by decide)) ?_
                  refine g_inl ?_
                  exact g_end [1, 0] rfl rfl rfl
              · show Gz x 4 221 [(0, .ref (xb x + o0))] [] KDF e31 _ _
                refine g1 (pc' := 222) (w_aload_n X dX12_tower_221 rfl 0 rfl) ?_
                refine g1 (pc' := 223) (w_iconst X (0) dX12_tower_222 (by decide)) ?_
                refine g_lt (pc' := 226) (fun M32 => [(0, .ref (xb x + o0))]) (fun M32 => []) (fun M32 => M32) (pt_12_31 X Z hk0 mw_960 dX12_tower_223) (fun M32 => ?_)
                show Gz x 4 226 [(0, .ref (xb x + o0))] [] KDF M32 _ _
                refine g1 (pc' := 227) (w_aload_n X dX12_tower_226 rfl 0 rfl) ?_
                refine g1 (pc' := 228) (w_iconst X (0) dX12_tower_227 (by decide)) ?_
                refine g_lt (pc' := 231) (fun M33 => [(0, .ref (xb x + o0))]) (fun M33 => []) (fun M33 => M33) (pt_12_33 X Z hk0 mw_962 dX12_tower_228) (fun M33 => ?_)
                show Gz x 4 231 [(0, .ref (xb x + o0))] [] KDF M33 _ _
                refine g1 (pc' := 232) (w_aload_n X dX12_tower_231 rfl 0 rfl) ?_
                refine g1 (pc' := 235) (gt_12_29 X hk0 mw_958 dX12_tower_232) ?_
                refine g1 (pc' := 236) (w_iconst X (0) dX12_tower_235 (by decide)) ?_
                refine g1 (pc' := 237) (w_iconst X (0) dX12_tower_236 (by decide)) ?_
                refine g_lt (pc' := 238) (fun M34 => [(0, .ref (xb x + o0))]) (fun M34 => []) (fun M34 => M34) (w_zast X Z kd_141 (ib_lit (by decide)) dX12_tower_237) (fun M34 => ?_)
                show Gz x 4 238 [(0, .ref (xb x + o0))] [] KDF M34 _ _
                refine g1 (pc' := 239) (w_aload_n X dX12_tower_238 rfl 0 rfl) ?_
                refine g1 (pc' := 242) (gt_12_29 X hk0 mw_958 dX12_tower_239) ?_
                refine g1 (pc' := 243) (w_iconst X (1) dX12_tower_242 (by decide)) ?_
                refine g1 (pc' := 244) (w_iconst X (0) dX12_tower_243 (by decide)) ?_
                refine g_lt (pc' := 245) (fun M35 => [(0, .ref (xb x + o0))]) (fun M35 => []) (fun M35 => M35) (w_zast X Z kd_141 (ib_lit (by decide)) dX12_tower_244) (fun M35 => ?_)
                show Gz x 4 245 [(0, .ref (xb x + o0))] [] KDF M35 _ _
                refine g1 (pc' := 246) (w_aload_n X dX12_tower_245 rfl 0 rfl) ?_
                refine g1 (pc' := 247) (w_iconst X (0) dX12_tower_246 (by decide)) ?_
                refine g_lt (pc' := 250) (fun M36 => [(0, .ref (xb x + o0))]) (fun M36 => []) (fun M36 => M36) (pt_12_26 X Z hk0 mw_955 dX12_tower_247) (fun M36 => ?_)
                show Gz x 4 250 [(0, .ref (xb x + o0))] [] KDF M36 _ _
                refine g1 (pc' := 251) (w_aload_n X dX12_tower_250 rfl 0 rfl) ?_
                refine g1 (pc' := 254) (gt_12_16 X hk0 mw_945 dX12_tower_251) ?_
                exact g_rI2 X dX12_tower_254
  exact G _ h _ rfl
theorem k_X12_tower {x : Cxt} {cc : ByteArray} {nL : Nat} {own : String} {ret : Option FieldType} (X : Ok x cc nL own ret) {d : Nat} (hR : Rm x d KDF) (hN : Nst x) (Z : xz x = 0) {pc : Nat} {lv : List (Nat × Value)} {rest : List Value} {M : Mm} {o0 : Nat} (hk0 : KDF[o0]? = some (12, 0)) {idx : Nat} (hw : Cond.methodLink own idx yX12_tower ∈ tbG) (hdd : 8 + 1 ≤ d) (hrm : (rest.map fun v => v.category).sum ≤ 8) (hd : decode cc pc = .ok (.invokevirtual idx, 3)) {r : Int32} {M' : Mm} (h : f_X12_tower o0 M = some (r, M')) : StpZ x nL pc lv (.ref (xb x + o0) :: rest) KDF M (pc + 3) lv (.int r :: rest) KDF M' :=
  w_callV (st := []) (As := []) X hR hN (CtX0 Z (c_X12_tower hk0 h)) ⟨Nat.le_refl _, Nat.le_refl _⟩ ⟨Nat.le_refl _, Nat.le_refl _⟩ hk0 (ci := 12) (fs := fs_12 o0) (fun _ _ _ => rfl) rfl hw mw_1061 mw_1062 mw_72 mw_1063 (n := 0) (by decide +kernel) rfl hdd (by decide) hrm hd
def f_X12_fault (o0 : Nat) (M : Mm) : Int32 :=
  (M o0 7)
set_option maxRecDepth 100000 in
set_option maxHeartbeats 4000000 in
theorem c_X12_fault {l : Launch} {D : va_G} {an : An} {b : Nat} {o0 : Nat} (hk0 : KDF[o0]? = some (12, 0)) {M : Mm}  : Ct l D an b 0 yX12_fault cX12_fault 1 (some .int) 1 [.ref (b + o0)] KDF M (some (.int (f_X12_fault o0 M))) KDF M := by
  refine CtX.mk (as := fun b => [.ref (b + o0)]) (rv := fun b => (some (.int (f_X12_fault o0 M)))) (by decide) (fun b => Nat.le_of_ble_eq_true rfl) ⟨Nat.le_refl _, Nat.le_refl _⟩ (fun x X hR Z hN _ _ => ?_)
  have X : Ok x cX12_fault 1 RX12 (some .int) := X
  have G : Gz x 1 0 [(0, .ref (xb x + o0))] [] KDF M (some (f_X12_fault o0 M)) (PsI x KDF M) := by
    unfold f_X12_fault
    refine g1 (pc' := 1) (w_aload_n X dX12_fault_0 rfl 0 rfl) ?_
    refine g1 (pc' := 4) (gt_12_7 X hk0 mw_936 dX12_fault_1) ?_
    exact g_rI X dX12_fault_4
  exact G _ rfl _ rfl
theorem k_X12_fault {x : Cxt} {cc : ByteArray} {nL : Nat} {own : String} {ret : Option FieldType} (X : Ok x cc nL own ret) {d : Nat} (hR : Rm x d KDF) (hN : Nst x) (Z : xz x = 0) {pc : Nat} {lv : List (Nat × Value)} {rest : List Value} {M : Mm} {o0 : Nat} (hk0 : KDF[o0]? = some (12, 0)) {idx : Nat} (hw : Cond.methodLink own idx yX12_fault ∈ tbG) (hdd : 1 + 1 ≤ d) (hrm : (rest.map fun v => v.category).sum ≤ 8) (hd : decode cc pc = .ok (.invokevirtual idx, 3))  : StpZ x nL pc lv (.ref (xb x + o0) :: rest) KDF M (pc + 3) lv (.int (f_X12_fault o0 M) :: rest) KDF M :=
  w_callV (st := []) (As := []) X hR hN (CtX0 Z (c_X12_fault hk0 )) ⟨Nat.le_refl _, Nat.le_refl _⟩ ⟨Nat.le_refl _, Nat.le_refl _⟩ hk0 (ci := 12) (fs := fs_12 o0) (fun _ _ _ => rfl) rfl hw mw_1121 mw_1122 mw_72 mw_1123 (n := 0) (by decide +kernel) rfl hdd (by decide) hrm hd
def b_X12_figuresOf_4 (o0 : Nat) (o1 : Nat) (M : Mm) (s4 : Int32 × Int32) : Option ((Int32 × Int32) ⊕ (Int32)) :=
  (if (M o0 16) ≤ s4.2 then some (.inr s4.1) else Gd (ib ((5 : Int32) + s4.2) (kln o1)) (Lt ((((10 : Int32) * s4.1) + (M o1 (ix ((5 : Int32) + s4.2)))) + (1 : Int32)) (fun v3 => Lt (s4.2 + (1 : Int32)) (fun v4 => some (.inl (v3, v4))))))
def f_X12_figuresOf (o0 : Nat) (o1 : Nat) (M : Mm) : Option (Int32) :=
  Bd (Lp (b_X12_figuresOf_4 o0 o1 M) 100000 ((0 : Int32), (0 : Int32))) (fun e5 => some e5)
set_option maxRecDepth 100000 in
set_option maxHeartbeats 4000000 in
theorem c_X12_figuresOf {l : Launch} {D : va_G} {an : An} {b : Nat} {o0 : Nat} {o1 : Nat} (hk0 : KDF[o0]? = some (12, 0)) (hk1 : KDF[o1]? = some (13, kln o1)) {M : Mm} {r : Int32} (h : f_X12_figuresOf o0 o1 M = some r) : Ct l D an b 0 yX12_figuresOf cX12_figuresOf 4 (some .int) 1 [.ref (b + o0), .ref (b + o1)] KDF M (some (.int r)) KDF M := by
  refine CtX.mk (as := fun b => [.ref (b + o0), .ref (b + o1)]) (rv := fun b => (some (.int r))) (by decide) (fun b => Nat.le_of_ble_eq_true rfl) ⟨Nat.le_refl _, Nat.le_refl _⟩ (fun x X hR Z hN _ _ => ?_)
  have X : Ok x cX12_figuresOf 4 RX12 (some .int) := X
  have G : Gz x 4 0 [(0, .ref (xb x + o0)), (1, .ref (xb x + o1))] [] KDF M (f_X12_figuresOf o0 o1 M) (PsI x KDF M) := by
    unfold f_X12_figuresOf
    refine g1 (pc' := 1) (w_iconst X (0) dX12_figuresOf_0 (by decide)) ?_
    refine g1 (pc' := 2) (lv' := [(2, .int (0 : Int32)), (0, .ref (xb x + o0)), (1, .ref (xb x + o1))]) (w_istore_n X dX12_figuresOf_1 rfl (by decide) rfl) ?_
    refine g1 (pc' := 3) (w_iconst X (0) dX12_figuresOf_2 (by decide)) ?_
    refine g1 (pc' := 4) (lv' := [(3, .int (0 : Int32)), (2, .int (0 : Int32)), (0, .ref (xb x + o0)), (1, .ref (xb x + o1))]) (w_istore_n X dX12_figuresOf_3 rfl (by decide) rfl) ?_
    refine g_pick (lv' := [(0, .ref (xb x + o0)), (1, .ref (xb x + o1)), (2, .int (0 : Int32)), (3, .int (0 : Int32))]) [2, 3, 1, 0] rfl ?_
    refine g_bdJ (J := 31) (fun e5 => [(2, .int e5)]) (fun e5 => []) (fun e5 => M) (g_lp (fun s4 => [(0, .ref (xb x + o0)), (1, .ref (xb x + o1)), (2, .int s4.1), (3, .int s4.2)]) (fun s4 => M) (fun s4 => ?_) 100000 ((0 : Int32), (0 : Int32))) (fun e5 => ?_)
    · show Gz x 4 4 [(0, .ref (xb x + o0)), (1, .ref (xb x + o1)), (2, .int s4.1), (3, .int s4.2)] [] KDF M (b_X12_figuresOf_4 o0 o1 M s4) _
      unfold b_X12_figuresOf_4
      refine g1 (pc' := 5) (w_iload_n X dX12_figuresOf_4 rfl 3 rfl) ?_
      refine g1 (pc' := 6) (w_aload_n X dX12_figuresOf_5 rfl 0 rfl) ?_
      refine g1 (pc' := 9) (gt_12_16 X hk0 mw_945 dX12_figuresOf_6) ?_
      refine g_if (pcT := 31) (pcF := 12) (w_icmp_ge (tgt := 31) X dX12_figuresOf_9 (by decide)) (fun h1 => ?_) (fun h1 => ?_)
      · refine g_inr ?_
        exact g_end [2] rfl rfl rfl
      · refine g1 (pc' := 14) (w_bipush X (10) dX12_figuresOf_12 (by decide)) ?_
        refine g1 (pc' := 15) (w_iload_n X dX12_figuresOf_14 rfl 2 rfl) ?_
        refine g1 (pc' := 16) (w_imul X dX12_figuresOf_15) ?_
        refine g1 (pc' := 17) (w_aload_n X dX12_figuresOf_16 rfl 1 rfl) ?_
        refine g1 (pc' := 18) (w_iconst X (5) dX12_figuresOf_17 (by decide)) ?_
        refine g1 (pc' := 19) (w_iload_n X dX12_figuresOf_18 rfl 3 rfl) ?_
        refine g1 (pc' := 20) (w_iadd X dX12_figuresOf_19) ?_
        refine g_gd (fun h2 => ?_)
        refine g1 (pc' := 21) (w_iald X hk1 h2 dX12_figuresOf_20) ?_
        refine g1 (pc' := 22) (w_iadd X dX12_figuresOf_21) ?_
        refine g1 (pc' := 23) (w_iconst X (1) dX12_figuresOf_22 (by decide)) ?_
        refine g1 (pc' := 24) (w_iadd X dX12_figuresOf_23) ?_
        refine g_lt (pc' := 25) (fun v3 => [(2, .int v3), (0, .ref (xb x + o0)), (1, .ref (xb x + o1)), (3, .int s4.2)]) (fun v3 => []) (fun v3 => M) (w_istore_n X dX12_figuresOf_24 rfl (by decide) rfl) (fun v3 => ?_)
        show Gz x 4 25 [(2, .int v3), (0, .ref (xb x + o0)), (1, .ref (xb x + o1)), (3, .int s4.2)] [] KDF M _ _
        refine g_lt (pc' := 28) (fun v4 => [(3, .int v4), (2, .int v3), (0, .ref (xb x + o0)), (1, .ref (xb x + o1))]) (fun v4 => []) (fun v4 => M) (w_iinc X dX12_figuresOf_25 3 rfl rfl (by decide) rfl) (fun v4 => ?_)
        show Gz x 4 28 [(3, .int v4), (2, .int v3), (0, .ref (xb x + o0)), (1, .ref (xb x + o1))] [] KDF M _ _
        refine g1 (pc' := 4) (w_goto X dX12_figuresOf_28 (by decide)) ?_
        refine g_inl ?_
        exact g_end [2, 3, 1, 0] rfl rfl rfl
    · show Gz x 4 31 [(2, .int e5)] [] KDF M _ _
      refine g1 (pc' := 32) (w_iload_n X dX12_figuresOf_31 rfl 0 rfl) ?_
      exact g_rI X dX12_figuresOf_32
  exact G _ h _ rfl
theorem k_X12_figuresOf {x : Cxt} {cc : ByteArray} {nL : Nat} {own : String} {ret : Option FieldType} (X : Ok x cc nL own ret) {d : Nat} (hR : Rm x d KDF) (hN : Nst x) (Z : xz x = 0) {pc : Nat} {lv : List (Nat × Value)} {rest : List Value} {M : Mm} {o0 : Nat} {o1 : Nat} (hk0 : KDF[o0]? = some (12, 0)) (hk1 : KDF[o1]? = some (13, kln o1)) {idx : Nat} (hw : Cond.methodLink own idx yX12_figuresOf ∈ tbG) (hdd : 1 + 1 ≤ d) (hrm : (rest.map fun v => v.category).sum ≤ 8) (hd : decode cc pc = .ok (.invokevirtual idx, 3)) {r : Int32} (h : f_X12_figuresOf o0 o1 M = some r) : StpZ x nL pc lv (.ref (xb x + o1) :: .ref (xb x + o0) :: rest) KDF M (pc + 3) lv (.int r :: rest) KDF M :=
  w_callV (st := []) (As := [.ref (xb x + o1)]) X hR hN (CtX0 Z (c_X12_figuresOf hk0 hk1 h)) ⟨Nat.le_refl _, Nat.le_refl _⟩ ⟨Nat.le_refl _, Nat.le_refl _⟩ hk0 (ci := 12) (fs := fs_12 o0) (fun _ _ _ => rfl) rfl hw mw_1130 mw_34 mw_72 mw_1131 (n := 1) (by decide +kernel) rfl hdd (by decide) hrm hd
def b_X12_wedIn_7 (o0 : Nat) (o1 : Nat) (M : Mm) (s7 : Int32 × Int32 × Int32) : Option ((Int32 × Int32 × Int32) ⊕ (Int32 × Int32)) :=
  (if (M o0 18) ≤ s7.2.2 then some (.inr (s7.1, s7.2.1)) else Gd (ib (4 : Int32) (kln o1)) (Lt (((if (f_X12_has (M o1 (ix (4 : Int32))) s7.2.2) = 0 then s7.2.2 else s7.1)) : Int32) (fun j3 => Gd (ib (4 : Int32) (kln o1)) (Lt (((if (f_X12_has (M o1 (ix (4 : Int32))) s7.2.2) = 0 then (1 : Int32) else (0 : Int32))) : Int32) (fun j6 => Lt (s7.2.1 + j6) (fun v8 => Lt (s7.2.2 + (1 : Int32)) (fun v9 => some (.inl (j3, v8, v9)))))))))
def f_X12_wedIn (o0 : Nat) (o1 : Nat) (M : Mm) : Option (Int32) :=
  Bd (Lp (b_X12_wedIn_7 o0 o1 M) 100000 ((-1 : Int32), (0 : Int32), (0 : Int32))) (fun e10 => (if (M o0 18) ≤ (1 : Int32) then some (-1 : Int32) else (if e10.2 = (1 : Int32) then some e10.1 else some (-1 : Int32))))
set_option maxRecDepth 100000 in
set_option maxHeartbeats 4000000 in
theorem c_X12_wedIn {l : Launch} {D : va_G} {an : An} {b : Nat} {o0 : Nat} {o1 : Nat} (hk0 : KDF[o0]? = some (12, 0)) (hk1 : KDF[o1]? = some (13, kln o1)) {M : Mm} {r : Int32} (h : f_X12_wedIn o0 o1 M = some r) : Ct l D an b 0 yX12_wedIn cX12_wedIn 5 (some .int) 2 [.ref (b + o0), .ref (b + o1)] KDF M (some (.int r)) KDF M := by
  refine CtX.mk (as := fun b => [.ref (b + o0), .ref (b + o1)]) (rv := fun b => (some (.int r))) (by decide) (fun b => Nat.le_of_ble_eq_true rfl) ⟨Nat.le_refl _, Nat.le_refl _⟩ (fun x X hR Z hN _ _ => ?_)
  have X : Ok x cX12_wedIn 5 RX12 (some .int) := X
  have G : Gz x 5 0 [(0, .ref (xb x + o0)), (1, .ref (xb x + o1))] [] KDF M (f_X12_wedIn o0 o1 M) (PsI x KDF M) := by
    unfold f_X12_wedIn
    refine g1 (pc' := 1) (w_iconst X (-1) dX12_wedIn_0 (by decide)) ?_
    refine g1 (pc' := 2) (lv' := [(2, .int (-1 : Int32)), (0, .ref (xb x + o0)), (1, .ref (xb x + o1))]) (w_istore_n X dX12_wedIn_1 rfl (by decide) rfl) ?_
    refine g1 (pc' := 3) (w_iconst X (0) dX12_wedIn_2 (by decide)) ?_
    refine g1 (pc' := 4) (lv' := [(3, .int (0 : Int32)), (2, .int (-1 : Int32)), (0, .ref (xb x + o0)), (1, .ref (xb x + o1))]) (w_istore_n X dX12_wedIn_3 rfl (by decide) rfl) ?_
    refine g1 (pc' := 5) (w_iconst X (0) dX12_wedIn_4 (by decide)) ?_
    refine g1 (pc' := 7) (lv' := [(4, .int (0 : Int32)), (3, .int (0 : Int32)), (2, .int (-1 : Int32)), (0, .ref (xb x + o0)), (1, .ref (xb x + o1))]) (w_istore X dX12_wedIn_5 (by decide) rfl) ?_
    refine g_pick (lv' := [(0, .ref (xb x + o0)), (1, .ref (xb x + o1)), (2, .int (-1 : Int32)), (3, .int (0 : Int32)), (4, .int (0 : Int32))]) [3, 4, 2, 1, 0] rfl ?_
    refine g_bdJ (J := 59) (fun e10 => [(0, .ref (xb x + o0)), (2, .int e10.1), (3, .int e10.2)]) (fun e10 => []) (fun e10 => M) (g_lp (fun s7 => [(0, .ref (xb x + o0)), (1, .ref (xb x + o1)), (2, .int s7.1), (3, .int s7.2.1), (4, .int s7.2.2)]) (fun s7 => M) (fun s7 => ?_) 100000 ((-1 : Int32), (0 : Int32), (0 : Int32))) (fun e10 => ?_)
    · show Gz x 5 7 [(0, .ref (xb x + o0)), (1, .ref (xb x + o1)), (2, .int s7.1), (3, .int s7.2.1), (4, .int s7.2.2)] [] KDF M (b_X12_wedIn_7 o0 o1 M s7) _
      unfold b_X12_wedIn_7
      refine g1 (pc' := 9) (w_iload X dX12_wedIn_7 4 rfl) ?_
      refine g1 (pc' := 10) (w_aload_n X dX12_wedIn_9 rfl 0 rfl) ?_
      refine g1 (pc' := 13) (gt_12_18 X hk0 mw_947 dX12_wedIn_10) ?_
      refine g_if (pcT := 59) (pcF := 16) (w_icmp_ge (tgt := 59) X dX12_wedIn_13 (by decide)) (fun h1 => ?_) (fun h1 => ?_)
      · refine g_inr ?_
        exact g_end [0, 2, 3] rfl rfl rfl
      · refine g1 (pc' := 17) (w_aload_n X dX12_wedIn_16 rfl 1 rfl) ?_
        refine g1 (pc' := 18) (w_iconst X (4) dX12_wedIn_17 (by decide)) ?_
        refine g_gd (fun h2 => ?_)
        refine g1 (pc' := 19) (w_iald X hk1 h2 dX12_wedIn_18) ?_
        refine g1 (pc' := 21) (w_iload X dX12_wedIn_19 4 rfl) ?_
        refine g1 (pc' := 24) (k_X12_has X hR hN Z  mw_1099 (by decide) (Nat.le_of_ble_eq_true rfl) dX12_wedIn_21) ?_
        refine g_ltJ (J := 33) (fun j3 => [(0, .ref (xb x + o0)), (1, .ref (xb x + o1)), (3, .int s7.2.1), (4, .int s7.2.2)]) (fun j3 => [.int j3]) (fun j3 => M) ?_ (fun j3 => ?_)
        · refine g_ifS (pcT := 31) (pcF := 27) (w_if_eq (tgt := 31) X dX12_wedIn_24 (by decide)) (fun h4 => ?_) (fun h4 => ?_)
          · refine g1 (pc' := 33) (w_iload X dX12_wedIn_31 4 rfl) ?_
            exact g_end [0, 1, 3, 4] rfl rfl rfl
          · refine g1 (pc' := 28) (w_iload_n X dX12_wedIn_27 rfl 2 rfl) ?_
            refine g1 (pc' := 33) (w_goto X dX12_wedIn_28 (by decide)) ?_
            exact g_end [0, 1, 3, 4] rfl rfl rfl
        · show Gz x 5 33 [(0, .ref (xb x + o0)), (1, .ref (xb x + o1)), (3, .int s7.2.1), (4, .int s7.2.2)] [.int j3] KDF M _ _
          refine g1 (pc' := 34) (lv' := [(2, .int j3), (0, .ref (xb x + o0)), (1, .ref (xb x + o1)), (3, .int s7.2.1), (4, .int s7.2.2)]) (w_istore_n X dX12_wedIn_33 rfl (by decide) rfl) ?_
          refine g1 (pc' := 35) (w_iload_n X dX12_wedIn_34 rfl 3 rfl) ?_
          refine g1 (pc' := 36) (w_aload_n X dX12_wedIn_35 rfl 2 rfl) ?_
          refine g1 (pc' := 37) (w_iconst X (4) dX12_wedIn_36 (by decide)) ?_
          refine g_gd (fun h5 => ?_)
          refine g1 (pc' := 38) (w_iald X hk1 h5 dX12_wedIn_37) ?_
          refine g1 (pc' := 40) (w_iload X dX12_wedIn_38 4 rfl) ?_
          refine g1 (pc' := 43) (k_X12_has X hR hN Z  mw_1099 (by decide) (Nat.le_of_ble_eq_true rfl) dX12_wedIn_40) ?_
          refine g_ltJ (J := 51) (fun j6 => [(0, .ref (xb x + o0)), (1, .ref (xb x + o1)), (2, .int j3), (4, .int s7.2.2)]) (fun j6 => [.int j6, .int s7.2.1]) (fun j6 => M) ?_ (fun j6 => ?_)
          · refine g_ifS (pcT := 50) (pcF := 46) (w_if_eq (tgt := 50) X dX12_wedIn_43 (by decide)) (fun h7 => ?_) (fun h7 => ?_)
            · refine g1 (pc' := 51) (w_iconst X (1) dX12_wedIn_50 (by decide)) ?_
              exact g_end [1, 2, 0, 4] rfl rfl rfl
            · refine g1 (pc' := 47) (w_iconst X (0) dX12_wedIn_46 (by decide)) ?_
              refine g1 (pc' := 51) (w_goto X dX12_wedIn_47 (by decide)) ?_
              exact g_end [1, 2, 0, 4] rfl rfl rfl
          · show Gz x 5 51 [(0, .ref (xb x + o0)), (1, .ref (xb x + o1)), (2, .int j3), (4, .int s7.2.2)] [.int j6, .int s7.2.1] KDF M _ _
            refine g1 (pc' := 52) (w_iadd X dX12_wedIn_51) ?_
            refine g_lt (pc' := 53) (fun v8 => [(3, .int v8), (0, .ref (xb x + o0)), (1, .ref (xb x + o1)), (2, .int j3), (4, .int s7.2.2)]) (fun v8 => []) (fun v8 => M) (w_istore_n X dX12_wedIn_52 rfl (by decide) rfl) (fun v8 => ?_)
            show Gz x 5 53 [(3, .int v8), (0, .ref (xb x + o0)), (1, .ref (xb x + o1)), (2, .int j3), (4, .int s7.2.2)] [] KDF M _ _
            refine g_lt (pc' := 56) (fun v9 => [(4, .int v9), (3, .int v8), (0, .ref (xb x + o0)), (1, .ref (xb x + o1)), (2, .int j3)]) (fun v9 => []) (fun v9 => M) (w_iinc X dX12_wedIn_53 4 rfl rfl (by decide) rfl) (fun v9 => ?_)
            show Gz x 5 56 [(4, .int v9), (3, .int v8), (0, .ref (xb x + o0)), (1, .ref (xb x + o1)), (2, .int j3)] [] KDF M _ _
            refine g1 (pc' := 7) (w_goto X dX12_wedIn_56 (by decide)) ?_
            refine g_inl ?_
            exact g_end [2, 3, 4, 1, 0] rfl rfl rfl
    · show Gz x 5 59 [(0, .ref (xb x + o0)), (2, .int e10.1), (3, .int e10.2)] [] KDF M _ _
      refine g1 (pc' := 60) (w_aload_n X dX12_wedIn_59 rfl 0 rfl) ?_
      refine g1 (pc' := 63) (gt_12_18 X hk0 mw_947 dX12_wedIn_60) ?_
      refine g1 (pc' := 64) (w_iconst X (1) dX12_wedIn_63 (by decide)) ?_
      refine g_if (pcT := 76) (pcF := 67) (w_icmp_le (tgt := 76) X dX12_wedIn_64 (by decide)) (fun h11 => ?_) (fun h11 => ?_)
      · refine g1 (pc' := 77) (w_iconst X (-1) dX12_wedIn_76 (by decide)) ?_
        exact g_rI X dX12_wedIn_77
      · refine g1 (pc' := 68) (w_iload_n X dX12_wedIn_67 rfl 2 rfl) ?_
        refine g1 (pc' := 69) (w_iconst X (1) dX12_wedIn_68 (by decide)) ?_
        refine g_if (pcT := 72) (pcF := 76) (w_icmp_ne (tgt := 76) X dX12_wedIn_69 (by decide)) (fun h12 => ?_) (fun h12 => ?_)
        · refine g1 (pc' := 73) (w_iload_n X dX12_wedIn_72 rfl 1 rfl) ?_
          refine g1 (pc' := 77) (w_goto X dX12_wedIn_73 (by decide)) ?_
          exact g_rI X dX12_wedIn_77
        · refine g1 (pc' := 77) (w_iconst X (-1) dX12_wedIn_76 (by decide)) ?_
          exact g_rI X dX12_wedIn_77
  exact G _ h _ rfl
theorem k_X12_wedIn {x : Cxt} {cc : ByteArray} {nL : Nat} {own : String} {ret : Option FieldType} (X : Ok x cc nL own ret) {d : Nat} (hR : Rm x d KDF) (hN : Nst x) (Z : xz x = 0) {pc : Nat} {lv : List (Nat × Value)} {rest : List Value} {M : Mm} {o0 : Nat} {o1 : Nat} (hk0 : KDF[o0]? = some (12, 0)) (hk1 : KDF[o1]? = some (13, kln o1)) {idx : Nat} (hw : Cond.methodLink own idx yX12_wedIn ∈ tbG) (hdd : 2 + 1 ≤ d) (hrm : (rest.map fun v => v.category).sum ≤ 8) (hd : decode cc pc = .ok (.invokevirtual idx, 3)) {r : Int32} (h : f_X12_wedIn o0 o1 M = some r) : StpZ x nL pc lv (.ref (xb x + o1) :: .ref (xb x + o0) :: rest) KDF M (pc + 3) lv (.int r :: rest) KDF M :=
  w_callV (st := []) (As := [.ref (xb x + o1)]) X hR hN (CtX0 Z (c_X12_wedIn hk0 hk1 h)) ⟨Nat.le_refl _, Nat.le_refl _⟩ ⟨Nat.le_refl _, Nat.le_refl _⟩ hk0 (ci := 12) (fs := fs_12 o0) (fun _ _ _ => rfl) rfl hw mw_1134 mw_35 mw_72 mw_1135 (n := 1) (by decide +kernel) rfl hdd (by decide) hrm hd
def b_X12_changes_2 (o0 : Nat) (o1 : Nat) (x2 : Int32) (s2 : Int32 × Mm) : Option ((Int32 × Mm) ⊕ (Mm)) :=
  (if (s2.2 o0 16) ≤ s2.1 then some (.inr s2.2) else (if (f_X12_has x2 s2.1) = 0 then Gd (ib ((5 : Int32) + s2.1) (kln o1)) (Lt (s2.2 o1 (ix ((5 : Int32) + s2.1))) (fun v4 => Gd (ib (((5 : Int32) + s2.1) + (1 : Int32)) (kln o1)) (Gd (ib ((5 : Int32) + s2.1) (kln o1)) (Lt (st2 s2.2 o1 (ix ((5 : Int32) + s2.1)) (s2.2 o1 (ix (((5 : Int32) + s2.1) + (1 : Int32))))) (fun M7 => Gd (ib (((5 : Int32) + s2.1) + (1 : Int32)) (kln o1)) (Lt (st2 M7 o1 (ix (((5 : Int32) + s2.1) + (1 : Int32))) v4) (fun M9 => Lt (s2.1 + (2 : Int32)) (fun v10 => some (.inl (v10, M9)))))))))) else Lt (s2.1 + (1 : Int32)) (fun v11 => some (.inl (v11, s2.2)))))
def f_X12_changes (o0 : Nat) (o1 : Nat) (x2 : Int32) (M : Mm) : Option (Mm) :=
  Bd (Lp (b_X12_changes_2 o0 o1 x2) 100000 ((0 : Int32), M)) (fun e12 => some e12)
set_option maxRecDepth 100000 in
set_option maxHeartbeats 4000000 in
theorem c_X12_changes {l : Launch} {D : va_G} {an : An} {b : Nat} {o0 : Nat} {o1 : Nat} {x2 : Int32} (hk0 : KDF[o0]? = some (12, 0)) (hk1 : KDF[o1]? = some (13, kln o1)) {M : Mm} {M' : Mm} (h : f_X12_changes o0 o1 x2 M = some M') : Ct l D an b 0 yX12_changes cX12_changes 5 none 2 [.ref (b + o0), .ref (b + o1), .int x2] KDF M none KDF M' := by
  refine CtX.mk (as := fun b => [.ref (b + o0), .ref (b + o1), .int x2]) (rv := fun b => none) (by decide) (fun b => Nat.le_of_ble_eq_true rfl) ⟨Nat.le_refl _, Nat.le_refl _⟩ (fun x X hR Z hN _ _ => ?_)
  have X : Ok x cX12_changes 5 RX12 none := X
  have G : Gz x 5 0 [(0, .ref (xb x + o0)), (1, .ref (xb x + o1)), (2, .int x2)] [] KDF M (f_X12_changes o0 o1 x2 M) (PsM x KDF) := by
    unfold f_X12_changes
    refine g1 (pc' := 1) (w_iconst X (0) dX12_changes_0 (by decide)) ?_
    refine g1 (pc' := 2) (lv' := [(3, .int (0 : Int32)), (0, .ref (xb x + o0)), (1, .ref (xb x + o1)), (2, .int x2)]) (w_istore_n X dX12_changes_1 rfl (by decide) rfl) ?_
    refine g_pick (lv' := [(0, .ref (xb x + o0)), (1, .ref (xb x + o1)), (2, .int x2), (3, .int (0 : Int32))]) [1, 2, 3, 0] rfl ?_
    refine g_bdJ (J := 58) (fun e12 => []) (fun e12 => []) (fun e12 => e12) (g_lp (fun s2 => [(0, .ref (xb x + o0)), (1, .ref (xb x + o1)), (2, .int x2), (3, .int s2.1)]) (fun s2 => s2.2) (fun s2 => ?_) 100000 ((0 : Int32), M)) (fun e12 => ?_)
    · show Gz x 5 2 [(0, .ref (xb x + o0)), (1, .ref (xb x + o1)), (2, .int x2), (3, .int s2.1)] [] KDF s2.2 (b_X12_changes_2 o0 o1 x2 s2) _
      unfold b_X12_changes_2
      refine g1 (pc' := 3) (w_iload_n X dX12_changes_2 rfl 3 rfl) ?_
      refine g1 (pc' := 4) (w_aload_n X dX12_changes_3 rfl 0 rfl) ?_
      refine g1 (pc' := 7) (gt_12_16 X hk0 mw_945 dX12_changes_4) ?_
      refine g_if (pcT := 58) (pcF := 10) (w_icmp_ge (tgt := 58) X dX12_changes_7 (by decide)) (fun h1 => ?_) (fun h1 => ?_)
      · refine g_inr ?_
        exact g_end [] rfl rfl rfl
      · refine g1 (pc' := 11) (w_iload_n X dX12_changes_10 rfl 2 rfl) ?_
        refine g1 (pc' := 12) (w_iload_n X dX12_changes_11 rfl 3 rfl) ?_
        refine g1 (pc' := 15) (k_X12_has X hR hN Z  mw_1099 (by decide) (Nat.le_of_ble_eq_true rfl) dX12_changes_12) ?_
        refine g_if (pcT := 24) (pcF := 18) (w_if_eq (tgt := 24) X dX12_changes_15 (by decide)) (fun h2 => ?_) (fun h2 => ?_)
        · refine g1 (pc' := 25) (w_aload_n X dX12_changes_24 rfl 1 rfl) ?_
          refine g1 (pc' := 26) (w_iconst X (5) dX12_changes_25 (by decide)) ?_
          refine g1 (pc' := 27) (w_iload_n X dX12_changes_26 rfl 3 rfl) ?_
          refine g1 (pc' := 28) (w_iadd X dX12_changes_27) ?_
          refine g_gd (fun h3 => ?_)
          refine g1 (pc' := 29) (w_iald X hk1 h3 dX12_changes_28) ?_
          refine g_lt (pc' := 31) (fun v4 => [(4, .int v4), (0, .ref (xb x + o0)), (1, .ref (xb x + o1)), (2, .int x2), (3, .int s2.1)]) (fun v4 => []) (fun v4 => s2.2) (w_istore X dX12_changes_29 (by decide) rfl) (fun v4 => ?_)
          show Gz x 5 31 [(4, .int v4), (0, .ref (xb x + o0)), (1, .ref (xb x + o1)), (2, .int x2), (3, .int s2.1)] [] KDF s2.2 _ _
          refine g1 (pc' := 32) (w_aload_n X dX12_changes_31 rfl 2 rfl) ?_
          refine g1 (pc' := 33) (w_iconst X (5) dX12_changes_32 (by decide)) ?_
          refine g1 (pc' := 34) (w_iload_n X dX12_changes_33 rfl 4 rfl) ?_
          refine g1 (pc' := 35) (w_iadd X dX12_changes_34) ?_
          refine g1 (pc' := 36) (w_aload_n X dX12_changes_35 rfl 2 rfl) ?_
          refine g1 (pc' := 37) (w_iconst X (5) dX12_changes_36 (by decide)) ?_
          refine g1 (pc' := 38) (w_iload_n X dX12_changes_37 rfl 4 rfl) ?_
          refine g1 (pc' := 39) (w_iadd X dX12_changes_38) ?_
          refine g1 (pc' := 40) (w_iconst X (1) dX12_changes_39 (by decide)) ?_
          refine g1 (pc' := 41) (w_iadd X dX12_changes_40) ?_
          refine g_gd (fun h5 => ?_)
          refine g1 (pc' := 42) (w_iald X hk1 h5 dX12_changes_41) ?_
          refine g_gd (fun h6 => ?_)
          refine g_lt (pc' := 43) (fun M7 => [(4, .int v4), (0, .ref (xb x + o0)), (1, .ref (xb x + o1)), (2, .int x2), (3, .int s2.1)]) (fun M7 => []) (fun M7 => M7) (w_iast X Z hk1 h6 dX12_changes_42) (fun M7 => ?_)
          show Gz x 5 43 [(4, .int v4), (0, .ref (xb x + o0)), (1, .ref (xb x + o1)), (2, .int x2), (3, .int s2.1)] [] KDF M7 _ _
          refine g1 (pc' := 44) (w_aload_n X dX12_changes_43 rfl 2 rfl) ?_
          refine g1 (pc' := 45) (w_iconst X (5) dX12_changes_44 (by decide)) ?_
          refine g1 (pc' := 46) (w_iload_n X dX12_changes_45 rfl 4 rfl) ?_
          refine g1 (pc' := 47) (w_iadd X dX12_changes_46) ?_
          refine g1 (pc' := 48) (w_iconst X (1) dX12_changes_47 (by decide)) ?_
          refine g1 (pc' := 49) (w_iadd X dX12_changes_48) ?_
          refine g1 (pc' := 51) (w_iload X dX12_changes_49 0 rfl) ?_
          refine g_gd (fun h8 => ?_)
          refine g_lt (pc' := 52) (fun M9 => [(4, .int v4), (0, .ref (xb x + o0)), (1, .ref (xb x + o1)), (2, .int x2), (3, .int s2.1)]) (fun M9 => []) (fun M9 => M9) (w_iast X Z hk1 h8 dX12_changes_51) (fun M9 => ?_)
          show Gz x 5 52 [(4, .int v4), (0, .ref (xb x + o0)), (1, .ref (xb x + o1)), (2, .int x2), (3, .int s2.1)] [] KDF M9 _ _
          refine g_lt (pc' := 55) (fun v10 => [(3, .int v10), (4, .int v4), (0, .ref (xb x + o0)), (1, .ref (xb x + o1)), (2, .int x2)]) (fun v10 => []) (fun v10 => M9) (w_iinc X dX12_changes_52 4 rfl rfl (by decide) rfl) (fun v10 => ?_)
          show Gz x 5 55 [(3, .int v10), (4, .int v4), (0, .ref (xb x + o0)), (1, .ref (xb x + o1)), (2, .int x2)] [] KDF M9 _ _
          refine g1 (pc' := 2) (w_goto X dX12_changes_55 (by decide)) ?_
          refine g_inl ?_
          exact g_end [2, 3, 4, 0] rfl rfl rfl
        · refine g_lt (pc' := 21) (fun v11 => [(3, .int v11), (0, .ref (xb x + o0)), (1, .ref (xb x + o1)), (2, .int x2)]) (fun v11 => []) (fun v11 => s2.2) (w_iinc X dX12_changes_18 3 rfl rfl (by decide) rfl) (fun v11 => ?_)
          show Gz x 5 21 [(3, .int v11), (0, .ref (xb x + o0)), (1, .ref (xb x + o1)), (2, .int x2)] [] KDF s2.2 _ _
          refine g1 (pc' := 2) (w_goto X dX12_changes_21 (by decide)) ?_
          refine g_inl ?_
          exact g_end [1, 2, 3, 0] rfl rfl rfl
    · show Gz x 5 58 [] [] KDF e12 _ _
      exact g_rM X dX12_changes_58
  exact G _ h _ rfl
theorem k_X12_changes {x : Cxt} {cc : ByteArray} {nL : Nat} {own : String} {ret : Option FieldType} (X : Ok x cc nL own ret) {d : Nat} (hR : Rm x d KDF) (hN : Nst x) (Z : xz x = 0) {pc : Nat} {lv : List (Nat × Value)} {rest : List Value} {M : Mm} {o0 : Nat} {o1 : Nat} {x2 : Int32} (hk0 : KDF[o0]? = some (12, 0)) (hk1 : KDF[o1]? = some (13, kln o1)) {idx : Nat} (hw : Cond.methodLink own idx yX12_changes ∈ tbG) (hdd : 2 + 1 ≤ d) (hrm : (rest.map fun v => v.category).sum ≤ 8) (hd : decode cc pc = .ok (.invokevirtual idx, 3)) {M' : Mm} (h : f_X12_changes o0 o1 x2 M = some M') : StpZ x nL pc lv (.int x2 :: .ref (xb x + o1) :: .ref (xb x + o0) :: rest) KDF M (pc + 3) lv (rest) KDF M' :=
  w_callV (st := []) (As := [.ref (xb x + o1), .int x2]) X hR hN (CtX0 Z (c_X12_changes hk0 hk1 h)) ⟨Nat.le_refl _, Nat.le_refl _⟩ ⟨Nat.le_refl _, Nat.le_refl _⟩ hk0 (ci := 12) (fs := fs_12 o0) (fun _ _ _ => rfl) rfl hw mw_1146 mw_38 mw_72 mw_1147 (n := 2) (by decide +kernel) rfl hdd (by decide) hrm hd
def b_X12_layTrue_9 (o0 : Nat) (x1 : Int32) (s9 : Int32 × Mm) : Option ((Int32 × Mm) ⊕ (Mm)) :=
  (if x1 ≤ s9.1 then some (.inr s9.2) else Gd (¬ (s9.2 o0 17) = 0) (Gd (ib (rm s9.1 (s9.2 o0 17)) 12) (Bd (f_X12_changes o0 137 (s9.2 134 (ix (rm s9.1 (s9.2 o0 17)))) s9.2) (fun r5 => Lt (s9.1 + (1 : Int32)) (fun v6 => some (.inl (v6, r5)))))))
def f_X12_layTrue (o0 : Nat) (x1 : Int32) (M : Mm) : Option (Mm) :=
  Bd (f_X12_toRounds 137 M) (fun r1 => Bd (Lp (b_X12_layTrue_9 o0 x1) 100000 ((0 : Int32), r1)) (fun e7 => some e7))
set_option maxRecDepth 100000 in
set_option maxHeartbeats 4000000 in
theorem c_X12_layTrue {l : Launch} {D : va_G} {an : An} {b : Nat} {o0 : Nat} {x1 : Int32} (hk0 : KDF[o0]? = some (12, 0)) {M : Mm} {M' : Mm} (h : f_X12_layTrue o0 x1 M = some M') : Ct l D an b 0 yX12_layTrue cX12_layTrue 3 none 3 [.ref (b + o0), .int x1] KDF M none KDF M' := by
  refine CtX.mk (as := fun b => [.ref (b + o0), .int x1]) (rv := fun b => none) (by decide) (fun b => Nat.le_of_ble_eq_true rfl) ⟨Nat.le_refl _, Nat.le_refl _⟩ (fun x X hR Z hN _ _ => ?_)
  have X : Ok x cX12_layTrue 3 RX12 none := X
  have G : Gz x 3 0 [(0, .ref (xb x + o0)), (1, .int x1)] [] KDF M (f_X12_layTrue o0 x1 M) (PsM x KDF) := by
    unfold f_X12_layTrue
    refine g1 (pc' := 1) (w_aload_n X dX12_layTrue_0 rfl 0 rfl) ?_
    refine g1 (pc' := 4) (gt_12_24 X hk0 mw_953 dX12_layTrue_1) ?_
    refine g_bd (pc' := 7) (fun r1 => [(0, .ref (xb x + o0)), (1, .int x1)]) (fun r1 => []) (fun r1 => r1) (fun r1 h => k_X12_toRounds X hR hN Z (kln_of kd_137) mw_1117 (by decide) (Nat.le_of_ble_eq_true rfl) dX12_layTrue_4 h) (fun r1 => ?_)
    show Gz x 3 7 [(0, .ref (xb x + o0)), (1, .int x1)] [] KDF r1 _ _
    refine g1 (pc' := 8) (w_iconst X (0) dX12_layTrue_7 (by decide)) ?_
    refine g1 (pc' := 9) (lv' := [(2, .int (0 : Int32)), (0, .ref (xb x + o0)), (1, .int x1)]) (w_istore_n X dX12_layTrue_8 rfl (by decide) rfl) ?_
    refine g_pick (lv' := [(0, .ref (xb x + o0)), (1, .int x1), (2, .int (0 : Int32))]) [1, 2, 0] rfl ?_
    refine g_bdJ (J := 39) (fun e7 => []) (fun e7 => []) (fun e7 => e7) (g_lp (fun s9 => [(0, .ref (xb x + o0)), (1, .int x1), (2, .int s9.1)]) (fun s9 => s9.2) (fun s9 => ?_) 100000 ((0 : Int32), r1)) (fun e7 => ?_)
    · show Gz x 3 9 [(0, .ref (xb x + o0)), (1, .int x1), (2, .int s9.1)] [] KDF s9.2 (b_X12_layTrue_9 o0 x1 s9) _
      unfold b_X12_layTrue_9
      refine g1 (pc' := 10) (w_iload_n X dX12_layTrue_9 rfl 2 rfl) ?_
      refine g1 (pc' := 11) (w_iload_n X dX12_layTrue_10 rfl 1 rfl) ?_
      refine g_if (pcT := 39) (pcF := 14) (w_icmp_ge (tgt := 39) X dX12_layTrue_11 (by decide)) (fun h2 => ?_) (fun h2 => ?_)
      · refine g_inr ?_
        exact g_end [] rfl rfl rfl
      · refine g1 (pc' := 15) (w_aload_n X dX12_layTrue_14 rfl 0 rfl) ?_
        refine g1 (pc' := 16) (w_aload_n X dX12_layTrue_15 rfl 0 rfl) ?_
        refine g1 (pc' := 19) (gt_12_24 X hk0 mw_953 dX12_layTrue_16) ?_
        refine g1 (pc' := 20) (w_aload_n X dX12_layTrue_19 rfl 0 rfl) ?_
        refine g1 (pc' := 23) (gt_12_21 X hk0 mw_950 dX12_layTrue_20) ?_
        refine g1 (pc' := 24) (w_iload_n X dX12_layTrue_23 rfl 2 rfl) ?_
        refine g1 (pc' := 25) (w_aload_n X dX12_layTrue_24 rfl 0 rfl) ?_
        refine g1 (pc' := 28) (gt_12_17 X hk0 mw_946 dX12_layTrue_25) ?_
        refine g_gd (fun h3 => ?_)
        refine g1 (pc' := 29) (w_irem X dX12_layTrue_28 h3) ?_
        refine g_gd (fun h4 => ?_)
        refine g1 (pc' := 30) (w_iald X kd_134 h4 dX12_layTrue_29) ?_
        refine g_bd (pc' := 33) (fun r5 => [(0, .ref (xb x + o0)), (1, .int x1), (2, .int s9.1)]) (fun r5 => []) (fun r5 => r5) (fun r5 h => k_X12_changes X hR hN Z hk0 (kln_of kd_137) mw_1144 (by decide) (Nat.le_of_ble_eq_true rfl) dX12_layTrue_30 h) (fun r5 => ?_)
        show Gz x 3 33 [(0, .ref (xb x + o0)), (1, .int x1), (2, .int s9.1)] [] KDF r5 _ _
        refine g_lt (pc' := 36) (fun v6 => [(2, .int v6), (0, .ref (xb x + o0)), (1, .int x1)]) (fun v6 => []) (fun v6 => r5) (w_iinc X dX12_layTrue_33 2 rfl rfl (by decide) rfl) (fun v6 => ?_)
        show Gz x 3 36 [(2, .int v6), (0, .ref (xb x + o0)), (1, .int x1)] [] KDF r5 _ _
        refine g1 (pc' := 9) (w_goto X dX12_layTrue_36 (by decide)) ?_
        refine g_inl ?_
        exact g_end [1, 2, 0] rfl rfl rfl
    · show Gz x 3 39 [] [] KDF e7 _ _
      exact g_rM X dX12_layTrue_39
  exact G _ h _ rfl
theorem k_X12_layTrue {x : Cxt} {cc : ByteArray} {nL : Nat} {own : String} {ret : Option FieldType} (X : Ok x cc nL own ret) {d : Nat} (hR : Rm x d KDF) (hN : Nst x) (Z : xz x = 0) {pc : Nat} {lv : List (Nat × Value)} {rest : List Value} {M : Mm} {o0 : Nat} {x1 : Int32} (hk0 : KDF[o0]? = some (12, 0)) {idx : Nat} (hw : Cond.methodLink own idx yX12_layTrue ∈ tbG) (hdd : 3 + 1 ≤ d) (hrm : (rest.map fun v => v.category).sum ≤ 8) (hd : decode cc pc = .ok (.invokevirtual idx, 3)) {M' : Mm} (h : f_X12_layTrue o0 x1 M = some M') : StpZ x nL pc lv (.int x1 :: .ref (xb x + o0) :: rest) KDF M (pc + 3) lv (rest) KDF M' :=
  w_callV (st := []) (As := [.int x1]) X hR hN (CtX0 Z (c_X12_layTrue hk0 h)) ⟨Nat.le_refl _, Nat.le_refl _⟩ ⟨Nat.le_refl _, Nat.le_refl _⟩ hk0 (ci := 12) (fs := fs_12 o0) (fun _ _ _ => rfl) rfl hw mw_1142 mw_37 mw_72 mw_1143 (n := 1) (by decide +kernel) rfl hdd (by decide) hrm hd
def b_X12_placeOf_5 (o0 : Nat) (o1 : Nat) (x2 : Int32) (M : Mm) (s5 : Int32 × Int32) : Option ((Int32 × Int32) ⊕ (Int32)) :=
  (if (M o0 16) ≤ s5.2 then some (.inr s5.1) else Gd (ib ((5 : Int32) + s5.2) (kln o1)) (Lt (((if (M o1 (ix ((5 : Int32) + s5.2))) = x2 then s5.2 else s5.1)) : Int32) (fun j3 => Lt (s5.2 + (1 : Int32)) (fun v5 => some (.inl (j3, v5))))))
def f_X12_placeOf (o0 : Nat) (o1 : Nat) (x2 : Int32) (M : Mm) : Option (Int32) :=
  Bd (Lp (b_X12_placeOf_5 o0 o1 x2 M) 100000 ((0 : Int32), (0 : Int32))) (fun e6 => some e6)
set_option maxRecDepth 100000 in
set_option maxHeartbeats 4000000 in
theorem c_X12_placeOf {l : Launch} {D : va_G} {an : An} {b : Nat} {o0 : Nat} {o1 : Nat} {x2 : Int32} (hk0 : KDF[o0]? = some (12, 0)) (hk1 : KDF[o1]? = some (13, kln o1)) {M : Mm} {r : Int32} (h : f_X12_placeOf o0 o1 x2 M = some r) : Ct l D an b 0 yX12_placeOf cX12_placeOf 5 (some .int) 1 [.ref (b + o0), .ref (b + o1), .int x2] KDF M (some (.int r)) KDF M := by
  refine CtX.mk (as := fun b => [.ref (b + o0), .ref (b + o1), .int x2]) (rv := fun b => (some (.int r))) (by decide) (fun b => Nat.le_of_ble_eq_true rfl) ⟨Nat.le_refl _, Nat.le_refl _⟩ (fun x X hR Z hN _ _ => ?_)
  have X : Ok x cX12_placeOf 5 RX12 (some .int) := X
  have G : Gz x 5 0 [(0, .ref (xb x + o0)), (1, .ref (xb x + o1)), (2, .int x2)] [] KDF M (f_X12_placeOf o0 o1 x2 M) (PsI x KDF M) := by
    unfold f_X12_placeOf
    refine g1 (pc' := 1) (w_iconst X (0) dX12_placeOf_0 (by decide)) ?_
    refine g1 (pc' := 2) (lv' := [(3, .int (0 : Int32)), (0, .ref (xb x + o0)), (1, .ref (xb x + o1)), (2, .int x2)]) (w_istore_n X dX12_placeOf_1 rfl (by decide) rfl) ?_
    refine g1 (pc' := 3) (w_iconst X (0) dX12_placeOf_2 (by decide)) ?_
    refine g1 (pc' := 5) (lv' := [(4, .int (0 : Int32)), (3, .int (0 : Int32)), (0, .ref (xb x + o0)), (1, .ref (xb x + o1)), (2, .int x2)]) (w_istore X dX12_placeOf_3 (by decide) rfl) ?_
    refine g_pick (lv' := [(0, .ref (xb x + o0)), (1, .ref (xb x + o1)), (2, .int x2), (3, .int (0 : Int32)), (4, .int (0 : Int32))]) [2, 3, 4, 1, 0] rfl ?_
    refine g_bdJ (J := 37) (fun e6 => [(3, .int e6)]) (fun e6 => []) (fun e6 => M) (g_lp (fun s5 => [(0, .ref (xb x + o0)), (1, .ref (xb x + o1)), (2, .int x2), (3, .int s5.1), (4, .int s5.2)]) (fun s5 => M) (fun s5 => ?_) 100000 ((0 : Int32), (0 : Int32))) (fun e6 => ?_)
    · show Gz x 5 5 [(0, .ref (xb x + o0)), (1, .ref (xb x + o1)), (2, .int x2), (3, .int s5.1), (4, .int s5.2)] [] KDF M (b_X12_placeOf_5 o0 o1 x2 M s5) _
      unfold b_X12_placeOf_5
      refine g1 (pc' := 7) (w_iload X dX12_placeOf_5 4 rfl) ?_
      refine g1 (pc' := 8) (w_aload_n X dX12_placeOf_7 rfl 0 rfl) ?_
      refine g1 (pc' := 11) (gt_12_16 X hk0 mw_945 dX12_placeOf_8) ?_
      refine g_if (pcT := 37) (pcF := 14) (w_icmp_ge (tgt := 37) X dX12_placeOf_11 (by decide)) (fun h1 => ?_) (fun h1 => ?_)
      · refine g_inr ?_
        exact g_end [3] rfl rfl rfl
      · refine g1 (pc' := 15) (w_aload_n X dX12_placeOf_14 rfl 1 rfl) ?_
        refine g1 (pc' := 16) (w_iconst X (5) dX12_placeOf_15 (by decide)) ?_
        refine g1 (pc' := 18) (w_iload X dX12_placeOf_16 4 rfl) ?_
        refine g1 (pc' := 19) (w_iadd X dX12_placeOf_18) ?_
        refine g_gd (fun h2 => ?_)
        refine g1 (pc' := 20) (w_iald X hk1 h2 dX12_placeOf_19) ?_
        refine g1 (pc' := 21) (w_iload_n X dX12_placeOf_20 rfl 2 rfl) ?_
        refine g_ltJ (J := 30) (fun j3 => [(0, .ref (xb x + o0)), (1, .ref (xb x + o1)), (2, .int x2), (4, .int s5.2)]) (fun j3 => [.int j3]) (fun j3 => M) ?_ (fun j3 => ?_)
        · refine g_ifS (pcT := 24) (pcF := 29) (w_icmp_ne (tgt := 29) X dX12_placeOf_21 (by decide)) (fun h4 => ?_) (fun h4 => ?_)
          · refine g1 (pc' := 26) (w_iload X dX12_placeOf_24 4 rfl) ?_
            refine g1 (pc' := 30) (w_goto X dX12_placeOf_26 (by decide)) ?_
            exact g_end [0, 1, 2, 4] rfl rfl rfl
          · refine g1 (pc' := 30) (w_iload_n X dX12_placeOf_29 rfl 3 rfl) ?_
            exact g_end [0, 1, 2, 4] rfl rfl rfl
        · show Gz x 5 30 [(0, .ref (xb x + o0)), (1, .ref (xb x + o1)), (2, .int x2), (4, .int s5.2)] [.int j3] KDF M _ _
          refine g1 (pc' := 31) (lv' := [(3, .int j3), (0, .ref (xb x + o0)), (1, .ref (xb x + o1)), (2, .int x2), (4, .int s5.2)]) (w_istore_n X dX12_placeOf_30 rfl (by decide) rfl) ?_
          refine g_lt (pc' := 34) (fun v5 => [(4, .int v5), (3, .int j3), (0, .ref (xb x + o0)), (1, .ref (xb x + o1)), (2, .int x2)]) (fun v5 => []) (fun v5 => M) (w_iinc X dX12_placeOf_31 4 rfl rfl (by decide) rfl) (fun v5 => ?_)
          show Gz x 5 34 [(4, .int v5), (3, .int j3), (0, .ref (xb x + o0)), (1, .ref (xb x + o1)), (2, .int x2)] [] KDF M _ _
          refine g1 (pc' := 5) (w_goto X dX12_placeOf_34 (by decide)) ?_
          refine g_inl ?_
          exact g_end [2, 3, 4, 1, 0] rfl rfl rfl
    · show Gz x 5 37 [(3, .int e6)] [] KDF M _ _
      refine g1 (pc' := 38) (w_iload_n X dX12_placeOf_37 rfl 0 rfl) ?_
      exact g_rI X dX12_placeOf_38
  exact G _ h _ rfl
theorem k_X12_placeOf {x : Cxt} {cc : ByteArray} {nL : Nat} {own : String} {ret : Option FieldType} (X : Ok x cc nL own ret) {d : Nat} (hR : Rm x d KDF) (hN : Nst x) (Z : xz x = 0) {pc : Nat} {lv : List (Nat × Value)} {rest : List Value} {M : Mm} {o0 : Nat} {o1 : Nat} {x2 : Int32} (hk0 : KDF[o0]? = some (12, 0)) (hk1 : KDF[o1]? = some (13, kln o1)) {idx : Nat} (hw : Cond.methodLink own idx yX12_placeOf ∈ tbG) (hdd : 1 + 1 ≤ d) (hrm : (rest.map fun v => v.category).sum ≤ 8) (hd : decode cc pc = .ok (.invokevirtual idx, 3)) {r : Int32} (h : f_X12_placeOf o0 o1 x2 M = some r) : StpZ x nL pc lv (.int x2 :: .ref (xb x + o1) :: .ref (xb x + o0) :: rest) KDF M (pc + 3) lv (.int r :: rest) KDF M :=
  w_callV (st := []) (As := [.ref (xb x + o1), .int x2]) X hR hN (CtX0 Z (c_X12_placeOf hk0 hk1 h)) ⟨Nat.le_refl _, Nat.le_refl _⟩ ⟨Nat.le_refl _, Nat.le_refl _⟩ hk0 (ci := 12) (fs := fs_12 o0) (fun _ _ _ => rfl) rfl hw mw_1154 mw_40 mw_72 mw_1155 (n := 2) (by decide +kernel) rfl hdd (by decide) hrm hd
def f_X12_heardOf (o0 : Nat) (x1 : Int32) (M : Mm) : Option (Int32 × Mm) :=
  Bd (f_X12_placeOf o0 137 x1 M) (fun r1 => (if r1 = ((M o0 16) - (1 : Int32)) then Bd (f_X12_figuresOf o0 137 M) (fun r3 => some (r3, M)) else Gd (ib (((5 : Int32) + r1) + (1 : Int32)) 23) (Gd (ib ((5 : Int32) + r1) 23) (Lt (st2 M 137 (ix ((5 : Int32) + r1)) (M 137 (ix (((5 : Int32) + r1) + (1 : Int32))))) (fun M6 => Gd (ib (((5 : Int32) + r1) + (1 : Int32)) 23) (Lt (st2 M6 137 (ix (((5 : Int32) + r1) + (1 : Int32))) x1) (fun M8 => Bd (f_X12_figuresOf o0 137 M8) (fun r9 => Gd (ib ((5 : Int32) + r1) 23) (Gd (ib (((5 : Int32) + r1) + (1 : Int32)) 23) (Lt (st2 M8 137 (ix (((5 : Int32) + r1) + (1 : Int32))) (M8 137 (ix ((5 : Int32) + r1)))) (fun M12 => Gd (ib ((5 : Int32) + r1) 23) (Lt (st2 M12 137 (ix ((5 : Int32) + r1)) x1) (fun M14 => some (r9, M14))))))))))))))
set_option maxRecDepth 100000 in
set_option maxHeartbeats 4000000 in
theorem c_X12_heardOf {l : Launch} {D : va_G} {an : An} {b : Nat} {o0 : Nat} {x1 : Int32} (hk0 : KDF[o0]? = some (12, 0)) {M : Mm} {r : Int32} {M' : Mm} (h : f_X12_heardOf o0 x1 M = some (r, M')) : Ct l D an b 0 yX12_heardOf cX12_heardOf 4 (some .int) 2 [.ref (b + o0), .int x1] KDF M (some (.int r)) KDF M' := by
  refine CtX.mk (as := fun b => [.ref (b + o0), .int x1]) (rv := fun b => (some (.int r))) (by decide) (fun b => Nat.le_of_ble_eq_true rfl) ⟨Nat.le_refl _, Nat.le_refl _⟩ (fun x X hR Z hN _ _ => ?_)
  have X : Ok x cX12_heardOf 4 RX12 (some .int) := X
  have G : Gz x 4 0 [(0, .ref (xb x + o0)), (1, .int x1)] [] KDF M (f_X12_heardOf o0 x1 M) (PsI2 x KDF) := by
    unfold f_X12_heardOf
    refine g1 (pc' := 1) (w_aload_n X dX12_heardOf_0 rfl 0 rfl) ?_
    refine g1 (pc' := 2) (w_aload_n X dX12_heardOf_1 rfl 0 rfl) ?_
    refine g1 (pc' := 5) (gt_12_24 X hk0 mw_953 dX12_heardOf_2) ?_
    refine g1 (pc' := 6) (w_iload_n X dX12_heardOf_5 rfl 1 rfl) ?_
    refine g_bd (pc' := 9) (fun r1 => [(0, .ref (xb x + o0)), (1, .int x1)]) (fun r1 => [.int r1]) (fun r1 => M) (fun r1 h => k_X12_placeOf X hR hN Z hk0 (kln_of kd_137) mw_1152 (by decide) (Nat.le_of_ble_eq_true rfl) dX12_heardOf_6 h) (fun r1 => ?_)
    show Gz x 4 9 [(0, .ref (xb x + o0)), (1, .int x1)] [.int r1] KDF M _ _
    refine g1 (pc' := 10) (lv' := [(2, .int r1), (0, .ref (xb x + o0)), (1, .int x1)]) (w_istore_n X dX12_heardOf_9 rfl (by decide) rfl) ?_
    refine g1 (pc' := 11) (w_iload_n X dX12_heardOf_10 rfl 0 rfl) ?_
    refine g1 (pc' := 12) (w_aload_n X dX12_heardOf_11 rfl 1 rfl) ?_
    refine g1 (pc' := 15) (gt_12_16 X hk0 mw_945 dX12_heardOf_12) ?_
    refine g1 (pc' := 16) (w_iconst X (1) dX12_heardOf_15 (by decide)) ?_
    refine g1 (pc' := 17) (w_isub X dX12_heardOf_16) ?_
    refine g_if (pcT := 20) (pcF := 29) (w_icmp_ne (tgt := 29) X dX12_heardOf_17 (by decide)) (fun h2 => ?_) (fun h2 => ?_)
    · refine g1 (pc' := 21) (w_aload_n X dX12_heardOf_20 rfl 1 rfl) ?_
      refine g1 (pc' := 22) (w_aload_n X dX12_heardOf_21 rfl 1 rfl) ?_
      refine g1 (pc' := 25) (gt_12_24 X hk0 mw_953 dX12_heardOf_22) ?_
      refine g_bd (pc' := 28) (fun r3 => [(2, .int r1), (0, .ref (xb x + o0)), (1, .int x1)]) (fun r3 => [.int r3]) (fun r3 => M) (fun r3 h => k_X12_figuresOf X hR hN Z hk0 (kln_of kd_137) mw_1128 (by decide) (Nat.le_of_ble_eq_true rfl) dX12_heardOf_25 h) (fun r3 => ?_)
      show Gz x 4 28 [(2, .int r1), (0, .ref (xb x + o0)), (1, .int x1)] [.int r3] KDF M _ _
      exact g_rI2 X dX12_heardOf_28
    · refine g1 (pc' := 30) (w_aload_n X dX12_heardOf_29 rfl 1 rfl) ?_
      refine g1 (pc' := 33) (gt_12_24 X hk0 mw_953 dX12_heardOf_30) ?_
      refine g1 (pc' := 34) (w_iconst X (5) dX12_heardOf_33 (by decide)) ?_
      refine g1 (pc' := 35) (w_iload_n X dX12_heardOf_34 rfl 0 rfl) ?_
      refine g1 (pc' := 36) (w_iadd X dX12_heardOf_35) ?_
      refine g1 (pc' := 37) (w_aload_n X dX12_heardOf_36 rfl 1 rfl) ?_
      refine g1 (pc' := 40) (gt_12_24 X hk0 mw_953 dX12_heardOf_37) ?_
      refine g1 (pc' := 41) (w_iconst X (5) dX12_heardOf_40 (by decide)) ?_
      refine g1 (pc' := 42) (w_iload_n X dX12_heardOf_41 rfl 0 rfl) ?_
      refine g1 (pc' := 43) (w_iadd X dX12_heardOf_42) ?_
      refine g1 (pc' := 44) (w_iconst X (1) dX12_heardOf_43 (by decide)) ?_
      refine g1 (pc' := 45) (w_iadd X dX12_heardOf_44) ?_
      refine g_gd (fun h4 => ?_)
      refine g1 (pc' := 46) (w_iald X kd_137 h4 dX12_heardOf_45) ?_
      refine g_gd (fun h5 => ?_)
      refine g_lt (pc' := 47) (fun M6 => [(2, .int r1), (0, .ref (xb x + o0)), (1, .int x1)]) (fun M6 => []) (fun M6 => M6) (w_iast X Z kd_137 h5 dX12_heardOf_46) (fun M6 => ?_)
      show Gz x 4 47 [(2, .int r1), (0, .ref (xb x + o0)), (1, .int x1)] [] KDF M6 _ _
      refine g1 (pc' := 48) (w_aload_n X dX12_heardOf_47 rfl 1 rfl) ?_
      refine g1 (pc' := 51) (gt_12_24 X hk0 mw_953 dX12_heardOf_48) ?_
      refine g1 (pc' := 52) (w_iconst X (5) dX12_heardOf_51 (by decide)) ?_
      refine g1 (pc' := 53) (w_iload_n X dX12_heardOf_52 rfl 0 rfl) ?_
      refine g1 (pc' := 54) (w_iadd X dX12_heardOf_53) ?_
      refine g1 (pc' := 55) (w_iconst X (1) dX12_heardOf_54 (by decide)) ?_
      refine g1 (pc' := 56) (w_iadd X dX12_heardOf_55) ?_
      refine g1 (pc' := 57) (w_iload_n X dX12_heardOf_56 rfl 2 rfl) ?_
      refine g_gd (fun h7 => ?_)
      refine g_lt (pc' := 58) (fun M8 => [(2, .int r1), (0, .ref (xb x + o0)), (1, .int x1)]) (fun M8 => []) (fun M8 => M8) (w_iast X Z kd_137 h7 dX12_heardOf_57) (fun M8 => ?_)
      show Gz x 4 58 [(2, .int r1), (0, .ref (xb x + o0)), (1, .int x1)] [] KDF M8 _ _
      refine g1 (pc' := 59) (w_aload_n X dX12_heardOf_58 rfl 1 rfl) ?_
      refine g1 (pc' := 60) (w_aload_n X dX12_heardOf_59 rfl 1 rfl) ?_
      refine g1 (pc' := 63) (gt_12_24 X hk0 mw_953 dX12_heardOf_60) ?_
      refine g_bd (pc' := 66) (fun r9 => [(2, .int r1), (0, .ref (xb x + o0)), (1, .int x1)]) (fun r9 => [.int r9]) (fun r9 => M8) (fun r9 h => k_X12_figuresOf X hR hN Z hk0 (kln_of kd_137) mw_1128 (by decide) (Nat.le_of_ble_eq_true rfl) dX12_heardOf_63 h) (fun r9 => ?_)
      show Gz x 4 66 [(2, .int r1), (0, .ref (xb x + o0)), (1, .int x1)] [.int r9] KDF M8 _ _
      refine g1 (pc' := 67) (lv' := [(3, .int r9), (2, .int r1), (0, .ref (xb x + o0)), (1, .int x1)]) (w_istore_n X dX12_heardOf_66 rfl (by decide) rfl) ?_
      refine g1 (pc' := 68) (w_aload_n X dX12_heardOf_67 rfl 2 rfl) ?_
      refine g1 (pc' := 71) (gt_12_24 X hk0 mw_953 dX12_heardOf_68) ?_
      refine g1 (pc' := 72) (w_iconst X (5) dX12_heardOf_71 (by decide)) ?_
      refine g1 (pc' := 73) (w_iload_n X dX12_heardOf_72 rfl 1 rfl) ?_
      refine g1 (pc' := 74) (w_iadd X dX12_heardOf_73) ?_
      refine g1 (pc' := 75) (w_iconst X (1) dX12_heardOf_74 (by decide)) ?_
      refine g1 (pc' := 76) (w_iadd X dX12_heardOf_75) ?_
      refine g1 (pc' := 77) (w_aload_n X dX12_heardOf_76 rfl 2 rfl) ?_
      refine g1 (pc' := 80) (gt_12_24 X hk0 mw_953 dX12_heardOf_77) ?_
      refine g1 (pc' := 81) (w_iconst X (5) dX12_heardOf_80 (by decide)) ?_
      refine g1 (pc' := 82) (w_iload_n X dX12_heardOf_81 rfl 1 rfl) ?_
      refine g1 (pc' := 83) (w_iadd X dX12_heardOf_82) ?_
      refine g_gd (fun h10 => ?_)
      refine g1 (pc' := 84) (w_iald X kd_137 h10 dX12_heardOf_83) ?_
      refine g_gd (fun h11 => ?_)
      refine g_lt (pc' := 85) (fun M12 => [(3, .int r9), (2, .int r1), (0, .ref (xb x + o0)), (1, .int x1)]) (fun M12 => []) (fun M12 => M12) (w_iast X Z kd_137 h11 dX12_heardOf_84) (fun M12 => ?_)
      show Gz x 4 85 [(3, .int r9), (2, .int r1), (0, .ref (xb x + o0)), (1, .int x1)] [] KDF M12 _ _
      refine g1 (pc' := 86) (w_aload_n X dX12_heardOf_85 rfl 2 rfl) ?_
      refine g1 (pc' := 89) (gt_12_24 X hk0 mw_953 dX12_heardOf_86) ?_
      refine g1 (pc' := 90) (w_iconst X (5) dX12_heardOf_89 (by decide)) ?_
      refine g1 (pc' := 91) (w_iload_n X dX12_heardOf_90 rfl 1 rfl) ?_
      refine g1 (pc' := 92) (w_iadd X dX12_heardOf_91) ?_
      refine g1 (pc' := 93) (w_iload_n X dX12_heardOf_92 rfl 3 rfl) ?_
      refine g_gd (fun h13 => ?_)
      refine g_lt (pc' := 94) (fun M14 => [(3, .int r9), (2, .int r1), (0, .ref (xb x + o0)), (1, .int x1)]) (fun M14 => []) (fun M14 => M14) (w_iast X Z kd_137 h13 dX12_heardOf_93) (fun M14 => ?_)
      show Gz x 4 94 [(3, .int r9), (2, .int r1), (0, .ref (xb x + o0)), (1, .int x1)] [] KDF M14 _ _
      refine g1 (pc' := 95) (w_iload_n X dX12_heardOf_94 rfl 0 rfl) ?_
      exact g_rI2 X dX12_heardOf_95
  exact G _ h _ rfl
theorem k_X12_heardOf {x : Cxt} {cc : ByteArray} {nL : Nat} {own : String} {ret : Option FieldType} (X : Ok x cc nL own ret) {d : Nat} (hR : Rm x d KDF) (hN : Nst x) (Z : xz x = 0) {pc : Nat} {lv : List (Nat × Value)} {rest : List Value} {M : Mm} {o0 : Nat} {x1 : Int32} (hk0 : KDF[o0]? = some (12, 0)) {idx : Nat} (hw : Cond.methodLink own idx yX12_heardOf ∈ tbG) (hdd : 2 + 1 ≤ d) (hrm : (rest.map fun v => v.category).sum ≤ 8) (hd : decode cc pc = .ok (.invokevirtual idx, 3)) {r : Int32} {M' : Mm} (h : f_X12_heardOf o0 x1 M = some (r, M')) : StpZ x nL pc lv (.int x1 :: .ref (xb x + o0) :: rest) KDF M (pc + 3) lv (.int r :: rest) KDF M' :=
  w_callV (st := []) (As := [.int x1]) X hR hN (CtX0 Z (c_X12_heardOf hk0 h)) ⟨Nat.le_refl _, Nat.le_refl _⟩ ⟨Nat.le_refl _, Nat.le_refl _⟩ hk0 (ci := 12) (fs := fs_12 o0) (fun _ _ _ => rfl) rfl hw mw_1150 mw_39 mw_72 mw_1151 (n := 1) (by decide +kernel) rfl hdd (by decide) hrm hd
def b_X12_lateOnes_33 (o0 : Nat) (s11 : Int32 × Int32 × Mm) (s33 : Int32 × Int32 × Mm) : Option ((Int32 × Int32 × Mm) ⊕ (Int32 × Mm)) :=
  (if (s33.2.2 o0 16) ≤ s33.2.1 then some (.inr (s33.1, s33.2.2)) else Bd (f_X12_heardOf o0 s33.2.1 s33.2.2) (fun r6 => Gd (ib (((2 : Int32) * s11.2.1) + (1 : Int32)) 12) (Lt (((if r6.1 = (r6.2 142 (ix (((2 : Int32) * s11.2.1) + (1 : Int32)))) then s33.1 else (s33.1 &&& ((sl (1 : Int32) s33.2.1) ^^^ (-1 : Int32))))) : Int32) (fun j8 => Lt (s33.2.1 + (1 : Int32)) (fun v10 => some (.inl (j8, v10, r6.2)))))))
def b_X12_lateOnes_11 (o0 : Nat) (s11 : Int32 × Int32 × Mm) : Option ((Int32 × Int32 × Mm) ⊕ (Int32 × Mm)) :=
  (if (s11.2.2 o0 31) ≤ s11.2.1 then some (.inr (s11.1, s11.2.2)) else Gd (ib ((2 : Int32) * s11.2.1) 12) (Bd (f_X12_layTrue o0 (s11.2.2 142 (ix ((2 : Int32) * s11.2.1))) s11.2.2) (fun r4 => Bd (Lp (b_X12_lateOnes_33 o0 s11) 100000 (s11.1, (0 : Int32), r4)) (fun e11 => Lt (s11.2.1 + (1 : Int32)) (fun v12 => some (.inl (e11.1, v12, e11.2)))))))
def f_X12_lateOnes (o0 : Nat) (M : Mm) : Option (Int32 × Mm) :=
  Lt ((sl (1 : Int32) (M o0 16)) - (1 : Int32)) (fun v1 => Bd (Lp (b_X12_lateOnes_11 o0) 100000 (v1, (0 : Int32), M)) (fun e13 => some (e13.1, e13.2)))
set_option maxRecDepth 100000 in
set_option maxHeartbeats 4000000 in
theorem c_X12_lateOnes {l : Launch} {D : va_G} {an : An} {b : Nat} {o0 : Nat} (hk0 : KDF[o0]? = some (12, 0)) {M : Mm} {r : Int32} {M' : Mm} (h : f_X12_lateOnes o0 M = some (r, M')) : Ct l D an b 0 yX12_lateOnes cX12_lateOnes 4 (some .int) 4 [.ref (b + o0)] KDF M (some (.int r)) KDF M' := by
  refine CtX.mk (as := fun b => [.ref (b + o0)]) (rv := fun b => (some (.int r))) (by decide) (fun b => Nat.le_of_ble_eq_true rfl) ⟨Nat.le_refl _, Nat.le_refl _⟩ (fun x X hR Z hN _ _ => ?_)
  have X : Ok x cX12_lateOnes 4 RX12 (some .int) := X
  have G : Gz x 4 0 [(0, .ref (xb x + o0))] [] KDF M (f_X12_lateOnes o0 M) (PsI2 x KDF) := by
    unfold f_X12_lateOnes
    refine g1 (pc' := 1) (w_iconst X (1) dX12_lateOnes_0 (by decide)) ?_
    refine g1 (pc' := 2) (w_aload_n X dX12_lateOnes_1 rfl 0 rfl) ?_
    refine g1 (pc' := 5) (gt_12_16 X hk0 mw_945 dX12_lateOnes_2) ?_
    refine g1 (pc' := 6) (w_ishl X dX12_lateOnes_5) ?_
    refine g1 (pc' := 7) (w_iconst X (1) dX12_lateOnes_6 (by decide)) ?_
    refine g1 (pc' := 8) (w_isub X dX12_lateOnes_7) ?_
    refine g_lt (pc' := 9) (fun v1 => [(1, .int v1), (0, .ref (xb x + o0))]) (fun v1 => []) (fun v1 => M) (w_istore_n X dX12_lateOnes_8 rfl (by decide) rfl) (fun v1 => ?_)
    show Gz x 4 9 [(1, .int v1), (0, .ref (xb x + o0))] [] KDF M _ _
    refine g1 (pc' := 10) (w_iconst X (0) dX12_lateOnes_9 (by decide)) ?_
    refine g1 (pc' := 11) (lv' := [(2, .int (0 : Int32)), (1, .int v1), (0, .ref (xb x + o0))]) (w_istore_n X dX12_lateOnes_10 rfl (by decide) rfl) ?_
    refine g_pick (lv' := [(0, .ref (xb x + o0)), (1, .int v1), (2, .int (0 : Int32))]) [2, 1, 0] rfl ?_
    refine g_bdJ (J := 83) (fun e13 => [(1, .int e13.1)]) (fun e13 => []) (fun e13 => e13.2) (g_lp (fun s11 => [(0, .ref (xb x + o0)), (1, .int s11.1), (2, .int s11.2.1)]) (fun s11 => s11.2.2) (fun s11 => ?_) 100000 (v1, (0 : Int32), M)) (fun e13 => ?_)
    · show Gz x 4 11 [(0, .ref (xb x + o0)), (1, .int s11.1), (2, .int s11.2.1)] [] KDF s11.2.2 (b_X12_lateOnes_11 o0 s11) _
      unfold b_X12_lateOnes_11
      refine g1 (pc' := 12) (w_iload_n X dX12_lateOnes_11 rfl 2 rfl) ?_
      refine g1 (pc' := 13) (w_aload_n X dX12_lateOnes_12 rfl 0 rfl) ?_
      refine g1 (pc' := 16) (gt_12_31 X hk0 mw_960 dX12_lateOnes_13) ?_
      refine g_if (pcT := 83) (pcF := 19) (w_icmp_ge (tgt := 83) X dX12_lateOnes_16 (by decide)) (fun h2 => ?_) (fun h2 => ?_)
      · refine g_inr ?_
        exact g_end [1] rfl rfl rfl
      · refine g1 (pc' := 20) (w_aload_n X dX12_lateOnes_19 rfl 0 rfl) ?_
        refine g1 (pc' := 21) (w_aload_n X dX12_lateOnes_20 rfl 0 rfl) ?_
        refine g1 (pc' := 24) (gt_12_32 X hk0 mw_961 dX12_lateOnes_21) ?_
        refine g1 (pc' := 25) (w_iconst X (2) dX12_lateOnes_24 (by decide)) ?_
        refine g1 (pc' := 26) (w_iload_n X dX12_lateOnes_25 rfl 2 rfl) ?_
        refine g1 (pc' := 27) (w_imul X dX12_lateOnes_26) ?_
        refine g_gd (fun h3 => ?_)
        refine g1 (pc' := 28) (w_iald X kd_142 h3 dX12_lateOnes_27) ?_
        refine g_bd (pc' := 31) (fun r4 => [(0, .ref (xb x + o0)), (1, .int s11.1), (2, .int s11.2.1)]) (fun r4 => []) (fun r4 => r4) (fun r4 h => k_X12_layTrue X hR hN Z hk0 mw_1140 (by decide) (Nat.le_of_ble_eq_true rfl) dX12_lateOnes_28 h) (fun r4 => ?_)
        show Gz x 4 31 [(0, .ref (xb x + o0)), (1, .int s11.1), (2, .int s11.2.1)] [] KDF r4 _ _
        refine g1 (pc' := 32) (w_iconst X (0) dX12_lateOnes_31 (by decide)) ?_
        refine g1 (pc' := 33) (lv' := [(3, .int (0 : Int32)), (0, .ref (xb x + o0)), (1, .int s11.1), (2, .int s11.2.1)]) (w_istore_n X dX12_lateOnes_32 rfl (by decide) rfl) ?_
        refine g_pick (lv' := [(0, .ref (xb x + o0)), (1, .int s11.1), (2, .int s11.2.1), (3, .int (0 : Int32))]) [1, 2, 3, 0] rfl ?_
        refine g_bdJ (J := 77) (fun e11 => [(0, .ref (xb x + o0)), (1, .int e11.1), (2, .int s11.2.1)]) (fun e11 => []) (fun e11 => e11.2) (g_lp (fun s33 => [(0, .ref (xb x + o0)), (1, .int s33.1), (2, .int s11.2.1), (3, .int s33.2.1)]) (fun s33 => s33.2.2) (fun s33 => ?_) 100000 (s11.1, (0 : Int32), r4)) (fun e11 => ?_)
        · show Gz x 4 33 [(0, .ref (xb x + o0)), (1, .int s33.1), (2, .int s11.2.1), (3, .int s33.2.1)] [] KDF s33.2.2 (b_X12_lateOnes_33 o0 s11 s33) _
          unfold b_X12_lateOnes_33
          refine g1 (pc' := 34) (w_iload_n X dX12_lateOnes_33 rfl 3 rfl) ?_
          refine g1 (pc' := 35) (w_aload_n X dX12_lateOnes_34 rfl 0 rfl) ?_
          refine g1 (pc' := 38) (gt_12_16 X hk0 mw_945 dX12_lateOnes_35) ?_
          refine g_if (pcT := 77) (pcF := 41) (w_icmp_ge (tgt := 77) X dX12_lateOnes_38 (by decide)) (fun h5 => ?_) (fun h5 => ?_)
          · refine g_inr ?_
            exact g_end [0, 1, 2] rfl rfl rfl
          · refine g1 (pc' := 42) (w_aload_n X dX12_lateOnes_41 rfl 0 rfl) ?_
            refine g1 (pc' := 43) (w_iload_n X dX12_lateOnes_42 rfl 3 rfl) ?_
            refine g_bd (pc' := 46) (fun r6 => [(0, .ref (xb x + o0)), (1, .int s33.1), (2, .int s11.2.1), (3, .int s33.2.1)]) (fun r6 => [.int r6.1]) (fun r6 => r6.2) (fun r6 h => k_X12_heardOf X hR hN Z hk0 mw_1148 (by decide) (Nat.le_of_ble_eq_true rfl) dX12_lateOnes_43 h) (fun r6 => ?_)
            show Gz x 4 46 [(0, .ref (xb x + o0)), (1, .int s33.1), (2, .int s11.2.1), (3, .int s33.2.1)] [.int r6.1] KDF r6.2 _ _
            refine g1 (pc' := 47) (w_aload_n X dX12_lateOnes_46 rfl 0 rfl) ?_
            refine g1 (pc' := 50) (gt_12_32 X hk0 mw_961 dX12_lateOnes_47) ?_
            refine g1 (pc' := 51) (w_iconst X (2) dX12_lateOnes_50 (by decide)) ?_
            refine g1 (pc' := 52) (w_iload_n X dX12_lateOnes_51 rfl 2 rfl) ?_
            refine g1 (pc' := 53) (w_imul X dX12_lateOnes_52) ?_
            refine g1 (pc' := 54) (w_iconst X (1) dX12_lateOnes_53 (by decide)) ?_
            refine g1 (pc' := 55) (w_iadd X dX12_lateOnes_54) ?_
            refine g_gd (fun h7 => ?_)
            refine g1 (pc' := 56) (w_iald X kd_142 h7 dX12_lateOnes_55) ?_
            refine g_ltJ (J := 70) (fun j8 => [(0, .ref (xb x + o0)), (2, .int s11.2.1), (3, .int s33.2.1)]) (fun j8 => [.int j8]) (fun j8 => r6.2) ?_ (fun j8 => ?_)
            · refine g_ifS (pcT := 59) (pcF := 63) (w_icmp_ne (tgt := 63) X dX12_lateOnes_56 (by decide)) (fun h9 => ?_) (fun h9 => ?_)
              · refine g1 (pc' := 60) (w_iload_n X dX12_lateOnes_59 rfl 1 rfl) ?_
                refine g1 (pc' := 70) (w_goto X dX12_lateOnes_60 (by decide)) ?_
                exact g_end [0, 2, 3] rfl rfl rfl
              · refine g1 (pc' := 64) (w_iload_n X dX12_lateOnes_63 rfl 1 rfl) ?_
                refine g1 (pc' := 65) (w_iconst X (1) dX12_lateOnes_64 (by decide)) ?_
                refine g1 (pc' := 66) (w_iload_n X dX12_lateOnes_65 rfl 3 rfl) ?_
                refine g1 (pc' := 67) (w_ishl X dX12_lateOnes_66) ?_
                refine g1 (pc' := 68) (w_iconst X (-1) dX12_lateOnes_67 (by decide)) ?_
                refine g1 (pc' := 69) (w_ixor X dX12_lateOnes_68) ?_
                refine g1 (pc' := 70) (w_iand X dX12_lateOnes_69) ?_
                exact g_end [0, 2, 3] rfl rfl rfl
            · show Gz x 4 70 [(0, .ref (xb x + o0)), (2, .int s11.2.1), (3, .int s33.2.1)] [.int j8] KDF r6.2 _ _
              refine g1 (pc' := 71) (lv' := [(1, .int j8), (0, .ref (xb x + o0)), (2, .int s11.2.1), (3, .int s33.2.1)]) (w_istore_n X dX12_lateOnes_70 rfl (by decide) rfl) ?_
              refine g_lt (pc' := 74) (fun v10 => [(3, .int v10), (1, .int j8), (0, .ref (xb x + o0)), (2, .int s11.2.1)]) (fun v10 => []) (fun v10 => r6.2) (w_iinc X dX12_lateOnes_71 3 rfl rfl (by decide) rfl) (fun v10 => ?_)
              show Gz x 4 74 [(3, .int v10), (1, .int j8), (0, .ref (xb x + o0)), (2, .int s11.2.1)] [] KDF r6.2 _ _
              refine g1 (pc' := 33) (w_goto X dX12_lateOnes_74 (by decide)) ?_
              refine g_inl ?_
              exact g_end [2, 1, 3, 0] rfl rfl rfl
        · show Gz x 4 77 [(0, .ref (xb x + o0)), (1, .int e11.1), (2, .int s11.2.1)] [] KDF e11.2 _ _
          refine g_lt (pc' := 80) (fun v12 => [(2, .int v12), (0, .ref (xb x + o0)), (1, .int e11.1)]) (fun v12 => []) (fun v12 => e11.2) (w_iinc X dX12_lateOnes_77 2 rfl rfl (by decide) rfl) (fun v12 => ?_)
          show Gz x 4 80 [(2, .int v12), (0, .ref (xb x + o0)), (1, .int e11.1)] [] KDF e11.2 _ _
          refine g1 (pc' := 11) (w_goto X dX12_lateOnes_80 (by decide)) ?_
          refine g_inl ?_
          exact g_end [1, 2, 0] rfl rfl rfl
    · show Gz x 4 83 [(1, .int e13.1)] [] KDF e13.2 _ _
      refine g1 (pc' := 84) (w_iload_n X dX12_lateOnes_83 rfl 0 rfl) ?_
      exact g_rI2 X dX12_lateOnes_84
  exact G _ h _ rfl
theorem k_X12_lateOnes {x : Cxt} {cc : ByteArray} {nL : Nat} {own : String} {ret : Option FieldType} (X : Ok x cc nL own ret) {d : Nat} (hR : Rm x d KDF) (hN : Nst x) (Z : xz x = 0) {pc : Nat} {lv : List (Nat × Value)} {rest : List Value} {M : Mm} {o0 : Nat} (hk0 : KDF[o0]? = some (12, 0)) {idx : Nat} (hw : Cond.methodLink own idx yX12_lateOnes ∈ tbG) (hdd : 4 + 1 ≤ d) (hrm : (rest.map fun v => v.category).sum ≤ 8) (hd : decode cc pc = .ok (.invokevirtual idx, 3)) {r : Int32} {M' : Mm} (h : f_X12_lateOnes o0 M = some (r, M')) : StpZ x nL pc lv (.ref (xb x + o0) :: rest) KDF M (pc + 3) lv (.int r :: rest) KDF M' :=
  w_callV (st := []) (As := []) X hR hN (CtX0 Z (c_X12_lateOnes hk0 h)) ⟨Nat.le_refl _, Nat.le_refl _⟩ ⟨Nat.le_refl _, Nat.le_refl _⟩ hk0 (ci := 12) (fs := fs_12 o0) (fun _ _ _ => rfl) rfl hw mw_1138 mw_36 mw_72 mw_1139 (n := 0) (by decide +kernel) rfl hdd (by decide) hrm hd
