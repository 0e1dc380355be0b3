/-! THE CLAIM OUT OF ONE WALK OF THE LAW'S BODY. Your part is whole_start (and what it stands on); all else here is the same for every law, but numbers. -/
def R_law : String := "BellSuitorsLaw"
def lw_P (b : Addr) (xs : List Int32) (args : Array Value) (s : State) : Prop := args = #[.ref b] ∧ s.IntsAt b xs ∧ xs.length ≤ 1536 ∧ (Jvm.Cond.and given_1 narrow_1).before args s = true
def lw_Q (_ : Array Value) (s : State) (o : Outcome) (t : State) : Prop := o = .returned (some (.int 1)) ∧ Framed s o t [] 600000 7302250
def lw_Z (below : List Frame) (a : Array Value) (s : State) : State → Prop := fun t => ∃ o, t.status = .running ∧ Ended t below o ∧ lw_Q a s o t
/-- the law's own end, with 1 on the stack, nothing written that was there before, its room as the claim has it -/
theorem lw_ret {p : Program} {l : Launch} {e : Env} {s : State} {m : MethodId} {below : List Frame} {meth : Method} {c : Code} {b : Nat} (hx : p.tables.exec = Jvm.exec) (hb : c.code = code) (hr : meth.sig.returnType = ret) (hlocks : meth.locks = false) {pc : Nat} {H : Heap} {ls : Array Slot} (hdg : decode code pc = .ok (.ireturn, 1)) : W p l e room_1 s m #[Value.ref b] below meth c H [] 600000 7302250 (lw_Z below #[Value.ref b] s) (F0 m pc ls [.int 1]) := by
  intro T hT X
  obtain ⟨fs, hret, hrun, hended, hW, hframe⟩ := X.leave (v := some (.int 1)) (hlocks := hlocks) (fun h => by rw [hr] at h; cases h)
  have hmeth' : T.vm.method? m = some meth := X.method'
  refine ⟨T.setFrames fs, ?_, .returned (some (.int 1)), hrun, hended, rfl, ⟨_, rfl⟩, hW, hframe⟩
  jvm_step X.here [X.here.top, hx, hb, hdg, hmeth', hr, ret, narrow_b1]
  (try refine ⟨rfl, ?_⟩); (try refine ⟨rfl, ?_⟩)
  first | (intro acts; rw [hret _ acts rfl rfl rfl]) | rw [hret _ _ rfl rfl rfl]
  exact Steps.refl _
/-- what holds at the law's entry: the machine, the code, the tables' words (any of lw_tbl by 'hts w (by decide +kernel)'), the script of L ints xs at the cell b, what the Statement gives of the start (any of its parts by flat_of_before) -/
def lw_At (p : Program) (s : State) (m : MethodId) (meth : Method) (c : Code) (b L : Nat) (xs : Nat → Int32) : Prop :=
  p.tables.exec = Jvm.exec ∧ c.code = code ∧ meth.sig.returnType = ret ∧ c.maxLocals = 4 ∧ s.vm.findClass R_law = some m.cls ∧ (∀ w ∈ lw_tbl, w.before #[Value.ref b] s = true) ∧ va_X b L xs s s.heap ∧ b < s.heap.size ∧ meth.locks = false ∧ (Jvm.Cond.and given_1 narrow_1).before #[Value.ref b] s = true
def Scr (x : Cxt) (bs L : Nat) (xs : Nat → Int32) : Prop := match x with
  | (_p, _l, _e, _R, s, _m, _args, _below, _meth, _c, _D, _an, b, _n0, _s0, _zf) => va_X bs L xs s s.heap ∧ bs < s.heap.size ∧ ¬ b ≤ bs
def LwX (x : Cxt) (bs : Nat) : Prop := match x with
  | (_p, _l, _e, R, s, _m, args, _below, _meth, _c, _D, _an, b, _n0, _s0, _zf) => R = room_1 ∧ args = #[Value.ref bs] ∧ b = s.heap.size
def PsL (x : Cxt) (bs : Nat) : Unit → (State → Prop) → Prop := match x with
  | (_p, _l, _e, _R, s, _m, _args, below, _meth, _c, _D, _an, _b, _n0, _s0, _zf) => fun _ Q => Q = lw_Z below #[Value.ref bs] s
theorem w_sld {x : Cxt} {cc : ByteArray} {nL : Nat} {own : String} {ret : Option FieldType} (X : Ok x cc nL own ret) {pc : Nat} {lv : List (Nat × Value)} {st : List Value} {KD : Kd} {M : Mm} {bs L : Nat} {xs : Nat → Int32} (hX : Scr x bs L xs) {i : Int32} (hi : ib i L) (hd : decode cc pc = .ok (.iaload, 1)) : StpZ x nL pc lv (.int i :: .ref bs :: st) KD M (pc + 1) lv (.int (xs (ix i)) :: st) KD M := by
  obtain ⟨p, l, e, R, s, m, args, below, meth, c, D, an, b, n0, s0, zf⟩ := x
  obtain ⟨hx, hb, hml, hown, hts, hK, hlk, hr, hbs⟩ := X
  obtain ⟨h1, h2, h3⟩ := hX
  intro Q kk ls H locs cs sl hl hP hz hS hc2 hs
  exact va_sld hx hb h1 h2 h3 hS (ib_vp hi) hd (kk ls H locs cs sl hl hP hz hS hc2 hs)
theorem w_slen {x : Cxt} {cc : ByteArray} {nL : Nat} {own : String} {ret : Option FieldType} (X : Ok x cc nL own ret) {pc : Nat} {lv : List (Nat × Value)} {st : List Value} {KD : Kd} {M : Mm} {bs L : Nat} {xs : Nat → Int32} (hX : Scr x bs L xs) (hd : decode cc pc = .ok (.arraylength, 1)) : StpZ x nL pc lv (.ref bs :: st) KD M (pc + 1) lv (.int (nI L) :: st) KD M := by
  obtain ⟨p, l, e, R, s, m, args, below, meth, c, D, an, b, n0, s0, zf⟩ := x
  obtain ⟨hx, hb, hml, hown, hts, hK, hlk, hr, hbs⟩ := X
  obtain ⟨h1, h2, h3⟩ := hX
  intro Q kk ls H locs cs sl hl hP hz hS hc2 hs
  exact va_slen hx hb h1 h2 h3 hS hd (kk ls H locs cs sl hl hP hz hS hc2 hs)
theorem g_rL {x : Cxt} {nL : Nat} {own : String} (X : Ok x cL_law nL own (some .boolean)) {bs : Nat} (hRl : LwX x bs ∧ Nm0 x []) {pc : Nat} {lv : List (Nat × Value)} {M : Mm} {u : Unit} (hd : decode cL_law pc = .ok (.ireturn, 1)) : Gz x nL pc lv [.int 1] KDF M (some u) (PsL x bs) := by
  intro v hv Q hQ
  obtain ⟨p, l, e, R, s, m, args, below, meth, c, D, an, b, n0, s0, zf⟩ := x
  obtain ⟨hx, hb, hml, hown, hts, hK, hlk, hr, hbs⟩ := X
  obtain ⟨⟨hR1, ha1, hb1⟩, hn1, hn2⟩ := hRl
  intro ls H locs cs sl hl hP hz hS hc2 hs
  have hQ : Q = lw_Z below #[Value.ref bs] s := hQ
  subst hR1; subst ha1; subst hQ; subst hb1
  have e1 : KDF.length = 148 := KDF_len
  have e2 : ssum KDF ≤ 7302250 := by decide +kernel
  refine va_forget (fun q hq => hS.2.2 q hq) ?_
  refine W.widen (k := 600000) (n := 7302250) (by omega) (by omega) ?_
  exact lw_ret hx hb hr hlk hd
def b_L_law_18 (L : Nat) (xs : Nat → Int32) (s18 : Int32 × Mm) : Option ((Int32 × Mm) ⊕ ((Unit) ⊕ (Mm))) :=
  (if ((nI L) - (3 : Int32)) < s18.1 then some (.inr (.inr s18.2)) else Gd (ib s18.1 L) ((if ((xs (ix s18.1)) &&& (63 : Int32)) = (0 : Int32) then Gd (ib (s18.1 + (1 : Int32)) L) (Bd (f_X11_feed 0 (xs (ix (s18.1 + (1 : Int32)))) s18.2) (fun r5 => Gd (ib (s18.1 + (1 : Int32)) L) (Bd (f_X12_feed 128 (xs (ix (s18.1 + (1 : Int32)))) r5.2) (fun r7 => (if r5.1 = r7.1 then Lt (s18.1 + (3 : Int32)) (fun v9 => some (.inl (v9, r7.2))) else none ))))) else (if ((xs (ix s18.1)) &&& (63 : Int32)) = (1 : Int32) then Bd (f_X11_tower 0 s18.2) (fun r11 => Bd (f_X12_tower 128 r11.2) (fun r12 => (if r11.1 = r12.1 then Lt (s18.1 + (3 : Int32)) (fun v14 => some (.inl (v14, r12.2))) else none ))) else (if ((xs (ix s18.1)) &&& (63 : Int32)) = (2 : Int32) then (if (f_X11_fault 0 s18.2) = (f_X12_fault 128 s18.2) then Lt (s18.1 + (3 : Int32)) (fun v17 => some (.inl (v17, s18.2))) else none ) else (if ((xs (ix s18.1)) &&& (63 : Int32)) = (3 : Int32) then Gd (ib (s18.1 + (1 : Int32)) L) (Bd (f_X11_told 0 (xs (ix (s18.1 + (1 : Int32)))) s18.2) (fun r20 => Gd (ib (s18.1 + (1 : Int32)) L) (Bd (f_X12_told 128 (xs (ix (s18.1 + (1 : Int32)))) s18.2) (fun r22 => (if r20 = r22.1 then Lt (s18.1 + (3 : Int32)) (fun v24 => some (.inl (v24, r22.2))) else none ))))) else (if ((xs (ix s18.1)) &&& (63 : Int32)) = (4 : Int32) then Gd (ib (s18.1 + (1 : Int32)) L) (Bd (f_X11_method 0 (xs (ix (s18.1 + (1 : Int32)))) s18.2) (fun r27 => Gd (ib (s18.1 + (1 : Int32)) L) (Bd (f_X12_method 128 (xs (ix (s18.1 + (1 : Int32)))) s18.2) (fun r29 => (if r27 = r29 then Lt (s18.1 + (3 : Int32)) (fun v31 => some (.inl (v31, s18.2))) else none ))))) else (if ((xs (ix s18.1)) &&& (63 : Int32)) = (5 : Int32) then Gd (ib (s18.1 + (1 : Int32)) L) (Gd (ib (s18.1 + (2 : Int32)) L) (Bd (f_X11_bell 0 (xs (ix (s18.1 + (1 : Int32)))) (xs (ix (s18.1 + (2 : Int32)))) s18.2) (fun r35 => Gd (ib (s18.1 + (1 : Int32)) L) (Gd (ib (s18.1 + (2 : Int32)) L) (Bd (f_X12_bell 128 (xs (ix (s18.1 + (1 : Int32)))) (xs (ix (s18.1 + (2 : Int32)))) s18.2) (fun r38 => (if r35 = r38 then Lt (s18.1 + (3 : Int32)) (fun v40 => some (.inl (v40, s18.2))) else none ))))))) else (if ((xs (ix s18.1)) &&& (63 : Int32)) = (6 : Int32) then Gd (ib (s18.1 + (1 : Int32)) L) (Gd (ib (s18.1 + (2 : Int32)) L) (Bd (f_X11_suitor 0 (xs (ix (s18.1 + (1 : Int32)))) (xs (ix (s18.1 + (2 : Int32)))) s18.2) (fun r44 => Gd (ib (s18.1 + (1 : Int32)) L) (Gd (ib (s18.1 + (2 : Int32)) L) (Bd (f_X12_suitor 128 (xs (ix (s18.1 + (1 : Int32)))) (xs (ix (s18.1 + (2 : Int32)))) s18.2) (fun r47 => (if r44 = r47 then Lt (s18.1 + (3 : Int32)) (fun v49 => some (.inl (v49, s18.2))) else none ))))))) else (if ((xs (ix s18.1)) &&& (63 : Int32)) = (7 : Int32) then Gd (ib (s18.1 + (1 : Int32)) L) (Bd (f_X11_ring 0 (xs (ix (s18.1 + (1 : Int32)))) s18.2) (fun r52 => Gd (ib (s18.1 + (1 : Int32)) L) (Bd (f_X12_ring 128 (xs (ix (s18.1 + (1 : Int32)))) r52.2) (fun r54 => (if r52.1 = r54.1 then Lt (s18.1 + (3 : Int32)) (fun v56 => some (.inl (v56, r54.2))) else none ))))) else (if ((xs (ix s18.1)) &&& (63 : Int32)) = (8 : Int32) then Bd (f_X11_call 0 s18.2) (fun r58 => Bd (f_X12_call 128 r58.2) (fun r59 => (if r58.1 = r59.1 then Lt (s18.1 + (3 : Int32)) (fun v61 => some (.inl (v61, r59.2))) else none ))) else (if ((xs (ix s18.1)) &&& (63 : Int32)) = (9 : Int32) then Gd (ib (s18.1 + (1 : Int32)) L) (Gd (ib (s18.1 + (2 : Int32)) L) (Bd (f_X11_swap 0 (xs (ix (s18.1 + (1 : Int32)))) (xs (ix (s18.1 + (2 : Int32)))) s18.2) (fun r65 => Gd (ib (s18.1 + (1 : Int32)) L) (Gd (ib (s18.1 + (2 : Int32)) L) (Bd (f_X12_swap 128 (xs (ix (s18.1 + (1 : Int32)))) (xs (ix (s18.1 + (2 : Int32)))) r65.2) (fun r68 => (if r65.1 = r68.1 then Lt (s18.1 + (3 : Int32)) (fun v70 => some (.inl (v70, r68.2))) else none ))))))) else (if ((xs (ix s18.1)) &&& (63 : Int32)) = (10 : Int32) then Bd (f_X11_stand 0 s18.2) (fun r72 => Bd (f_X12_stand 128 r72.2) (fun r73 => (if r72.1 = r73.1 then Lt (s18.1 + (3 : Int32)) (fun v75 => some (.inl (v75, r73.2))) else none ))) else (if ((xs (ix s18.1)) &&& (63 : Int32)) = (11 : Int32) then Gd (ib (s18.1 + (1 : Int32)) L) (Lt (((if (xs (ix (s18.1 + (1 : Int32)))) = 0 then (0 : Int32) else (1 : Int32))) : Int32) (fun j78 => Bd (f_X11_wet 0 j78 s18.2) (fun r80 => Gd (ib (s18.1 + (1 : Int32)) L) (Lt (((if (xs (ix (s18.1 + (1 : Int32)))) = 0 then (0 : Int32) else (1 : Int32))) : Int32) (fun j82 => Bd (f_X12_wet 128 j82 r80.2) (fun r84 => (if r80.1 = r84.1 then Lt (s18.1 + (3 : Int32)) (fun v86 => some (.inl (v86, r84.2))) else none ))))))) else (if ((xs (ix s18.1)) &&& (63 : Int32)) = (12 : Int32) then Gd (ib (s18.1 + (1 : Int32)) L) (Bd (f_X11_forgive 0 (xs (ix (s18.1 + (1 : Int32)))) s18.2) (fun r89 => Gd (ib (s18.1 + (1 : Int32)) L) (Bd (f_X12_forgive 128 (xs (ix (s18.1 + (1 : Int32)))) r89.2) (fun r91 => (if r89.1 = r91.1 then Lt (s18.1 + (3 : Int32)) (fun v93 => some (.inl (v93, r91.2))) else none ))))) else (if ((xs (ix s18.1)) &&& (63 : Int32)) = (13 : Int32) then Gd (ib (s18.1 + (1 : Int32)) L) (Bd (f_X11_drift 0 (xs (ix (s18.1 + (1 : Int32)))) s18.2) (fun r96 => Gd (ib (s18.1 + (1 : Int32)) L) (Bd (f_X12_drift 128 (xs (ix (s18.1 + (1 : Int32)))) r96.2) (fun r98 => (if r96.1 = r98.1 then Lt (s18.1 + (3 : Int32)) (fun v100 => some (.inl (v100, r98.2))) else none ))))) else (if ((xs (ix s18.1)) &&& (63 : Int32)) = (14 : Int32) then Bd (f_X11_undo 0 s18.2) (fun r102 => Bd (f_X12_undo 128 r102.2) (fun r103 => (if r102.1 = r103.1 then Lt (s18.1 + (3 : Int32)) (fun v105 => some (.inl (v105, r103.2))) else none ))) else (if ((xs (ix s18.1)) &&& (63 : Int32)) = (15 : Int32) then Gd (ib (s18.1 + (1 : Int32)) L) (Bd (f_X11_rowAt 0 (xs (ix (s18.1 + (1 : Int32)))) s18.2) (fun r108 => Gd (ib (s18.1 + (1 : Int32)) L) (Bd (f_X12_rowAt 128 (xs (ix (s18.1 + (1 : Int32)))) r108.2) (fun r110 => (if r108.1 = r110.1 then Lt (s18.1 + (3 : Int32)) (fun v112 => some (.inl (v112, r110.2))) else none ))))) else (if ((xs (ix s18.1)) &&& (63 : Int32)) = (16 : Int32) then Gd (ib (s18.1 + (1 : Int32)) L) (Gd (ib (s18.1 + (2 : Int32)) L) (Bd (f_X11_placeAt 0 (xs (ix (s18.1 + (1 : Int32)))) (xs (ix (s18.1 + (2 : Int32)))) s18.2) (fun r116 => Gd (ib (s18.1 + (1 : Int32)) L) (Gd (ib (s18.1 + (2 : Int32)) L) (Bd (f_X12_placeAt 128 (xs (ix (s18.1 + (1 : Int32)))) (xs (ix (s18.1 + (2 : Int32)))) r116.2) (fun r119 => (if r116.1 = r119.1 then Lt (s18.1 + (3 : Int32)) (fun v121 => some (.inl (v121, r119.2))) else none ))))))) else (if ((xs (ix s18.1)) &&& (63 : Int32)) = (17 : Int32) then Bd (f_X11_round 0 s18.2) (fun r123 => Bd (f_X12_round 128 r123.2) (fun r124 => (if r123.1 = r124.1 then Lt (s18.1 + (3 : Int32)) (fun v126 => some (.inl (v126, r124.2))) else none ))) else (if ((xs (ix s18.1)) &&& (63 : Int32)) = (18 : Int32) then Bd (f_X11_trueFor 0 s18.2) (fun r128 => Bd (f_X12_trueFor 128 r128.2) (fun r129 => (if r128.1 = r129.1 then Lt (s18.1 + (3 : Int32)) (fun v131 => some (.inl (v131, r129.2))) else none ))) else (if ((xs (ix s18.1)) &&& (63 : Int32)) = (19 : Int32) then Gd (ib (s18.1 + (1 : Int32)) L) (Gd (ib (s18.1 + (2 : Int32)) L) (Bd (f_X11_touch 0 (xs (ix (s18.1 + (1 : Int32)))) (xs (ix (s18.1 + (2 : Int32)))) s18.2) (fun r135 => Gd (ib (s18.1 + (1 : Int32)) L) (Gd (ib (s18.1 + (2 : Int32)) L) (Bd (f_X12_touch 128 (xs (ix (s18.1 + (1 : Int32)))) (xs (ix (s18.1 + (2 : Int32)))) r135.2) (fun r138 => (if r135.1 = r138.1 then Lt (s18.1 + (3 : Int32)) (fun v140 => some (.inl (v140, r138.2))) else none ))))))) else (if ((xs (ix s18.1)) &&& (63 : Int32)) = (20 : Int32) then Gd (ib (s18.1 + (1 : Int32)) L) (Bd (f_X11_ropes 0 (xs (ix (s18.1 + (1 : Int32)))) s18.2) (fun r143 => Gd (ib (s18.1 + (1 : Int32)) L) (Bd (f_X12_ropes 128 (xs (ix (s18.1 + (1 : Int32)))) r143.2) (fun r145 => (if r143.1 = r145.1 then Lt (s18.1 + (3 : Int32)) (fun v147 => some (.inl (v147, r145.2))) else none ))))) else (if ((xs (ix s18.1)) &&& (63 : Int32)) = (21 : Int32) then Gd (ib (s18.1 + (1 : Int32)) L) (Gd (ib (s18.1 + (2 : Int32)) L) (Bd (f_X11_last 0 (xs (ix (s18.1 + (1 : Int32)))) (xs (ix (s18.1 + (2 : Int32)))) s18.2) (fun r151 => Gd (ib (s18.1 + (1 : Int32)) L) (Gd (ib (s18.1 + (2 : Int32)) L) (Bd (f_X12_last 128 (xs (ix (s18.1 + (1 : Int32)))) (xs (ix (s18.1 + (2 : Int32)))) r151.2) (fun r154 => (if r151.1 = r154.1 then Lt (s18.1 + (3 : Int32)) (fun v156 => some (.inl (v156, r154.2))) else none ))))))) else (if ((xs (ix s18.1)) &&& (63 : Int32)) = (22 : Int32) then Bd (f_X11_nextOut 0 s18.2) (fun r158 => Bd (f_X12_nextOut 128 r158.2) (fun r159 => (if r158.1 = r159.1 then Lt (s18.1 + (3 : Int32)) (fun v161 => some (.inl (v161, r159.2))) else none ))) else (if ((xs (ix s18.1)) &&& (63 : Int32)) = (23 : Int32) then Gd (ib (s18.1 + (1 : Int32)) L) (Gd (ib (s18.1 + (2 : Int32)) L) (Bd (f_X11_change 0 (xs (ix (s18.1 + (1 : Int32)))) (xs (ix (s18.1 + (2 : Int32)))) s18.2) (fun r165 => Gd (ib (s18.1 + (1 : Int32)) L) (Gd (ib (s18.1 + (2 : Int32)) L) (Bd (f_X12_change 128 (xs (ix (s18.1 + (1 : Int32)))) (xs (ix (s18.1 + (2 : Int32)))) r165.2) (fun r168 => (if r165.1 = r168.1 then Lt (s18.1 + (3 : Int32)) (fun v170 => some (.inl (v170, r168.2))) else none ))))))) else (if ((xs (ix s18.1)) &&& (63 : Int32)) = (24 : Int32) then Bd (f_X11_follow 0 s18.2) (fun r172 => Bd (f_X12_follow 128 s18.2) (fun r173 => (if r172 = r173 then Lt (s18.1 + (3 : Int32)) (fun v175 => some (.inl (v175, s18.2))) else none ))) else (if ((xs (ix s18.1)) &&& (63 : Int32)) = (25 : Int32) then Gd (ib (s18.1 + (1 : Int32)) L) (Gd (ib (s18.1 + (2 : Int32)) L) (Bd (f_X11_gap 0 (xs (ix (s18.1 + (1 : Int32)))) (xs (ix (s18.1 + (2 : Int32)))) s18.2) (fun r179 => Gd (ib (s18.1 + (1 : Int32)) L) (Gd (ib (s18.1 + (2 : Int32)) L) (Bd (f_X12_gap 128 (xs (ix (s18.1 + (1 : Int32)))) (xs (ix (s18.1 + (2 : Int32)))) r179.2) (fun r182 => (if r179.1 = r182.1 then Lt (s18.1 + (3 : Int32)) (fun v184 => some (.inl (v184, r182.2))) else none ))))))) else (if ((xs (ix s18.1)) &&& (63 : Int32)) = (26 : Int32) then Gd (ib (s18.1 + (1 : Int32)) L) (Gd (ib (s18.1 + (2 : Int32)) L) (Bd (f_X11_dry 0 (xs (ix (s18.1 + (1 : Int32)))) (xs (ix (s18.1 + (2 : Int32))))) (fun r188 => Gd (ib (s18.1 + (1 : Int32)) L) (Gd (ib (s18.1 + (2 : Int32)) L) (Bd (f_X12_dry 128 (xs (ix (s18.1 + (1 : Int32)))) (xs (ix (s18.1 + (2 : Int32))))) (fun r191 => (if r188 = r191 then Lt (s18.1 + (3 : Int32)) (fun v193 => some (.inl (v193, s18.2))) else none ))))))) else (if ((xs (ix s18.1)) &&& (63 : Int32)) = (27 : Int32) then Gd (ib (s18.1 + (1 : Int32)) L) (Gd (ib (s18.1 + (2 : Int32)) L) (Bd (f_X11_hear 0 (xs (ix (s18.1 + (1 : Int32)))) (xs (ix (s18.1 + (2 : Int32)))) s18.2) (fun r197 => Gd (ib (s18.1 + (1 : Int32)) L) (Gd (ib (s18.1 + (2 : Int32)) L) (Bd (f_X12_hear 128 (xs (ix (s18.1 + (1 : Int32)))) (xs (ix (s18.1 + (2 : Int32)))) r197.2) (fun r200 => (if r197.1 = r200.1 then Lt (s18.1 + (3 : Int32)) (fun v202 => some (.inl (v202, r200.2))) else none ))))))) else (if ((xs (ix s18.1)) &&& (63 : Int32)) = (28 : Int32) then Bd (f_X11_listen 0 s18.2) (fun r204 => Bd (f_X12_listen 128 r204.2) (fun r205 => (if r204.1 = r205.1 then Lt (s18.1 + (3 : Int32)) (fun v207 => some (.inl (v207, r205.2))) else none ))) else (if ((xs (ix s18.1)) &&& (63 : Int32)) = (29 : Int32) then Gd (ib (s18.1 + (1 : Int32)) L) (Gd (ib (s18.1 + (2 : Int32)) L) (Bd (f_X11_write 0 (xs (ix (s18.1 + (1 : Int32)))) (xs (ix (s18.1 + (2 : Int32)))) s18.2) (fun r211 => Gd (ib (s18.1 + (1 : Int32)) L) (Gd (ib (s18.1 + (2 : Int32)) L) (Bd (f_X12_write 128 (xs (ix (s18.1 + (1 : Int32)))) (xs (ix (s18.1 + (2 : Int32)))) r211.2) (fun r214 => (if r211.1 = r214.1 then Lt (s18.1 + (3 : Int32)) (fun v216 => some (.inl (v216, r214.2))) else none ))))))) else (if ((xs (ix s18.1)) &&& (63 : Int32)) = (30 : Int32) then Bd (f_X11_tear 0 s18.2) (fun r218 => Bd (f_X12_tear 128 r218.2) (fun r219 => (if r218.1 = r219.1 then Lt (s18.1 + (3 : Int32)) (fun v221 => some (.inl (v221, r219.2))) else none ))) else (if ((xs (ix s18.1)) &&& (63 : Int32)) = (31 : Int32) then Bd (f_X11_judge 0 s18.2) (fun r223 => Bd (f_X12_judge 128 s18.2) (fun r224 => (if r223 = r224 then Lt (s18.1 + (3 : Int32)) (fun v226 => some (.inl (v226, s18.2))) else none ))) else (if ((xs (ix s18.1)) &&& (63 : Int32)) = (32 : Int32) then Gd (ib (s18.1 + (1 : Int32)) L) (Bd (f_X11_seed 0 (xs (ix (s18.1 + (1 : Int32)))) s18.2) (fun r229 => Gd (ib (s18.1 + (1 : Int32)) L) (Bd (f_X12_seed 128 (xs (ix (s18.1 + (1 : Int32)))) r229.2) (fun r231 => (if r229.1 = r231.1 then Lt (s18.1 + (3 : Int32)) (fun v233 => some (.inl (v233, r231.2))) else none ))))) else (if ((xs (ix s18.1)) &&& (63 : Int32)) = (33 : Int32) then Gd (ib (s18.1 + (1 : Int32)) L) (Bd (f_X11_keep 0 (xs (ix (s18.1 + (1 : Int32)))) s18.2) (fun r236 => Gd (ib (s18.1 + (1 : Int32)) L) (Bd (f_X12_keep 128 (xs (ix (s18.1 + (1 : Int32)))) r236.2) (fun r238 => (if r236.1 = r238.1 then Lt (s18.1 + (3 : Int32)) (fun v240 => some (.inl (v240, r238.2))) else none ))))) else (if ((xs (ix s18.1)) &&& (63 : Int32)) = (34 : Int32) then Gd (ib (s18.1 + (1 : Int32)) L) (Bd (f_X11_goBack 0 (xs (ix (s18.1 + (1 : Int32)))) s18.2) (fun r243 => Gd (ib (s18.1 + (1 : Int32)) L) (Bd (f_X12_goBack 128 (xs (ix (s18.1 + (1 : Int32)))) r243.2) (fun r245 => (if r243.1 = r245.1 then Lt (s18.1 + (3 : Int32)) (fun v247 => some (.inl (v247, r245.2))) else none ))))) else Lt (s18.1 + (3 : Int32)) (fun v248 => some (.inl (v248, s18.2))))))))))))))))))))))))))))))))))))))))
def f_law (L : Nat) (xs : Nat → Int32) (M : Mm) : Option Unit :=
  BdS (Lp (b_L_law_18 L xs) 100000 ((0 : Int32), M)) (fun e249 => some ())
set_option maxRecDepth 100000 in
set_option maxHeartbeats 40000000 in
theorem law_G {x : Cxt} (X : Ok x cL_law 4 RL (some .boolean)) (hR : Rm x 30 KDF) (hN : Nst x) (Z : xz x = 0) {bs L : Nat} {xs : Nat → Int32} (hX : Scr x bs L xs) (hRl : LwX x bs ∧ Nm0 x []) {M : Mm} : Gz x 4 16 [(2, .ref (xb x + 128)), (1, .ref (xb x + 0)), (0, .ref bs)] [] KDF M (f_law L xs M) (PsL x bs) := by
  unfold f_law
  refine g1 (pc' := 17) (w_iconst X (0) dL_law_16 (by decide)) ?_
  refine g1 (pc' := 18) (lv' := [(3, .int (0 : Int32)), (2, .ref (xb x + 128)), (1, .ref (xb x + 0)), (0, .ref bs)]) (w_istore_n X dL_law_17 rfl (by decide) rfl) ?_
  refine g_pick (lv' := [(0, .ref bs), (1, .ref (xb x + 0)), (2, .ref (xb x + 128)), (3, .int (0 : Int32))]) [3, 2, 1, 0] rfl ?_
  refine g_bdS (J := 1005) (fun e249 => []) (fun e249 => []) (fun e249 => e249) (g_lp (fun s18 => [(0, .ref bs), (1, .ref (xb x + 0)), (2, .ref (xb x + 128)), (3, .int s18.1)]) (fun s18 => s18.2) (fun s18 => ?_) 100000 ((0 : Int32), M)) (fun e249 => ?_)
  · show Gz x 4 18 [(0, .ref bs), (1, .ref (xb x + 0)), (2, .ref (xb x + 128)), (3, .int s18.1)] [] KDF s18.2 (b_L_law_18 L xs s18) _
    unfold b_L_law_18
    refine g1 (pc' := 19) (w_iload_n X dL_law_18 rfl 3 rfl) ?_
    refine g1 (pc' := 20) (w_aload_n X dL_law_19 rfl 0 rfl) ?_
    refine g1 (pc' := 21) (w_slen X hX dL_law_20) ?_
    refine g1 (pc' := 22) (w_iconst X (3) dL_law_21 (by decide)) ?_
    refine g1 (pc' := 23) (w_isub X dL_law_22) ?_
    refine g_if (pcT := 1005) (pcF := 26) (w_icmp_gt (tgt := 1005) X dL_law_23 (by decide)) (fun h1 => ?_) (fun h1 => ?_)
    · refine g_inr ?_
      refine g_inr ?_
      exact g_end [] rfl rfl rfl
    · refine g1 (pc' := 27) (w_aload_n X dL_law_26 rfl 0 rfl) ?_
      refine g1 (pc' := 28) (w_iload_n X dL_law_27 rfl 3 rfl) ?_
      refine g_gd (fun h2 => ?_)
      refine g1 (pc' := 29) (w_sld X hX h2 dL_law_28) ?_
      refine g1 (pc' := 31) (w_bipush X (63) dL_law_29 (by decide)) ?_
      refine g1 (pc' := 32) (w_iand X dL_law_31) ?_
      refine g_by (fun h3 => ?_) (fun h3 => ?_)
      · refine g1 (pc' := 188) (w_tsIn (off := 156) X dL_law_32 (0) (by rw [h3]; rfl) (by decide) (by decide) rfl (by decide)) ?_
        refine g1 (pc' := 189) (w_aload_n X dL_law_188 rfl 1 rfl) ?_
        refine g1 (pc' := 190) (w_aload_n X dL_law_189 rfl 0 rfl) ?_
        refine g1 (pc' := 191) (w_iload_n X dL_law_190 rfl 3 rfl) ?_
        refine g1 (pc' := 192) (w_iconst X (1) dL_law_191 (by decide)) ?_
        refine g1 (pc' := 193) (w_iadd X dL_law_192) ?_
        refine g_gd (fun h4 => ?_)
        refine g1 (pc' := 194) (w_sld X hX h4 dL_law_193) ?_
        refine g_bd (pc' := 197) (fun r5 => [(0, .ref bs), (1, .ref (xb x + 0)), (2, .ref (xb x + 128)), (3, .int s18.1)]) (fun r5 => [.int r5.1]) (fun r5 => r5.2) (fun r5 h => k_X11_feed X hR hN Z kd_0 mw_372 (by decide) (Nat.le_of_ble_eq_true rfl) dL_law_194 h) (fun r5 => ?_)
        show Gz x 4 197 [(0, .ref bs), (1, .ref (xb x + 0)), (2, .ref (xb x + 128)), (3, .int s18.1)] [.int r5.1] KDF r5.2 _ _
        refine g1 (pc' := 198) (w_aload_n X dL_law_197 rfl 2 rfl) ?_
        refine g1 (pc' := 199) (w_aload_n X dL_law_198 rfl 0 rfl) ?_
        refine g1 (pc' := 200) (w_iload_n X dL_law_199 rfl 3 rfl) ?_
        refine g1 (pc' := 201) (w_iconst X (1) dL_law_200 (by decide)) ?_
        refine g1 (pc' := 202) (w_iadd X dL_law_201) ?_
        refine g_gd (fun h6 => ?_)
        refine g1 (pc' := 203) (w_sld X hX h6 dL_law_202) ?_
        refine g_bd (pc' := 206) (fun r7 => [(0, .ref bs), (1, .ref (xb x + 0)), (2, .ref (xb x + 128)), (3, .int s18.1)]) (fun r7 => [.int r7.1, .int r5.1]) (fun r7 => r7.2) (fun r7 h => k_X12_feed X hR hN Z kd_128 mw_1051 (by decide) (Nat.le_of_ble_eq_true rfl) dL_law_203 h) (fun r7 => ?_)
        show Gz x 4 206 [(0, .ref bs), (1, .ref (xb x + 0)), (2, .ref (xb x + 128)), (3, .int s18.1)] [.int r7.1, .int r5.1] KDF r7.2 _ _
        refine g_if (pcT := 999) (pcF := 209) (w_icmp_eq (tgt := 999) X dL_law_206 (by decide)) (fun h8 => ?_) (fun h8 => ?_)
        · refine g_lt (pc' := 1002) (fun v9 => [(3, .int v9), (0, .ref bs), (1, .ref (xb x + 0)), (2, .ref (xb x + 128))]) (fun v9 => []) (fun v9 => r7.2) (w_iinc X dL_law_999 3 rfl rfl (by decide) rfl) (fun v9 => ?_)
          show Gz x 4 1002 [(3, .int v9), (0, .ref bs), (1, .ref (xb x + 0)), (2, .ref (xb x + 128))] [] KDF r7.2 _ _
          refine g1 (pc' := 18) (w_goto X dL_law_1002 (by decide)) ?_
          refine g_inl ?_
          exact g_end [1, 2, 3, 0] rfl rfl rfl
        · refine g1 (pc' := 210) (w_iconst X (0) dL_law_209 (by decide)) ?_
          exact g_none
      · refine g_by (fun h10 => ?_) (fun h10 => ?_)
        · refine g1 (pc' := 211) (w_tsIn (off := 179) X dL_law_32 (1) (by rw [h10]; rfl) (by decide) (by decide) rfl (by decide)) ?_
          refine g1 (pc' := 212) (w_aload_n X dL_law_211 rfl 1 rfl) ?_
          refine g_bd (pc' := 215) (fun r11 => [(0, .ref bs), (1, .ref (xb x + 0)), (2, .ref (xb x + 128)), (3, .int s18.1)]) (fun r11 => [.int r11.1]) (fun r11 => r11.2) (fun r11 h => k_X11_tower X hR hN Z kd_0 mw_382 (by decide) (Nat.le_of_ble_eq_true rfl) dL_law_212 h) (fun r11 => ?_)
          show Gz x 4 215 [(0, .ref bs), (1, .ref (xb x + 0)), (2, .ref (xb x + 128)), (3, .int s18.1)] [.int r11.1] KDF r11.2 _ _
          refine g1 (pc' := 216) (w_aload_n X dL_law_215 rfl 2 rfl) ?_
          refine g_bd (pc' := 219) (fun r12 => [(0, .ref bs), (1, .ref (xb x + 0)), (2, .ref (xb x + 128)), (3, .int s18.1)]) (fun r12 => [.int r12.1, .int r11.1]) (fun r12 => r12.2) (fun r12 h => k_X12_tower X hR hN Z kd_128 mw_1060 (by decide) (Nat.le_of_ble_eq_true rfl) dL_law_216 h) (fun r12 => ?_)
          show Gz x 4 219 [(0, .ref bs), (1, .ref (xb x + 0)), (2, .ref (xb x + 128)), (3, .int s18.1)] [.int r12.1, .int r11.1] KDF r12.2 _ _
          refine g_if (pcT := 999) (pcF := 222) (w_icmp_eq (tgt := 999) X dL_law_219 (by decide)) (fun h13 => ?_) (fun h13 => ?_)
          · refine g_lt (pc' := 1002) (fun v14 => [(3, .int v14), (0, .ref bs), (1, .ref (xb x + 0)), (2, .ref (xb x + 128))]) (fun v14 => []) (fun v14 => r12.2) (w_iinc X dL_law_999 3 rfl rfl (by decide) rfl) (fun v14 => ?_)
            show Gz x 4 1002 [(3, .int v14), (0, .ref bs), (1, .ref (xb x + 0)), (2, .ref (xb x + 128))] [] KDF r12.2 _ _
            refine g1 (pc' := 18) (w_goto X dL_law_1002 (by decide)) ?_
            refine g_inl ?_
            exact g_end [1, 2, 3, 0] rfl rfl rfl
          · refine g1 (pc' := 223) (w_iconst X (0) dL_law_222 (by decide)) ?_
            exact g_none
        · refine g_by (fun h15 => ?_) (fun h15 => ?_)
          · refine g1 (pc' := 224) (w_tsIn (off := 192) X dL_law_32 (2) (by rw [h15]; rfl) (by decide) (by decide) rfl (by decide)) ?_
            refine g1 (pc' := 225) (w_aload_n X dL_law_224 rfl 1 rfl) ?_
            refine g1 (pc' := 228) (k_X11_fault X hR hN Z kd_0 mw_500 (by decide) (Nat.le_of_ble_eq_true rfl) dL_law_225) ?_
            refine g1 (pc' := 229) (w_aload_n X dL_law_228 rfl 2 rfl) ?_
            refine g1 (pc' := 232) (k_X12_fault X hR hN Z kd_128 mw_1120 (by decide) (Nat.le_of_ble_eq_true rfl) dL_law_229) ?_
            refine g_if (pcT := 999) (pcF := 235) (w_icmp_eq (tgt := 999) X dL_law_232 (by decide)) (fun h16 => ?_) (fun h16 => ?_)
            · refine g_lt (pc' := 1002) (fun v17 => [(3, .int v17), (0, .ref bs), (1, .ref (xb x + 0)), (2, .ref (xb x + 128))]) (fun v17 => []) (fun v17 => s18.2) (w_iinc X dL_law_999 3 rfl rfl (by decide) rfl) (fun v17 => ?_)
              show Gz x 4 1002 [(3, .int v17), (0, .ref bs), (1, .ref (xb x + 0)), (2, .ref (xb x + 128))] [] KDF s18.2 _ _
              refine g1 (pc' := 18) (w_goto X dL_law_1002 (by decide)) ?_
              refine g_inl ?_
              exact g_end [1, 2, 3, 0] rfl rfl rfl
            · refine g1 (pc' := 236) (w_iconst X (0) dL_law_235 (by decide)) ?_
              exact g_none
          · refine g_by (fun h18 => ?_) (fun h18 => ?_)
            · refine g1 (pc' := 237) (w_tsIn (off := 205) X dL_law_32 (3) (by rw [h18]; rfl) (by decide) (by decide) rfl (by decide)) ?_
              refine g1 (pc' := 238) (w_aload_n X dL_law_237 rfl 1 rfl) ?_
              refine g1 (pc' := 239) (w_aload_n X dL_law_238 rfl 0 rfl) ?_
              refine g1 (pc' := 240) (w_iload_n X dL_law_239 rfl 3 rfl) ?_
              refine g1 (pc' := 241) (w_iconst X (1) dL_law_240 (by decide)) ?_
              refine g1 (pc' := 242) (w_iadd X dL_law_241) ?_
              refine g_gd (fun h19 => ?_)
              refine g1 (pc' := 243) (w_sld X hX h19 dL_law_242) ?_
              refine g_bd (pc' := 246) (fun r20 => [(0, .ref bs), (1, .ref (xb x + 0)), (2, .ref (xb x + 128)), (3, .int s18.1)]) (fun r20 => [.int r20]) (fun r20 => s18.2) (fun r20 h => k_X11_told X hR hN Z kd_0 mw_504 (by decide) (Nat.le_of_ble_eq_true rfl) dL_law_243 h) (fun r20 => ?_)
              show Gz x 4 246 [(0, .ref bs), (1, .ref (xb x + 0)), (2, .ref (xb x + 128)), (3, .int s18.1)] [.int r20] KDF s18.2 _ _
              refine g1 (pc' := 247) (w_aload_n X dL_law_246 rfl 2 rfl) ?_
              refine g1 (pc' := 248) (w_aload_n X dL_law_247 rfl 0 rfl) ?_
              refine g1 (pc' := 249) (w_iload_n X dL_law_248 rfl 3 rfl) ?_
              refine g1 (pc' := 250) (w_iconst X (1) dL_law_249 (by decide)) ?_
              refine g1 (pc' := 251) (w_iadd X dL_law_250) ?_
              refine g_gd (fun h21 => ?_)
              refine g1 (pc' := 252) (w_sld X hX h21 dL_law_251) ?_
              refine g_bd (pc' := 255) (fun r22 => [(0, .ref bs), (1, .ref (xb x + 0)), (2, .ref (xb x + 128)), (3, .int s18.1)]) (fun r22 => [.int r22.1, .int r20]) (fun r22 => r22.2) (fun r22 h => k_X12_told X hR hN Z kd_128 mw_1124 (by decide) (Nat.le_of_ble_eq_true rfl) dL_law_252 h) (fun r22 => ?_)
              show Gz x 4 255 [(0, .ref bs), (1, .ref (xb x + 0)), (2, .ref (xb x + 128)), (3, .int s18.1)] [.int r22.1, .int r20] KDF r22.2 _ _
              refine g_if (pcT := 999) (pcF := 258) (w_icmp_eq (tgt := 999) X dL_law_255 (by decide)) (fun h23 => ?_) (fun h23 => ?_)
              · refine g_lt (pc' := 1002) (fun v24 => [(3, .int v24), (0, .ref bs), (1, .ref (xb x + 0)), (2, .ref (xb x + 128))]) (fun v24 => []) (fun v24 => r22.2) (w_iinc X dL_law_999 3 rfl rfl (by decide) rfl) (fun v24 => ?_)
                show Gz x 4 1002 [(3, .int v24), (0, .ref bs), (1, .ref (xb x + 0)), (2, .ref (xb x + 128))] [] KDF r22.2 _ _
                refine g1 (pc' := 18) (w_goto X dL_law_1002 (by decide)) ?_
                refine g_inl ?_
                exact g_end [1, 2, 3, 0] rfl rfl rfl
              · refine g1 (pc' := 259) (w_iconst X (0) dL_law_258 (by decide)) ?_
                exact g_none
            · refine g_by (fun h25 => ?_) (fun h25 => ?_)
              · refine g1 (pc' := 260) (w_tsIn (off := 228) X dL_law_32 (4) (by rw [h25]; rfl) (by decide) (by decide) rfl (by decide)) ?_
                refine g1 (pc' := 261) (w_aload_n X dL_law_260 rfl 1 rfl) ?_
                refine g1 (pc' := 262) (w_aload_n X dL_law_261 rfl 0 rfl) ?_
                refine g1 (pc' := 263) (w_iload_n X dL_law_262 rfl 3 rfl) ?_
                refine g1 (pc' := 264) (w_iconst X (1) dL_law_263 (by decide)) ?_
                refine g1 (pc' := 265) (w_iadd X dL_law_264) ?_
                refine g_gd (fun h26 => ?_)
                refine g1 (pc' := 266) (w_sld X hX h26 dL_law_265) ?_
                refine g_bd (pc' := 269) (fun r27 => [(0, .ref bs), (1, .ref (xb x + 0)), (2, .ref (xb x + 128)), (3, .int s18.1)]) (fun r27 => [.int r27]) (fun r27 => s18.2) (fun r27 h => k_X11_method X hR hN Z kd_0 mw_536 (by decide) (Nat.le_of_ble_eq_true rfl) dL_law_266 h) (fun r27 => ?_)
                show Gz x 4 269 [(0, .ref bs), (1, .ref (xb x + 0)), (2, .ref (xb x + 128)), (3, .int s18.1)] [.int r27] KDF s18.2 _ _
                refine g1 (pc' := 270) (w_aload_n X dL_law_269 rfl 2 rfl) ?_
                refine g1 (pc' := 271) (w_aload_n X dL_law_270 rfl 0 rfl) ?_
                refine g1 (pc' := 272) (w_iload_n X dL_law_271 rfl 3 rfl) ?_
                refine g1 (pc' := 273) (w_iconst X (1) dL_law_272 (by decide)) ?_
                refine g1 (pc' := 274) (w_iadd X dL_law_273) ?_
                refine g_gd (fun h28 => ?_)
                refine g1 (pc' := 275) (w_sld X hX h28 dL_law_274) ?_
                refine g_bd (pc' := 278) (fun r29 => [(0, .ref bs), (1, .ref (xb x + 0)), (2, .ref (xb x + 128)), (3, .int s18.1)]) (fun r29 => [.int r29, .int r27]) (fun r29 => s18.2) (fun r29 h => k_X12_method X hR hN Z kd_128 mw_1156 (by decide) (Nat.le_of_ble_eq_true rfl) dL_law_275 h) (fun r29 => ?_)
                show Gz x 4 278 [(0, .ref bs), (1, .ref (xb x + 0)), (2, .ref (xb x + 128)), (3, .int s18.1)] [.int r29, .int r27] KDF s18.2 _ _
                refine g_if (pcT := 999) (pcF := 281) (w_icmp_eq (tgt := 999) X dL_law_278 (by decide)) (fun h30 => ?_) (fun h30 => ?_)
                · refine g_lt (pc' := 1002) (fun v31 => [(3, .int v31), (0, .ref bs), (1, .ref (xb x + 0)), (2, .ref (xb x + 128))]) (fun v31 => []) (fun v31 => s18.2) (w_iinc X dL_law_999 3 rfl rfl (by decide) rfl) (fun v31 => ?_)
                  show Gz x 4 1002 [(3, .int v31), (0, .ref bs), (1, .ref (xb x + 0)), (2, .ref (xb x + 128))] [] KDF s18.2 _ _
                  refine g1 (pc' := 18) (w_goto X dL_law_1002 (by decide)) ?_
                  refine g_inl ?_
                  exact g_end [1, 2, 3, 0] rfl rfl rfl
                · refine g1 (pc' := 282) (w_iconst X (0) dL_law_281 (by decide)) ?_
                  exact g_none
              · refine g_by (fun h32 => ?_) (fun h32 => ?_)
                · refine g1 (pc' := 283) (w_tsIn (off := 251) X dL_law_32 (5) (by rw [h32]; rfl) (by decide) (by decide) rfl (by decide)) ?_
                  refine g1 (pc' := 284) (w_aload_n X dL_law_283 rfl 1 rfl) ?_
                  refine g1 (pc' := 285) (w_aload_n X dL_law_284 rfl 0 rfl) ?_
                  refine g1 (pc' := 286) (w_iload_n X dL_law_285 rfl 3 rfl) ?_
                  refine g1 (pc' := 287) (w_iconst X (1) dL_law_286 (by decide)) ?_
                  refine g1 (pc' := 288) (w_iadd X dL_law_287) ?_
                  refine g_gd (fun h33 => ?_)
                  refine g1 (pc' := 289) (w_sld X hX h33 dL_law_288) ?_
                  refine g1 (pc' := 290) (w_aload_n X dL_law_289 rfl 0 rfl) ?_
                  refine g1 (pc' := 291) (w_iload_n X dL_law_290 rfl 3 rfl) ?_
                  refine g1 (pc' := 292) (w_iconst X (2) dL_law_291 (by decide)) ?_
                  refine g1 (pc' := 293) (w_iadd X dL_law_292) ?_
                  refine g_gd (fun h34 => ?_)
                  refine g1 (pc' := 294) (w_sld X hX h34 dL_law_293) ?_
                  refine g_bd (pc' := 297) (fun r35 => [(0, .ref bs), (1, .ref (xb x + 0)), (2, .ref (xb x + 128)), (3, .int s18.1)]) (fun r35 => [.int r35]) (fun r35 => s18.2) (fun r35 h => k_X11_bell X hR hN Z kd_0 mw_546 (by decide) (Nat.le_of_ble_eq_true rfl) dL_law_294 h) (fun r35 => ?_)
                  show Gz x 4 297 [(0, .ref bs), (1, .ref (xb x + 0)), (2, .ref (xb x + 128)), (3, .int s18.1)] [.int r35] KDF s18.2 _ _
                  refine g1 (pc' := 298) (w_aload_n X dL_law_297 rfl 2 rfl) ?_
                  refine g1 (pc' := 299) (w_aload_n X dL_law_298 rfl 0 rfl) ?_
                  refine g1 (pc' := 300) (w_iload_n X dL_law_299 rfl 3 rfl) ?_
                  refine g1 (pc' := 301) (w_iconst X (1) dL_law_300 (by decide)) ?_
                  refine g1 (pc' := 302) (w_iadd X dL_law_301) ?_
                  refine g_gd (fun h36 => ?_)
                  refine g1 (pc' := 303) (w_sld X hX h36 dL_law_302) ?_
                  refine g1 (pc' := 304) (w_aload_n X dL_law_303 rfl 0 rfl) ?_
                  refine g1 (pc' := 305) (w_iload_n X dL_law_304 rfl 3 rfl) ?_
                  refine g1 (pc' := 306) (w_iconst X (2) dL_law_305 (by decide)) ?_
                  refine g1 (pc' := 307) (w_iadd X dL_law_306) ?_
                  refine g_gd (fun h37 => ?_)
                  refine g1 (pc' := 308) (w_sld X hX h37 dL_law_307) ?_
                  refine g_bd (pc' := 311) (fun r38 => [(0, .ref bs), (1, .ref (xb x + 0)), (2, .ref (xb x + 128)), (3, .int s18.1)]) (fun r38 => [.int r38, .int r35]) (fun r38 => s18.2) (fun r38 h => k_X12_bell X hR hN Z kd_128 mw_1165 (by decide) (Nat.le_of_ble_eq_true rfl) dL_law_308 h) (fun r38 => ?_)
                  show Gz x 4 311 [(0, .ref bs), (1, .ref (xb x + 0)), (2, .ref (xb x + 128)), (3, .int s18.1)] [.int r38, .int r35] KDF s18.2 _ _
                  refine g_if (pcT := 999) (pcF := 314) (w_icmp_eq (tgt := 999) X dL_law_311 (by decide)) (fun h39 => ?_) (fun h39 => ?_)
                  · refine g_lt (pc' := 1002) (fun v40 => [(3, .int v40), (0, .ref bs), (1, .ref (xb x + 0)), (2, .ref (xb x + 128))]) (fun v40 => []) (fun v40 => s18.2) (w_iinc X dL_law_999 3 rfl rfl (by decide) rfl) (fun v40 => ?_)
                    show Gz x 4 1002 [(3, .int v40), (0, .ref bs), (1, .ref (xb x + 0)), (2, .ref (xb x + 128))] [] KDF s18.2 _ _
                    refine g1 (pc' := 18) (w_goto X dL_law_1002 (by decide)) ?_
                    refine g_inl ?_
                    exact g_end [1, 2, 3, 0] rfl rfl rfl
                  · refine g1 (pc' := 315) (w_iconst X (0) dL_law_314 (by decide)) ?_
                    exact g_none
                · refine g_by (fun h41 => ?_) (fun h41 => ?_)
                  · refine g1 (pc' := 316) (w_tsIn (off := 284) X dL_law_32 (6) (by rw [h41]; rfl) (by decide) (by decide) rfl (by decide)) ?_
                    refine g1 (pc' := 317) (w_aload_n X dL_law_316 rfl 1 rfl) ?_
                    refine g1 (pc' := 318) (w_aload_n X dL_law_317 rfl 0 rfl) ?_
                    refine g1 (pc' := 319) (w_iload_n X dL_law_318 rfl 3 rfl) ?_
                    refine g1 (pc' := 320) (w_iconst X (1) dL_law_319 (by decide)) ?_
                    refine g1 (pc' := 321) (w_iadd X dL_law_320) ?_
                    refine g_gd (fun h42 => ?_)
                    refine g1 (pc' := 322) (w_sld X hX h42 dL_law_321) ?_
                    refine g1 (pc' := 323) (w_aload_n X dL_law_322 rfl 0 rfl) ?_
                    refine g1 (pc' := 324) (w_iload_n X dL_law_323 rfl 3 rfl) ?_
                    refine g1 (pc' := 325) (w_iconst X (2) dL_law_324 (by decide)) ?_
                    refine g1 (pc' := 326) (w_iadd X dL_law_325) ?_
                    refine g_gd (fun h43 => ?_)
                    refine g1 (pc' := 327) (w_sld X hX h43 dL_law_326) ?_
                    refine g_bd (pc' := 330) (fun r44 => [(0, .ref bs), (1, .ref (xb x + 0)), (2, .ref (xb x + 128)), (3, .int s18.1)]) (fun r44 => [.int r44]) (fun r44 => s18.2) (fun r44 h => k_X11_suitor X hR hN Z kd_0 mw_571 (by decide) (Nat.le_of_ble_eq_true rfl) dL_law_327 h) (fun r44 => ?_)
                    show Gz x 4 330 [(0, .ref bs), (1, .ref (xb x + 0)), (2, .ref (xb x + 128)), (3, .int s18.1)] [.int r44] KDF s18.2 _ _
                    refine g1 (pc' := 331) (w_aload_n X dL_law_330 rfl 2 rfl) ?_
                    refine g1 (pc' := 332) (w_aload_n X dL_law_331 rfl 0 rfl) ?_
                    refine g1 (pc' := 333) (w_iload_n X dL_law_332 rfl 3 rfl) ?_
                    refine g1 (pc' := 334) (w_iconst X (1) dL_law_333 (by decide)) ?_
                    refine g1 (pc' := 335) (w_iadd X dL_law_334) ?_
                    refine g_gd (fun h45 => ?_)
                    refine g1 (pc' := 336) (w_sld X hX h45 dL_law_335) ?_
                    refine g1 (pc' := 337) (w_aload_n X dL_law_336 rfl 0 rfl) ?_
                    refine g1 (pc' := 338) (w_iload_n X dL_law_337 rfl 3 rfl) ?_
                    refine g1 (pc' := 339) (w_iconst X (2) dL_law_338 (by decide)) ?_
                    refine g1 (pc' := 340) (w_iadd X dL_law_339) ?_
                    refine g_gd (fun h46 => ?_)
                    refine g1 (pc' := 341) (w_sld X hX h46 dL_law_340) ?_
                    refine g_bd (pc' := 344) (fun r47 => [(0, .ref bs), (1, .ref (xb x + 0)), (2, .ref (xb x + 128)), (3, .int s18.1)]) (fun r47 => [.int r47, .int r44]) (fun r47 => s18.2) (fun r47 h => k_X12_suitor X hR hN Z kd_128 mw_1178 (by decide) (Nat.le_of_ble_eq_true rfl) dL_law_341 h) (fun r47 => ?_)
                    show Gz x 4 344 [(0, .ref bs), (1, .ref (xb x + 0)), (2, .ref (xb x + 128)), (3, .int s18.1)] [.int r47, .int r44] KDF s18.2 _ _
                    refine g_if (pcT := 999) (pcF := 347) (w_icmp_eq (tgt := 999) X dL_law_344 (by decide)) (fun h48 => ?_) (fun h48 => ?_)
                    · refine g_lt (pc' := 1002) (fun v49 => [(3, .int v49), (0, .ref bs), (1, .ref (xb x + 0)), (2, .ref (xb x + 128))]) (fun v49 => []) (fun v49 => s18.2) (w_iinc X dL_law_999 3 rfl rfl (by decide) rfl) (fun v49 => ?_)
                      show Gz x 4 1002 [(3, .int v49), (0, .ref bs), (1, .ref (xb x + 0)), (2, .ref (xb x + 128))] [] KDF s18.2 _ _
                      refine g1 (pc' := 18) (w_goto X dL_law_1002 (by decide)) ?_
                      refine g_inl ?_
                      exact g_end [1, 2, 3, 0] rfl rfl rfl
                    · refine g1 (pc' := 348) (w_iconst X (0) dL_law_347 (by decide)) ?_
                      exact g_none
                  · refine g_by (fun h50 => ?_) (fun h50 => ?_)
                    · refine g1 (pc' := 349) (w_tsIn (off := 317) X dL_law_32 (7) (by rw [h50]; rfl) (by decide) (by decide) rfl (by decide)) ?_
                      refine g1 (pc' := 350) (w_aload_n X dL_law_349 rfl 1 rfl) ?_
                      refine g1 (pc' := 351) (w_aload_n X dL_law_350 rfl 0 rfl) ?_
                      refine g1 (pc' := 352) (w_iload_n X dL_law_351 rfl 3 rfl) ?_
                      refine g1 (pc' := 353) (w_iconst X (1) dL_law_352 (by decide)) ?_
                      refine g1 (pc' := 354) (w_iadd X dL_law_353) ?_
                      refine g_gd (fun h51 => ?_)
                      refine g1 (pc' := 355) (w_sld X hX h51 dL_law_354) ?_
                      refine g_bd (pc' := 358) (fun r52 => [(0, .ref bs), (1, .ref (xb x + 0)), (2, .ref (xb x + 128)), (3, .int s18.1)]) (fun r52 => [.int r52.1]) (fun r52 => r52.2) (fun r52 h => k_X11_ring X hR hN Z kd_0 mw_590 (by decide) (Nat.le_of_ble_eq_true rfl) dL_law_355 h) (fun r52 => ?_)
                      show Gz x 4 358 [(0, .ref bs), (1, .ref (xb x + 0)), (2, .ref (xb x + 128)), (3, .int s18.1)] [.int r52.1] KDF r52.2 _ _
                      refine g1 (pc' := 359) (w_aload_n X dL_law_358 rfl 2 rfl) ?_
                      refine g1 (pc' := 360) (w_aload_n X dL_law_359 rfl 0 rfl) ?_
                      refine g1 (pc' := 361) (w_iload_n X dL_law_360 rfl 3 rfl) ?_
                      refine g1 (pc' := 362) (w_iconst X (1) dL_law_361 (by decide)) ?_
                      refine g1 (pc' := 363) (w_iadd X dL_law_362) ?_
                      refine g_gd (fun h53 => ?_)
                      refine g1 (pc' := 364) (w_sld X hX h53 dL_law_363) ?_
                      refine g_bd (pc' := 367) (fun r54 => [(0, .ref bs), (1, .ref (xb x + 0)), (2, .ref (xb x + 128)), (3, .int s18.1)]) (fun r54 => [.int r54.1, .int r52.1]) (fun r54 => r54.2) (fun r54 h => k_X12_ring X hR hN Z kd_128 mw_1186 (by decide) (Nat.le_of_ble_eq_true rfl) dL_law_364 h) (fun r54 => ?_)
                      show Gz x 4 367 [(0, .ref bs), (1, .ref (xb x + 0)), (2, .ref (xb x + 128)), (3, .int s18.1)] [.int r54.1, .int r52.1] KDF r54.2 _ _
                      refine g_if (pcT := 999) (pcF := 370) (w_icmp_eq (tgt := 999) X dL_law_367 (by decide)) (fun h55 => ?_) (fun h55 => ?_)
                      · refine g_lt (pc' := 1002) (fun v56 => [(3, .int v56), (0, .ref bs), (1, .ref (xb x + 0)), (2, .ref (xb x + 128))]) (fun v56 => []) (fun v56 => r54.2) (w_iinc X dL_law_999 3 rfl rfl (by decide) rfl) (fun v56 => ?_)
                        show Gz x 4 1002 [(3, .int v56), (0, .ref bs), (1, .ref (xb x + 0)), (2, .ref (xb x + 128))] [] KDF r54.2 _ _
                        refine g1 (pc' := 18) (w_goto X dL_law_1002 (by decide)) ?_
                        refine g_inl ?_
                        exact g_end [1, 2, 3, 0] rfl rfl rfl
                      · refine g1 (pc' := 371) (w_iconst X (0) dL_law_370 (by decide)) ?_
                        exact g_none
                    · refine g_by (fun h57 => ?_) (fun h57 => ?_)
                      · refine g1 (pc' := 372) (w_tsIn (off := 340) X dL_law_32 (8) (by rw [h57]; rfl) (by decide) (by decide) rfl (by decide)) ?_
                        refine g1 (pc' := 373) (w_aload_n X dL_law_372 rfl 1 rfl) ?_
                        refine g_bd (pc' := 376) (fun r58 => [(0, .ref bs), (1, .ref (xb x + 0)), (2, .ref (xb x + 128)), (3, .int s18.1)]) (fun r58 => [.int r58.1]) (fun r58 => r58.2) (fun r58 h => k_X11_call X hR hN Z kd_0 mw_660 (by decide) (Nat.le_of_ble_eq_true rfl) dL_law_373 h) (fun r58 => ?_)
                        show Gz x 4 376 [(0, .ref bs), (1, .ref (xb x + 0)), (2, .ref (xb x + 128)), (3, .int s18.1)] [.int r58.1] KDF r58.2 _ _
                        refine g1 (pc' := 377) (w_aload_n X dL_law_376 rfl 2 rfl) ?_
                        refine g_bd (pc' := 380) (fun r59 => [(0, .ref bs), (1, .ref (xb x + 0)), (2, .ref (xb x + 128)), (3, .int s18.1)]) (fun r59 => [.int r59.1, .int r58.1]) (fun r59 => r59.2) (fun r59 h => k_X12_call X hR hN Z kd_128 mw_1206 (by decide) (Nat.le_of_ble_eq_true rfl) dL_law_377 h) (fun r59 => ?_)
                        show Gz x 4 380 [(0, .ref bs), (1, .ref (xb x + 0)), (2, .ref (xb x + 128)), (3, .int s18.1)] [.int r59.1, .int r58.1] KDF r59.2 _ _
                        refine g_if (pcT := 999) (pcF := 383) (w_icmp_eq (tgt := 999) X dL_law_380 (by decide)) (fun h60 => ?_) (fun h60 => ?_)
                        · refine g_lt (pc' := 1002) (fun v61 => [(3, .int v61), (0, .ref bs), (1, .ref (xb x + 0)), (2, .ref (xb x + 128))]) (fun v61 => []) (fun v61 => r59.2) (w_iinc X dL_law_999 3 rfl rfl (by decide) rfl) (fun v61 => ?_)
                          show Gz x 4 1002 [(3, .int v61), (0, .ref bs), (1, .ref (xb x + 0)), (2, .ref (xb x + 128))] [] KDF r59.2 _ _
                          refine g1 (pc' := 18) (w_goto X dL_law_1002 (by decide)) ?_
                          refine g_inl ?_
                          exact g_end [1, 2, 3, 0] rfl rfl rfl
                        · refine g1 (pc' := 384) (w_iconst X (0) dL_law_383 (by decide)) ?_
                          exact g_none
                      · refine g_by (fun h62 => ?_) (fun h62 => ?_)
                        · refine g1 (pc' := 385) (w_tsIn (off := 353) X dL_law_32 (9) (by rw [h62]; rfl) (by decide) (by decide) rfl (by decide)) ?_
                          refine g1 (pc' := 386) (w_aload_n X dL_law_385 rfl 1 rfl) ?_
                          refine g1 (pc' := 387) (w_aload_n X dL_law_386 rfl 0 rfl) ?_
                          refine g1 (pc' := 388) (w_iload_n X dL_law_387 rfl 3 rfl) ?_
                          refine g1 (pc' := 389) (w_iconst X (1) dL_law_388 (by decide)) ?_
                          refine g1 (pc' := 390) (w_iadd X dL_law_389) ?_
                          refine g_gd (fun h63 => ?_)
                          refine g1 (pc' := 391) (w_sld X hX h63 dL_law_390) ?_
                          refine g1 (pc' := 392) (w_aload_n X dL_law_391 rfl 0 rfl) ?_
                          refine g1 (pc' := 393) (w_iload_n X dL_law_392 rfl 3 rfl) ?_
                          refine g1 (pc' := 394) (w_iconst X (2) dL_law_393 (by decide)) ?_
                          refine g1 (pc' := 395) (w_iadd X dL_law_394) ?_
                          refine g_gd (fun h64 => ?_)
                          refine g1 (pc' := 396) (w_sld X hX h64 dL_law_395) ?_
                          refine g_bd (pc' := 399) (fun r65 => [(0, .ref bs), (1, .ref (xb x + 0)), (2, .ref (xb x + 128)), (3, .int s18.1)]) (fun r65 => [.int r65.1]) (fun r65 => r65.2) (fun r65 h => k_X11_swap X hR hN Z kd_0 mw_664 (by decide) (Nat.le_of_ble_eq_true rfl) dL_law_396 h) (fun r65 => ?_)
                          show Gz x 4 399 [(0, .ref bs), (1, .ref (xb x + 0)), (2, .ref (xb x + 128)), (3, .int s18.1)] [.int r65.1] KDF r65.2 _ _
                          refine g1 (pc' := 400) (w_aload_n X dL_law_399 rfl 2 rfl) ?_
                          refine g1 (pc' := 401) (w_aload_n X dL_law_400 rfl 0 rfl) ?_
                          refine g1 (pc' := 402) (w_iload_n X dL_law_401 rfl 3 rfl) ?_
                          refine g1 (pc' := 403) (w_iconst X (1) dL_law_402 (by decide)) ?_
                          refine g1 (pc' := 404) (w_iadd X dL_law_403) ?_
                          refine g_gd (fun h66 => ?_)
                          refine g1 (pc' := 405) (w_sld X hX h66 dL_law_404) ?_
                          refine g1 (pc' := 406) (w_aload_n X dL_law_405 rfl 0 rfl) ?_
                          refine g1 (pc' := 407) (w_iload_n X dL_law_406 rfl 3 rfl) ?_
                          refine g1 (pc' := 408) (w_iconst X (2) dL_law_407 (by decide)) ?_
                          refine g1 (pc' := 409) (w_iadd X dL_law_408) ?_
                          refine g_gd (fun h67 => ?_)
                          refine g1 (pc' := 410) (w_sld X hX h67 dL_law_409) ?_
                          refine g_bd (pc' := 413) (fun r68 => [(0, .ref bs), (1, .ref (xb x + 0)), (2, .ref (xb x + 128)), (3, .int s18.1)]) (fun r68 => [.int r68.1, .int r65.1]) (fun r68 => r68.2) (fun r68 h => k_X12_swap X hR hN Z kd_128 mw_1210 (by decide) (Nat.le_of_ble_eq_true rfl) dL_law_410 h) (fun r68 => ?_)
                          show Gz x 4 413 [(0, .ref bs), (1, .ref (xb x + 0)), (2, .ref (xb x + 128)), (3, .int s18.1)] [.int r68.1, .int r65.1] KDF r68.2 _ _
                          refine g_if (pcT := 999) (pcF := 416) (w_icmp_eq (tgt := 999) X dL_law_413 (by decide)) (fun h69 => ?_) (fun h69 => ?_)
                          · refine g_lt (pc' := 1002) (fun v70 => [(3, .int v70), (0, .ref bs), (1, .ref (xb x + 0)), (2, .ref (xb x + 128))]) (fun v70 => []) (fun v70 => r68.2) (w_iinc X dL_law_999 3 rfl rfl (by decide) rfl) (fun v70 => ?_)
                            show Gz x 4 1002 [(3, .int v70), (0, .ref bs), (1, .ref (xb x + 0)), (2, .ref (xb x + 128))] [] KDF r68.2 _ _
                            refine g1 (pc' := 18) (w_goto X dL_law_1002 (by decide)) ?_
                            refine g_inl ?_
                            exact g_end [1, 2, 3, 0] rfl rfl rfl
                          · refine g1 (pc' := 417) (w_iconst X (0) dL_law_416 (by decide)) ?_
                            exact g_none
                        · refine g_by (fun h71 => ?_) (fun h71 => ?_)
                          · refine g1 (pc' := 418) (w_tsIn (off := 386) X dL_law_32 (10) (by rw [h71]; rfl) (by decide) (by decide) rfl (by decide)) ?_
                            refine g1 (pc' := 419) (w_aload_n X dL_law_418 rfl 1 rfl) ?_
                            refine g_bd (pc' := 422) (fun r72 => [(0, .ref bs), (1, .ref (xb x + 0)), (2, .ref (xb x + 128)), (3, .int s18.1)]) (fun r72 => [.int r72.1]) (fun r72 => r72.2) (fun r72 h => k_X11_stand X hR hN Z kd_0 mw_672 (by decide) (Nat.le_of_ble_eq_true rfl) dL_law_419 h) (fun r72 => ?_)
                            show Gz x 4 422 [(0, .ref bs), (1, .ref (xb x + 0)), (2, .ref (xb x + 128)), (3, .int s18.1)] [.int r72.1] KDF r72.2 _ _
                            refine g1 (pc' := 423) (w_aload_n X dL_law_422 rfl 2 rfl) ?_
                            refine g_bd (pc' := 426) (fun r73 => [(0, .ref bs), (1, .ref (xb x + 0)), (2, .ref (xb x + 128)), (3, .int s18.1)]) (fun r73 => [.int r73.1, .int r72.1]) (fun r73 => r73.2) (fun r73 h => k_X12_stand X hR hN Z kd_128 mw_1217 (by decide) (Nat.le_of_ble_eq_true rfl) dL_law_423 h) (fun r73 => ?_)
                            show Gz x 4 426 [(0, .ref bs), (1, .ref (xb x + 0)), (2, .ref (xb x + 128)), (3, .int s18.1)] [.int r73.1, .int r72.1] KDF r73.2 _ _
                            refine g_if (pcT := 999) (pcF := 429) (w_icmp_eq (tgt := 999) X dL_law_426 (by decide)) (fun h74 => ?_) (fun h74 => ?_)
                            · refine g_lt (pc' := 1002) (fun v75 => [(3, .int v75), (0, .ref bs), (1, .ref (xb x + 0)), (2, .ref (xb x + 128))]) (fun v75 => []) (fun v75 => r73.2) (w_iinc X dL_law_999 3 rfl rfl (by decide) rfl) (fun v75 => ?_)
                              show Gz x 4 1002 [(3, .int v75), (0, .ref bs), (1, .ref (xb x + 0)), (2, .ref (xb x + 128))] [] KDF r73.2 _ _
                              refine g1 (pc' := 18) (w_goto X dL_law_1002 (by decide)) ?_
                              refine g_inl ?_
                              exact g_end [1, 2, 3, 0] rfl rfl rfl
                            · refine g1 (pc' := 430) (w_iconst X (0) dL_law_429 (by decide)) ?_
                              exact g_none
                          · refine g_by (fun h76 => ?_) (fun h76 => ?_)
                            · refine g1 (pc' := 431) (w_tsIn (off := 399) X dL_law_32 (11) (by rw [h76]; rfl) (by decide) (by decide) rfl (by decide)) ?_
                              refine g1 (pc' := 432) (w_aload_n X dL_law_431 rfl 1 rfl) ?_
                              refine g1 (pc' := 433) (w_aload_n X dL_law_432 rfl 0 rfl) ?_
                              refine g1 (pc' := 434) (w_iload_n X dL_law_433 rfl 3 rfl) ?_
                              refine g1 (pc' := 435) (w_iconst X (1) dL_law_434 (by decide)) ?_
                              refine g1 (pc' := 436) (w_iadd X dL_law_435) ?_
                              refine g_gd (fun h77 => ?_)
                              refine g1 (pc' := 437) (w_sld X hX h77 dL_law_436) ?_
                              refine g_ltJ (J := 445) (fun j78 => [(0, .ref bs), (1, .ref (xb x + 0)), (2, .ref (xb x + 128)), (3, .int s18.1)]) (fun j78 => [.int j78, .ref (xb x + 0)]) (fun j78 => s18.2) ?_ (fun j78 => ?_)
                              · refine g_ifS (pcT := 444) (pcF := 440) (w_if_eq (tgt := 444) X dL_law_437 (by decide)) (fun h79 => ?_) (fun h79 => ?_)
                                · refine g1 (pc' := 445) (w_iconst X (0) dL_law_444 (by decide)) ?_
                                  exact g_end [0, 1, 2, 3] rfl rfl rfl
                                · refine g1 (pc' := 441) (w_iconst X (1) dL_law_440 (by decide)) ?_
                                  refine g1 (pc' := 445) (w_goto X dL_law_441 (by decide)) ?_
                                  exact g_end [0, 1, 2, 3] rfl rfl rfl
                              · show Gz x 4 445 [(0, .ref bs), (1, .ref (xb x + 0)), (2, .ref (xb x + 128)), (3, .int s18.1)] [.int j78, .ref (xb x + 0)] KDF s18.2 _ _
                                refine g_bd (pc' := 448) (fun r80 => [(0, .ref bs), (1, .ref (xb x + 0)), (2, .ref (xb x + 128)), (3, .int s18.1)]) (fun r80 => [.int r80.1]) (fun r80 => r80.2) (fun r80 h => k_X11_wet X hR hN Z kd_0 mw_677 (by decide) (Nat.le_of_ble_eq_true rfl) dL_law_445 h) (fun r80 => ?_)
                                show Gz x 4 448 [(0, .ref bs), (1, .ref (xb x + 0)), (2, .ref (xb x + 128)), (3, .int s18.1)] [.int r80.1] KDF r80.2 _ _
                                refine g1 (pc' := 449) (w_aload_n X dL_law_448 rfl 2 rfl) ?_
                                refine g1 (pc' := 450) (w_aload_n X dL_law_449 rfl 0 rfl) ?_
                                refine g1 (pc' := 451) (w_iload_n X dL_law_450 rfl 3 rfl) ?_
                                refine g1 (pc' := 452) (w_iconst X (1) dL_law_451 (by decide)) ?_
                                refine g1 (pc' := 453) (w_iadd X dL_law_452) ?_
                                refine g_gd (fun h81 => ?_)
                                refine g1 (pc' := 454) (w_sld X hX h81 dL_law_453) ?_
                                refine g_ltJ (J := 462) (fun j82 => [(0, .ref bs), (1, .ref (xb x + 0)), (2, .ref (xb x + 128)), (3, .int s18.1)]) (fun j82 => [.int j82, .ref (xb x + 128), .int r80.1]) (fun j82 => r80.2) ?_ (fun j82 => ?_)
                                · refine g_ifS (pcT := 461) (pcF := 457) (w_if_eq (tgt := 461) X dL_law_454 (by decide)) (fun h83 => ?_) (fun h83 => ?_)
                                  · refine g1 (pc' := 462) (w_iconst X (0) dL_law_461 (by decide)) ?_
                                    exact g_end [0, 1, 2, 3] rfl rfl rfl
                                  · refine g1 (pc' := 458) (w_iconst X (1) dL_law_457 (by decide)) ?_
                                    refine g1 (pc' := 462) (w_goto X dL_law_458 (by decide)) ?_
                                    exact g_end [0, 1, 2, 3] rfl rfl rfl
                                · show Gz x 4 462 [(0, .ref bs), (1, .ref (xb x + 0)), (2, .ref (xb x + 128)), (3, .int s18.1)] [.int j82, .ref (xb x + 128), .int r80.1] KDF r80.2 _ _
                                  refine g_bd (pc' := 465) (fun r84 => [(0, .ref bs), (1, .ref (xb x + 0)), (2, .ref (xb x + 128)), (3, .int s18.1)]) (fun r84 => [.int r84.1, .int r80.1]) (fun r84 => r84.2) (fun r84 h => k_X12_wet X hR hN Z kd_128 mw_1221 (by decide) (Nat.le_of_ble_eq_true rfl) dL_law_462 h) (fun r84 => ?_)
                                  show Gz x 4 465 [(0, .ref bs), (1, .ref (xb x + 0)), (2, .ref (xb x + 128)), (3, .int s18.1)] [.int r84.1, .int r80.1] KDF r84.2 _ _
                                  refine g_if (pcT := 999) (pcF := 468) (w_icmp_eq (tgt := 999) X dL_law_465 (by decide)) (fun h85 => ?_) (fun h85 => ?_)
                                  · refine g_lt (pc' := 1002) (fun v86 => [(3, .int v86), (0, .ref bs), (1, .ref (xb x + 0)), (2, .ref (xb x + 128))]) (fun v86 => []) (fun v86 => r84.2) (w_iinc X dL_law_999 3 rfl rfl (by decide) rfl) (fun v86 => ?_)
                                    show Gz x 4 1002 [(3, .int v86), (0, .ref bs), (1, .ref (xb x + 0)), (2, .ref (xb x + 128))] [] KDF r84.2 _ _
                                    refine g1 (pc' := 18) (w_goto X dL_law_1002 (by decide)) ?_
                                    refine g_inl ?_
                                    exact g_end [1, 2, 3, 0] rfl rfl rfl
                                  · refine g1 (pc' := 469) (w_iconst X (0) dL_law_468 (by decide)) ?_
                                    exact g_none
                            · refine g_by (fun h87 => ?_) (fun h87 => ?_)
                              · refine g1 (pc' := 470) (w_tsIn (off := 438) X dL_law_32 (12) (by rw [h87]; rfl) (by decide) (by decide) rfl (by decide)) ?_
                                refine g1 (pc' := 471) (w_aload_n X dL_law_470 rfl 1 rfl) ?_
                                refine g1 (pc' := 472) (w_aload_n X dL_law_471 rfl 0 rfl) ?_
                                refine g1 (pc' := 473) (w_iload_n X dL_law_472 rfl 3 rfl) ?_
                                refine g1 (pc' := 474) (w_iconst X (1) dL_law_473 (by decide)) ?_
                                refine g1 (pc' := 475) (w_iadd X dL_law_474) ?_
                                refine g_gd (fun h88 => ?_)
                                refine g1 (pc' := 476) (w_sld X hX h88 dL_law_475) ?_
                                refine g_bd (pc' := 479) (fun r89 => [(0, .ref bs), (1, .ref (xb x + 0)), (2, .ref (xb x + 128)), (3, .int s18.1)]) (fun r89 => [.int r89.1]) (fun r89 => r89.2) (fun r89 h => k_X11_forgive X hR hN Z kd_0 mw_681 (by decide) (Nat.le_of_ble_eq_true rfl) dL_law_476 h) (fun r89 => ?_)
                                show Gz x 4 479 [(0, .ref bs), (1, .ref (xb x + 0)), (2, .ref (xb x + 128)), (3, .int s18.1)] [.int r89.1] KDF r89.2 _ _
                                refine g1 (pc' := 480) (w_aload_n X dL_law_479 rfl 2 rfl) ?_
                                refine g1 (pc' := 481) (w_aload_n X dL_law_480 rfl 0 rfl) ?_
                                refine g1 (pc' := 482) (w_iload_n X dL_law_481 rfl 3 rfl) ?_
                                refine g1 (pc' := 483) (w_iconst X (1) dL_law_482 (by decide)) ?_
                                refine g1 (pc' := 484) (w_iadd X dL_law_483) ?_
                                refine g_gd (fun h90 => ?_)
                                refine g1 (pc' := 485) (w_sld X hX h90 dL_law_484) ?_
                                refine g_bd (pc' := 488) (fun r91 => [(0, .ref bs), (1, .ref (xb x + 0)), (2, .ref (xb x + 128)), (3, .int s18.1)]) (fun r91 => [.int r91.1, .int r89.1]) (fun r91 => r91.2) (fun r91 h => k_X12_forgive X hR hN Z kd_128 mw_1225 (by decide) (Nat.le_of_ble_eq_true rfl) dL_law_485 h) (fun r91 => ?_)
                                show Gz x 4 488 [(0, .ref bs), (1, .ref (xb x + 0)), (2, .ref (xb x + 128)), (3, .int s18.1)] [.int r91.1, .int r89.1] KDF r91.2 _ _
                                refine g_if (pcT := 999) (pcF := 491) (w_icmp_eq (tgt := 999) X dL_law_488 (by decide)) (fun h92 => ?_) (fun h92 => ?_)
                                · refine g_lt (pc' := 1002) (fun v93 => [(3, .int v93), (0, .ref bs), (1, .ref (xb x + 0)), (2, .ref (xb x + 128))]) (fun v93 => []) (fun v93 => r91.2) (w_iinc X dL_law_999 3 rfl rfl (by decide) rfl) (fun v93 => ?_)
                                  show Gz x 4 1002 [(3, .int v93), (0, .ref bs), (1, .ref (xb x + 0)), (2, .ref (xb x + 128))] [] KDF r91.2 _ _
                                  refine g1 (pc' := 18) (w_goto X dL_law_1002 (by decide)) ?_
                                  refine g_inl ?_
                                  exact g_end [1, 2, 3, 0] rfl rfl rfl
                                · refine g1 (pc' := 492) (w_iconst X (0) dL_law_491 (by decide)) ?_
                                  exact g_none
                              · refine g_by (fun h94 => ?_) (fun h94 => ?_)
                                · refine g1 (pc' := 493) (w_tsIn (off := 461) X dL_law_32 (13) (by rw [h94]; rfl) (by decide) (by decide) rfl (by decide)) ?_
                                  refine g1 (pc' := 494) (w_aload_n X dL_law_493 rfl 1 rfl) ?_
                                  refine g1 (pc' := 495) (w_aload_n X dL_law_494 rfl 0 rfl) ?_
                                  refine g1 (pc' := 496) (w_iload_n X dL_law_495 rfl 3 rfl) ?_
                                  refine g1 (pc' := 497) (w_iconst X (1) dL_law_496 (by decide)) ?_
                                  refine g1 (pc' := 498) (w_iadd X dL_law_497) ?_
                                  refine g_gd (fun h95 => ?_)
                                  refine g1 (pc' := 499) (w_sld X hX h95 dL_law_498) ?_
                                  refine g_bd (pc' := 502) (fun r96 => [(0, .ref bs), (1, .ref (xb x + 0)), (2, .ref (xb x + 128)), (3, .int s18.1)]) (fun r96 => [.int r96.1]) (fun r96 => r96.2) (fun r96 h => k_X11_drift X hR hN Z kd_0 mw_685 (by decide) (Nat.le_of_ble_eq_true rfl) dL_law_499 h) (fun r96 => ?_)
                                  show Gz x 4 502 [(0, .ref bs), (1, .ref (xb x + 0)), (2, .ref (xb x + 128)), (3, .int s18.1)] [.int r96.1] KDF r96.2 _ _
                                  refine g1 (pc' := 503) (w_aload_n X dL_law_502 rfl 2 rfl) ?_
                                  refine g1 (pc' := 504) (w_aload_n X dL_law_503 rfl 0 rfl) ?_
                                  refine g1 (pc' := 505) (w_iload_n X dL_law_504 rfl 3 rfl) ?_
                                  refine g1 (pc' := 506) (w_iconst X (1) dL_law_505 (by decide)) ?_
                                  refine g1 (pc' := 507) (w_iadd X dL_law_506) ?_
                                  refine g_gd (fun h97 => ?_)
                                  refine g1 (pc' := 508) (w_sld X hX h97 dL_law_507) ?_
                                  refine g_bd (pc' := 511) (fun r98 => [(0, .ref bs), (1, .ref (xb x + 0)), (2, .ref (xb x + 128)), (3, .int s18.1)]) (fun r98 => [.int r98.1, .int r96.1]) (fun r98 => r98.2) (fun r98 h => k_X12_drift X hR hN Z kd_128 mw_1229 (by decide) (Nat.le_of_ble_eq_true rfl) dL_law_508 h) (fun r98 => ?_)
                                  show Gz x 4 511 [(0, .ref bs), (1, .ref (xb x + 0)), (2, .ref (xb x + 128)), (3, .int s18.1)] [.int r98.1, .int r96.1] KDF r98.2 _ _
                                  refine g_if (pcT := 999) (pcF := 514) (w_icmp_eq (tgt := 999) X dL_law_511 (by decide)) (fun h99 => ?_) (fun h99 => ?_)
                                  · refine g_lt (pc' := 1002) (fun v100 => [(3, .int v100), (0, .ref bs), (1, .ref (xb x + 0)), (2, .ref (xb x + 128))]) (fun v100 => []) (fun v100 => r98.2) (w_iinc X dL_law_999 3 rfl rfl (by decide) rfl) (fun v100 => ?_)
                                    show Gz x 4 1002 [(3, .int v100), (0, .ref bs), (1, .ref (xb x + 0)), (2, .ref (xb x + 128))] [] KDF r98.2 _ _
                                    refine g1 (pc' := 18) (w_goto X dL_law_1002 (by decide)) ?_
                                    refine g_inl ?_
                                    exact g_end [1, 2, 3, 0] rfl rfl rfl
                                  · refine g1 (pc' := 515) (w_iconst X (0) dL_law_514 (by decide)) ?_
                                    exact g_none
                                · refine g_by (fun h101 => ?_) (fun h101 => ?_)
                                  · refine g1 (pc' := 516) (w_tsIn (off := 484) X dL_law_32 (14) (by rw [h101]; rfl) (by decide) (by decide) rfl (by decide)) ?_
                                    refine g1 (pc' := 517) (w_aload_n X dL_law_516 rfl 1 rfl) ?_
                                    refine g_bd (pc' := 520) (fun r102 => [(0, .ref bs), (1, .ref (xb x + 0)), (2, .ref (xb x + 128)), (3, .int s18.1)]) (fun r102 => [.int r102.1]) (fun r102 => r102.2) (fun r102 h => k_X11_undo X hR hN Z kd_0 mw_705 (by decide) (Nat.le_of_ble_eq_true rfl) dL_law_517 h) (fun r102 => ?_)
                                    show Gz x 4 520 [(0, .ref bs), (1, .ref (xb x + 0)), (2, .ref (xb x + 128)), (3, .int s18.1)] [.int r102.1] KDF r102.2 _ _
                                    refine g1 (pc' := 521) (w_aload_n X dL_law_520 rfl 2 rfl) ?_
                                    refine g_bd (pc' := 524) (fun r103 => [(0, .ref bs), (1, .ref (xb x + 0)), (2, .ref (xb x + 128)), (3, .int s18.1)]) (fun r103 => [.int r103.1, .int r102.1]) (fun r103 => r103.2) (fun r103 h => k_X12_undo X hR hN Z kd_128 mw_1245 (by decide) (Nat.le_of_ble_eq_true rfl) dL_law_521 h) (fun r103 => ?_)
                                    show Gz x 4 524 [(0, .ref bs), (1, .ref (xb x + 0)), (2, .ref (xb x + 128)), (3, .int s18.1)] [.int r103.1, .int r102.1] KDF r103.2 _ _
                                    refine g_if (pcT := 999) (pcF := 527) (w_icmp_eq (tgt := 999) X dL_law_524 (by decide)) (fun h104 => ?_) (fun h104 => ?_)
                                    · refine g_lt (pc' := 1002) (fun v105 => [(3, .int v105), (0, .ref bs), (1, .ref (xb x + 0)), (2, .ref (xb x + 128))]) (fun v105 => []) (fun v105 => r103.2) (w_iinc X dL_law_999 3 rfl rfl (by decide) rfl) (fun v105 => ?_)
                                      show Gz x 4 1002 [(3, .int v105), (0, .ref bs), (1, .ref (xb x + 0)), (2, .ref (xb x + 128))] [] KDF r103.2 _ _
                                      refine g1 (pc' := 18) (w_goto X dL_law_1002 (by decide)) ?_
                                      refine g_inl ?_
                                      exact g_end [1, 2, 3, 0] rfl rfl rfl
                                    · refine g1 (pc' := 528) (w_iconst X (0) dL_law_527 (by decide)) ?_
                                      exact g_none
                                  · refine g_by (fun h106 => ?_) (fun h106 => ?_)
                                    · refine g1 (pc' := 529) (w_tsIn (off := 497) X dL_law_32 (15) (by rw [h106]; rfl) (by decide) (by decide) rfl (by decide)) ?_
                                      refine g1 (pc' := 530) (w_aload_n X dL_law_529 rfl 1 rfl) ?_
                                      refine g1 (pc' := 531) (w_aload_n X dL_law_530 rfl 0 rfl) ?_
                                      refine g1 (pc' := 532) (w_iload_n X dL_law_531 rfl 3 rfl) ?_
                                      refine g1 (pc' := 533) (w_iconst X (1) dL_law_532 (by decide)) ?_
                                      refine g1 (pc' := 534) (w_iadd X dL_law_533) ?_
                                      refine g_gd (fun h107 => ?_)
                                      refine g1 (pc' := 535) (w_sld X hX h107 dL_law_534) ?_
                                      refine g_bd (pc' := 538) (fun r108 => [(0, .ref bs), (1, .ref (xb x + 0)), (2, .ref (xb x + 128)), (3, .int s18.1)]) (fun r108 => [.int r108.1]) (fun r108 => r108.2) (fun r108 h => k_X11_rowAt X hR hN Z kd_0 mw_713 (by decide) (Nat.le_of_ble_eq_true rfl) dL_law_535 h) (fun r108 => ?_)
                                      show Gz x 4 538 [(0, .ref bs), (1, .ref (xb x + 0)), (2, .ref (xb x + 128)), (3, .int s18.1)] [.int r108.1] KDF r108.2 _ _
                                      refine g1 (pc' := 539) (w_aload_n X dL_law_538 rfl 2 rfl) ?_
                                      refine g1 (pc' := 540) (w_aload_n X dL_law_539 rfl 0 rfl) ?_
                                      refine g1 (pc' := 541) (w_iload_n X dL_law_540 rfl 3 rfl) ?_
                                      refine g1 (pc' := 542) (w_iconst X (1) dL_law_541 (by decide)) ?_
                                      refine g1 (pc' := 543) (w_iadd X dL_law_542) ?_
                                      refine g_gd (fun h109 => ?_)
                                      refine g1 (pc' := 544) (w_sld X hX h109 dL_law_543) ?_
                                      refine g_bd (pc' := 547) (fun r110 => [(0, .ref bs), (1, .ref (xb x + 0)), (2, .ref (xb x + 128)), (3, .int s18.1)]) (fun r110 => [.int r110.1, .int r108.1]) (fun r110 => r110.2) (fun r110 h => k_X12_rowAt X hR hN Z kd_128 mw_1249 (by decide) (Nat.le_of_ble_eq_true rfl) dL_law_544 h) (fun r110 => ?_)
                                      show Gz x 4 547 [(0, .ref bs), (1, .ref (xb x + 0)), (2, .ref (xb x + 128)), (3, .int s18.1)] [.int r110.1, .int r108.1] KDF r110.2 _ _
                                      refine g_if (pcT := 999) (pcF := 550) (w_icmp_eq (tgt := 999) X dL_law_547 (by decide)) (fun h111 => ?_) (fun h111 => ?_)
                                      · refine g_lt (pc' := 1002) (fun v112 => [(3, .int v112), (0, .ref bs), (1, .ref (xb x + 0)), (2, .ref (xb x + 128))]) (fun v112 => []) (fun v112 => r110.2) (w_iinc X dL_law_999 3 rfl rfl (by decide) rfl) (fun v112 => ?_)
                                        show Gz x 4 1002 [(3, .int v112), (0, .ref bs), (1, .ref (xb x + 0)), (2, .ref (xb x + 128))] [] KDF r110.2 _ _
                                        refine g1 (pc' := 18) (w_goto X dL_law_1002 (by decide)) ?_
                                        refine g_inl ?_
                                        exact g_end [1, 2, 3, 0] rfl rfl rfl
                                      · refine g1 (pc' := 551) (w_iconst X (0) dL_law_550 (by decide)) ?_
                                        exact g_none
                                    · refine g_by (fun h113 => ?_) (fun h113 => ?_)
                                      · refine g1 (pc' := 552) (w_tsIn (off := 520) X dL_law_32 (16) (by rw [h113]; rfl) (by decide) (by decide) rfl (by decide)) ?_
                                        refine g1 (pc' := 553) (w_aload_n X dL_law_552 rfl 1 rfl) ?_
                                        refine g1 (pc' := 554) (w_aload_n X dL_law_553 rfl 0 rfl) ?_
                                        refine g1 (pc' := 555) (w_iload_n X dL_law_554 rfl 3 rfl) ?_
                                        refine g1 (pc' := 556) (w_iconst X (1) dL_law_555 (by decide)) ?_
                                        refine g1 (pc' := 557) (w_iadd X dL_law_556) ?_
                                        refine g_gd (fun h114 => ?_)
                                        refine g1 (pc' := 558) (w_sld X hX h114 dL_law_557) ?_
                                        refine g1 (pc' := 559) (w_aload_n X dL_law_558 rfl 0 rfl) ?_
                                        refine g1 (pc' := 560) (w_iload_n X dL_law_559 rfl 3 rfl) ?_
                                        refine g1 (pc' := 561) (w_iconst X (2) dL_law_560 (by decide)) ?_
                                        refine g1 (pc' := 562) (w_iadd X dL_law_561) ?_
                                        refine g_gd (fun h115 => ?_)
                                        refine g1 (pc' := 563) (w_sld X hX h115 dL_law_562) ?_
                                        refine g_bd (pc' := 566) (fun r116 => [(0, .ref bs), (1, .ref (xb x + 0)), (2, .ref (xb x + 128)), (3, .int s18.1)]) (fun r116 => [.int r116.1]) (fun r116 => r116.2) (fun r116 h => k_X11_placeAt X hR hN Z kd_0 mw_727 (by decide) (Nat.le_of_ble_eq_true rfl) dL_law_563 h) (fun r116 => ?_)
                                        show Gz x 4 566 [(0, .ref bs), (1, .ref (xb x + 0)), (2, .ref (xb x + 128)), (3, .int s18.1)] [.int r116.1] KDF r116.2 _ _
                                        refine g1 (pc' := 567) (w_aload_n X dL_law_566 rfl 2 rfl) ?_
                                        refine g1 (pc' := 568) (w_aload_n X dL_law_567 rfl 0 rfl) ?_
                                        refine g1 (pc' := 569) (w_iload_n X dL_law_568 rfl 3 rfl) ?_
                                        refine g1 (pc' := 570) (w_iconst X (1) dL_law_569 (by decide)) ?_
                                        refine g1 (pc' := 571) (w_iadd X dL_law_570) ?_
                                        refine g_gd (fun h117 => ?_)
                                        refine g1 (pc' := 572) (w_sld X hX h117 dL_law_571) ?_
                                        refine g1 (pc' := 573) (w_aload_n X dL_law_572 rfl 0 rfl) ?_
                                        refine g1 (pc' := 574) (w_iload_n X dL_law_573 rfl 3 rfl) ?_
                                        refine g1 (pc' := 575) (w_iconst X (2) dL_law_574 (by decide)) ?_
                                        refine g1 (pc' := 576) (w_iadd X dL_law_575) ?_
                                        refine g_gd (fun h118 => ?_)
                                        refine g1 (pc' := 577) (w_sld X hX h118 dL_law_576) ?_
                                        refine g_bd (pc' := 580) (fun r119 => [(0, .ref bs), (1, .ref (xb x + 0)), (2, .ref (xb x + 128)), (3, .int s18.1)]) (fun r119 => [.int r119.1, .int r116.1]) (fun r119 => r119.2) (fun r119 h => k_X12_placeAt X hR hN Z kd_128 mw_1261 (by decide) (Nat.le_of_ble_eq_true rfl) dL_law_577 h) (fun r119 => ?_)
                                        show Gz x 4 580 [(0, .ref bs), (1, .ref (xb x + 0)), (2, .ref (xb x + 128)), (3, .int s18.1)] [.int r119.1, .int r116.1] KDF r119.2 _ _
                                        refine g_if (pcT := 999) (pcF := 583) (w_icmp_eq (tgt := 999) X dL_law_580 (by decide)) (fun h120 => ?_) (fun h120 => ?_)
                                        · refine g_lt (pc' := 1002) (fun v121 => [(3, .int v121), (0, .ref bs), (1, .ref (xb x + 0)), (2, .ref (xb x + 128))]) (fun v121 => []) (fun v121 => r119.2) (w_iinc X dL_law_999 3 rfl rfl (by decide) rfl) (fun v121 => ?_)
                                          show Gz x 4 1002 [(3, .int v121), (0, .ref bs), (1, .ref (xb x + 0)), (2, .ref (xb x + 128))] [] KDF r119.2 _ _
                                          refine g1 (pc' := 18) (w_goto X dL_law_1002 (by decide)) ?_
                                          refine g_inl ?_
                                          exact g_end [1, 2, 3, 0] rfl rfl rfl
                                        · refine g1 (pc' := 584) (w_iconst X (0) dL_law_583 (by decide)) ?_
                                          exact g_none
                                      · refine g_by (fun h122 => ?_) (fun h122 => ?_)
                                        · refine g1 (pc' := 585) (w_tsIn (off := 553) X dL_law_32 (17) (by rw [h122]; rfl) (by decide) (by decide) rfl (by decide)) ?_
                                          refine g1 (pc' := 586) (w_aload_n X dL_law_585 rfl 1 rfl) ?_
                                          refine g_bd (pc' := 589) (fun r123 => [(0, .ref bs), (1, .ref (xb x + 0)), (2, .ref (xb x + 128)), (3, .int s18.1)]) (fun r123 => [.int r123.1]) (fun r123 => r123.2) (fun r123 h => k_X11_round X hR hN Z kd_0 mw_731 (by decide) (Nat.le_of_ble_eq_true rfl) dL_law_586 h) (fun r123 => ?_)
                                          show Gz x 4 589 [(0, .ref bs), (1, .ref (xb x + 0)), (2, .ref (xb x + 128)), (3, .int s18.1)] [.int r123.1] KDF r123.2 _ _
                                          refine g1 (pc' := 590) (w_aload_n X dL_law_589 rfl 2 rfl) ?_
                                          refine g_bd (pc' := 593) (fun r124 => [(0, .ref bs), (1, .ref (xb x + 0)), (2, .ref (xb x + 128)), (3, .int s18.1)]) (fun r124 => [.int r124.1, .int r123.1]) (fun r124 => r124.2) (fun r124 h => k_X12_round X hR hN Z kd_128 mw_1265 (by decide) (Nat.le_of_ble_eq_true rfl) dL_law_590 h) (fun r124 => ?_)
                                          show Gz x 4 593 [(0, .ref bs), (1, .ref (xb x + 0)), (2, .ref (xb x + 128)), (3, .int s18.1)] [.int r124.1, .int r123.1] KDF r124.2 _ _
                                          refine g_if (pcT := 999) (pcF := 596) (w_icmp_eq (tgt := 999) X dL_law_593 (by decide)) (fun h125 => ?_) (fun h125 => ?_)
                                          · refine g_lt (pc' := 1002) (fun v126 => [(3, .int v126), (0, .ref bs), (1, .ref (xb x + 0)), (2, .ref (xb x + 128))]) (fun v126 => []) (fun v126 => r124.2) (w_iinc X dL_law_999 3 rfl rfl (by decide) rfl) (fun v126 => ?_)
                                            show Gz x 4 1002 [(3, .int v126), (0, .ref bs), (1, .ref (xb x + 0)), (2, .ref (xb x + 128))] [] KDF r124.2 _ _
                                            refine g1 (pc' := 18) (w_goto X dL_law_1002 (by decide)) ?_
                                            refine g_inl ?_
                                            exact g_end [1, 2, 3, 0] rfl rfl rfl
                                          · refine g1 (pc' := 597) (w_iconst X (0) dL_law_596 (by decide)) ?_
                                            exact g_none
                                        · refine g_by (fun h127 => ?_) (fun h127 => ?_)
                                          · refine g1 (pc' := 598) (w_tsIn (off := 566) X dL_law_32 (18) (by rw [h127]; rfl) (by decide) (by decide) rfl (by decide)) ?_
                                            refine g1 (pc' := 599) (w_aload_n X dL_law_598 rfl 1 rfl) ?_
                                            refine g_bd (pc' := 602) (fun r128 => [(0, .ref bs), (1, .ref (xb x + 0)), (2, .ref (xb x + 128)), (3, .int s18.1)]) (fun r128 => [.int r128.1]) (fun r128 => r128.2) (fun r128 h => k_X11_trueFor X hR hN Z kd_0 mw_736 (by decide) (Nat.le_of_ble_eq_true rfl) dL_law_599 h) (fun r128 => ?_)
                                            show Gz x 4 602 [(0, .ref bs), (1, .ref (xb x + 0)), (2, .ref (xb x + 128)), (3, .int s18.1)] [.int r128.1] KDF r128.2 _ _
                                            refine g1 (pc' := 603) (w_aload_n X dL_law_602 rfl 2 rfl) ?_
                                            refine g_bd (pc' := 606) (fun r129 => [(0, .ref bs), (1, .ref (xb x + 0)), (2, .ref (xb x + 128)), (3, .int s18.1)]) (fun r129 => [.int r129.1, .int r128.1]) (fun r129 => r129.2) (fun r129 h => k_X12_trueFor X hR hN Z kd_128 mw_1273 (by decide) (Nat.le_of_ble_eq_true rfl) dL_law_603 h) (fun r129 => ?_)
                                            show Gz x 4 606 [(0, .ref bs), (1, .ref (xb x + 0)), (2, .ref (xb x + 128)), (3, .int s18.1)] [.int r129.1, .int r128.1] KDF r129.2 _ _
                                            refine g_if (pcT := 999) (pcF := 609) (w_icmp_eq (tgt := 999) X dL_law_606 (by decide)) (fun h130 => ?_) (fun h130 => ?_)
                                            · refine g_lt (pc' := 1002) (fun v131 => [(3, .int v131), (0, .ref bs), (1, .ref (xb x + 0)), (2, .ref (xb x + 128))]) (fun v131 => []) (fun v131 => r129.2) (w_iinc X dL_law_999 3 rfl rfl (by decide) rfl) (fun v131 => ?_)
                                              show Gz x 4 1002 [(3, .int v131), (0, .ref bs), (1, .ref (xb x + 0)), (2, .ref (xb x + 128))] [] KDF r129.2 _ _
                                              refine g1 (pc' := 18) (w_goto X dL_law_1002 (by decide)) ?_
                                              refine g_inl ?_
                                              exact g_end [1, 2, 3, 0] rfl rfl rfl
                                            · refine g1 (pc' := 610) (w_iconst X (0) dL_law_609 (by decide)) ?_
                                              exact g_none
                                          · refine g_by (fun h132 => ?_) (fun h132 => ?_)
                                            · refine g1 (pc' := 611) (w_tsIn (off := 579) X dL_law_32 (19) (by rw [h132]; rfl) (by decide) (by decide) rfl (by decide)) ?_
                                              refine g1 (pc' := 612) (w_aload_n X dL_law_611 rfl 1 rfl) ?_
                                              refine g1 (pc' := 613) (w_aload_n X dL_law_612 rfl 0 rfl) ?_
                                              refine g1 (pc' := 614) (w_iload_n X dL_law_613 rfl 3 rfl) ?_
                                              refine g1 (pc' := 615) (w_iconst X (1) dL_law_614 (by decide)) ?_
                                              refine g1 (pc' := 616) (w_iadd X dL_law_615) ?_
                                              refine g_gd (fun h133 => ?_)
                                              refine g1 (pc' := 617) (w_sld X hX h133 dL_law_616) ?_
                                              refine g1 (pc' := 618) (w_aload_n X dL_law_617 rfl 0 rfl) ?_
                                              refine g1 (pc' := 619) (w_iload_n X dL_law_618 rfl 3 rfl) ?_
                                              refine g1 (pc' := 620) (w_iconst X (2) dL_law_619 (by decide)) ?_
                                              refine g1 (pc' := 621) (w_iadd X dL_law_620) ?_
                                              refine g_gd (fun h134 => ?_)
                                              refine g1 (pc' := 622) (w_sld X hX h134 dL_law_621) ?_
                                              refine g_bd (pc' := 625) (fun r135 => [(0, .ref bs), (1, .ref (xb x + 0)), (2, .ref (xb x + 128)), (3, .int s18.1)]) (fun r135 => [.int r135.1]) (fun r135 => r135.2) (fun r135 h => k_X11_touch X hR hN Z kd_0 mw_749 (by decide) (Nat.le_of_ble_eq_true rfl) dL_law_622 h) (fun r135 => ?_)
                                              show Gz x 4 625 [(0, .ref bs), (1, .ref (xb x + 0)), (2, .ref (xb x + 128)), (3, .int s18.1)] [.int r135.1] KDF r135.2 _ _
                                              refine g1 (pc' := 626) (w_aload_n X dL_law_625 rfl 2 rfl) ?_
                                              refine g1 (pc' := 627) (w_aload_n X dL_law_626 rfl 0 rfl) ?_
                                              refine g1 (pc' := 628) (w_iload_n X dL_law_627 rfl 3 rfl) ?_
                                              refine g1 (pc' := 629) (w_iconst X (1) dL_law_628 (by decide)) ?_
                                              refine g1 (pc' := 630) (w_iadd X dL_law_629) ?_
                                              refine g_gd (fun h136 => ?_)
                                              refine g1 (pc' := 631) (w_sld X hX h136 dL_law_630) ?_
                                              refine g1 (pc' := 632) (w_aload_n X dL_law_631 rfl 0 rfl) ?_
                                              refine g1 (pc' := 633) (w_iload_n X dL_law_632 rfl 3 rfl) ?_
                                              refine g1 (pc' := 634) (w_iconst X (2) dL_law_633 (by decide)) ?_
                                              refine g1 (pc' := 635) (w_iadd X dL_law_634) ?_
                                              refine g_gd (fun h137 => ?_)
                                              refine g1 (pc' := 636) (w_sld X hX h137 dL_law_635) ?_
                                              refine g_bd (pc' := 639) (fun r138 => [(0, .ref bs), (1, .ref (xb x + 0)), (2, .ref (xb x + 128)), (3, .int s18.1)]) (fun r138 => [.int r138.1, .int r135.1]) (fun r138 => r138.2) (fun r138 h => k_X12_touch X hR hN Z kd_128 mw_1281 (by decide) (Nat.le_of_ble_eq_true rfl) dL_law_636 h) (fun r138 => ?_)
                                              show Gz x 4 639 [(0, .ref bs), (1, .ref (xb x + 0)), (2, .ref (xb x + 128)), (3, .int s18.1)] [.int r138.1, .int r135.1] KDF r138.2 _ _
                                              refine g_if (pcT := 999) (pcF := 642) (w_icmp_eq (tgt := 999) X dL_law_639 (by decide)) (fun h139 => ?_) (fun h139 => ?_)
                                              · refine g_lt (pc' := 1002) (fun v140 => [(3, .int v140), (0, .ref bs), (1, .ref (xb x + 0)), (2, .ref (xb x + 128))]) (fun v140 => []) (fun v140 => r138.2) (w_iinc X dL_law_999 3 rfl rfl (by decide) rfl) (fun v140 => ?_)
                                                show Gz x 4 1002 [(3, .int v140), (0, .ref bs), (1, .ref (xb x + 0)), (2, .ref (xb x + 128))] [] KDF r138.2 _ _
                                                refine g1 (pc' := 18) (w_goto X dL_law_1002 (by decide)) ?_
                                                refine g_inl ?_
                                                exact g_end [1, 2, 3, 0] rfl rfl rfl
                                              · refine g1 (pc' := 643) (w_iconst X (0) dL_law_642 (by decide)) ?_
                                                exact g_none
                                            · refine g_by (fun h141 => ?_) (fun h141 => ?_)
                                              · refine g1 (pc' := 644) (w_tsIn (off := 612) X dL_law_32 (20) (by rw [h141]; rfl) (by decide) (by decide) rfl (by decide)) ?_
                                                refine g1 (pc' := 645) (w_aload_n X dL_law_644 rfl 1 rfl) ?_
                                                refine g1 (pc' := 646) (w_aload_n X dL_law_645 rfl 0 rfl) ?_
                                                refine g1 (pc' := 647) (w_iload_n X dL_law_646 rfl 3 rfl) ?_
                                                refine g1 (pc' := 648) (w_iconst X (1) dL_law_647 (by decide)) ?_
                                                refine g1 (pc' := 649) (w_iadd X dL_law_648) ?_
                                                refine g_gd (fun h142 => ?_)
                                                refine g1 (pc' := 650) (w_sld X hX h142 dL_law_649) ?_
                                                refine g_bd (pc' := 653) (fun r143 => [(0, .ref bs), (1, .ref (xb x + 0)), (2, .ref (xb x + 128)), (3, .int s18.1)]) (fun r143 => [.int r143.1]) (fun r143 => r143.2) (fun r143 h => k_X11_ropes X hR hN Z kd_0 mw_778 (by decide) (Nat.le_of_ble_eq_true rfl) dL_law_650 h) (fun r143 => ?_)
                                                show Gz x 4 653 [(0, .ref bs), (1, .ref (xb x + 0)), (2, .ref (xb x + 128)), (3, .int s18.1)] [.int r143.1] KDF r143.2 _ _
                                                refine g1 (pc' := 654) (w_aload_n X dL_law_653 rfl 2 rfl) ?_
                                                refine g1 (pc' := 655) (w_aload_n X dL_law_654 rfl 0 rfl) ?_
                                                refine g1 (pc' := 656) (w_iload_n X dL_law_655 rfl 3 rfl) ?_
                                                refine g1 (pc' := 657) (w_iconst X (1) dL_law_656 (by decide)) ?_
                                                refine g1 (pc' := 658) (w_iadd X dL_law_657) ?_
                                                refine g_gd (fun h144 => ?_)
                                                refine g1 (pc' := 659) (w_sld X hX h144 dL_law_658) ?_
                                                refine g_bd (pc' := 662) (fun r145 => [(0, .ref bs), (1, .ref (xb x + 0)), (2, .ref (xb x + 128)), (3, .int s18.1)]) (fun r145 => [.int r145.1, .int r143.1]) (fun r145 => r145.2) (fun r145 h => k_X12_ropes X hR hN Z kd_128 mw_1289 (by decide) (Nat.le_of_ble_eq_true rfl) dL_law_659 h) (fun r145 => ?_)
                                                show Gz x 4 662 [(0, .ref bs), (1, .ref (xb x + 0)), (2, .ref (xb x + 128)), (3, .int s18.1)] [.int r145.1, .int r143.1] KDF r145.2 _ _
                                                refine g_if (pcT := 999) (pcF := 665) (w_icmp_eq (tgt := 999) X dL_law_662 (by decide)) (fun h146 => ?_) (fun h146 => ?_)
                                                · refine g_lt (pc' := 1002) (fun v147 => [(3, .int v147), (0, .ref bs), (1, .ref (xb x + 0)), (2, .ref (xb x + 128))]) (fun v147 => []) (fun v147 => r145.2) (w_iinc X dL_law_999 3 rfl rfl (by decide) rfl) (fun v147 => ?_)
                                                  show Gz x 4 1002 [(3, .int v147), (0, .ref bs), (1, .ref (xb x + 0)), (2, .ref (xb x + 128))] [] KDF r145.2 _ _
                                                  refine g1 (pc' := 18) (w_goto X dL_law_1002 (by decide)) ?_
                                                  refine g_inl ?_
                                                  exact g_end [1, 2, 3, 0] rfl rfl rfl
                                                · refine g1 (pc' := 666) (w_iconst X (0) dL_law_665 (by decide)) ?_
                                                  exact g_none
                                              · refine g_by (fun h148 => ?_) (fun h148 => ?_)
                                                · refine g1 (pc' := 667) (w_tsIn (off := 635) X dL_law_32 (21) (by rw [h148]; rfl) (by decide) (by decide) rfl (by decide)) ?_
                                                  refine g1 (pc' := 668) (w_aload_n X dL_law_667 rfl 1 rfl) ?_
                                                  refine g1 (pc' := 669) (w_aload_n X dL_law_668 rfl 0 rfl) ?_
                                                  refine g1 (pc' := 670) (w_iload_n X dL_law_669 rfl 3 rfl) ?_
                                                  refine g1 (pc' := 671) (w_iconst X (1) dL_law_670 (by decide)) ?_
                                                  refine g1 (pc' := 672) (w_iadd X dL_law_671) ?_
                                                  refine g_gd (fun h149 => ?_)
                                                  refine g1 (pc' := 673) (w_sld X hX h149 dL_law_672) ?_
                                                  refine g1 (pc' := 674) (w_aload_n X dL_law_673 rfl 0 rfl) ?_
                                                  refine g1 (pc' := 675) (w_iload_n X dL_law_674 rfl 3 rfl) ?_
                                                  refine g1 (pc' := 676) (w_iconst X (2) dL_law_675 (by decide)) ?_
                                                  refine g1 (pc' := 677) (w_iadd X dL_law_676) ?_
                                                  refine g_gd (fun h150 => ?_)
                                                  refine g1 (pc' := 678) (w_sld X hX h150 dL_law_677) ?_
                                                  refine g_bd (pc' := 681) (fun r151 => [(0, .ref bs), (1, .ref (xb x + 0)), (2, .ref (xb x + 128)), (3, .int s18.1)]) (fun r151 => [.int r151.1]) (fun r151 => r151.2) (fun r151 h => k_X11_last X hR hN Z kd_0 mw_812 (by decide) (Nat.le_of_ble_eq_true rfl) dL_law_678 h) (fun r151 => ?_)
                                                  show Gz x 4 681 [(0, .ref bs), (1, .ref (xb x + 0)), (2, .ref (xb x + 128)), (3, .int s18.1)] [.int r151.1] KDF r151.2 _ _
                                                  refine g1 (pc' := 682) (w_aload_n X dL_law_681 rfl 2 rfl) ?_
                                                  refine g1 (pc' := 683) (w_aload_n X dL_law_682 rfl 0 rfl) ?_
                                                  refine g1 (pc' := 684) (w_iload_n X dL_law_683 rfl 3 rfl) ?_
                                                  refine g1 (pc' := 685) (w_iconst X (1) dL_law_684 (by decide)) ?_
                                                  refine g1 (pc' := 686) (w_iadd X dL_law_685) ?_
                                                  refine g_gd (fun h152 => ?_)
                                                  refine g1 (pc' := 687) (w_sld X hX h152 dL_law_686) ?_
                                                  refine g1 (pc' := 688) (w_aload_n X dL_law_687 rfl 0 rfl) ?_
                                                  refine g1 (pc' := 689) (w_iload_n X dL_law_688 rfl 3 rfl) ?_
                                                  refine g1 (pc' := 690) (w_iconst X (2) dL_law_689 (by decide)) ?_
                                                  refine g1 (pc' := 691) (w_iadd X dL_law_690) ?_
                                                  refine g_gd (fun h153 => ?_)
                                                  refine g1 (pc' := 692) (w_sld X hX h153 dL_law_691) ?_
                                                  refine g_bd (pc' := 695) (fun r154 => [(0, .ref bs), (1, .ref (xb x + 0)), (2, .ref (xb x + 128)), (3, .int s18.1)]) (fun r154 => [.int r154.1, .int r151.1]) (fun r154 => r154.2) (fun r154 h => k_X12_last X hR hN Z kd_128 mw_1301 (by decide) (Nat.le_of_ble_eq_true rfl) dL_law_692 h) (fun r154 => ?_)
                                                  show Gz x 4 695 [(0, .ref bs), (1, .ref (xb x + 0)), (2, .ref (xb x + 128)), (3, .int s18.1)] [.int r154.1, .int r151.1] KDF r154.2 _ _
                                                  refine g_if (pcT := 999) (pcF := 698) (w_icmp_eq (tgt := 999) X dL_law_695 (by decide)) (fun h155 => ?_) (fun h155 => ?_)
                                                  · refine g_lt (pc' := 1002) (fun v156 => [(3, .int v156), (0, .ref bs), (1, .ref (xb x + 0)), (2, .ref (xb x + 128))]) (fun v156 => []) (fun v156 => r154.2) (w_iinc X dL_law_999 3 rfl rfl (by decide) rfl) (fun v156 => ?_)
                                                    show Gz x 4 1002 [(3, .int v156), (0, .ref bs), (1, .ref (xb x + 0)), (2, .ref (xb x + 128))] [] KDF r154.2 _ _
                                                    refine g1 (pc' := 18) (w_goto X dL_law_1002 (by decide)) ?_
                                                    refine g_inl ?_
                                                    exact g_end [1, 2, 3, 0] rfl rfl rfl
                                                  · refine g1 (pc' := 699) (w_iconst X (0) dL_law_698 (by decide)) ?_
                                                    exact g_none
                                                · refine g_by (fun h157 => ?_) (fun h157 => ?_)
                                                  · refine g1 (pc' := 700) (w_tsIn (off := 668) X dL_law_32 (22) (by rw [h157]; rfl) (by decide) (by decide) rfl (by decide)) ?_
                                                    refine g1 (pc' := 701) (w_aload_n X dL_law_700 rfl 1 rfl) ?_
                                                    refine g_bd (pc' := 704) (fun r158 => [(0, .ref bs), (1, .ref (xb x + 0)), (2, .ref (xb x + 128)), (3, .int s18.1)]) (fun r158 => [.int r158.1]) (fun r158 => r158.2) (fun r158 h => k_X11_nextOut X hR hN Z kd_0 mw_817 (by decide) (Nat.le_of_ble_eq_true rfl) dL_law_701 h) (fun r158 => ?_)
                                                    show Gz x 4 704 [(0, .ref bs), (1, .ref (xb x + 0)), (2, .ref (xb x + 128)), (3, .int s18.1)] [.int r158.1] KDF r158.2 _ _
                                                    refine g1 (pc' := 705) (w_aload_n X dL_law_704 rfl 2 rfl) ?_
                                                    refine g_bd (pc' := 708) (fun r159 => [(0, .ref bs), (1, .ref (xb x + 0)), (2, .ref (xb x + 128)), (3, .int s18.1)]) (fun r159 => [.int r159.1, .int r158.1]) (fun r159 => r159.2) (fun r159 h => k_X12_nextOut X hR hN Z kd_128 mw_1305 (by decide) (Nat.le_of_ble_eq_true rfl) dL_law_705 h) (fun r159 => ?_)
                                                    show Gz x 4 708 [(0, .ref bs), (1, .ref (xb x + 0)), (2, .ref (xb x + 128)), (3, .int s18.1)] [.int r159.1, .int r158.1] KDF r159.2 _ _
                                                    refine g_if (pcT := 999) (pcF := 711) (w_icmp_eq (tgt := 999) X dL_law_708 (by decide)) (fun h160 => ?_) (fun h160 => ?_)
                                                    · refine g_lt (pc' := 1002) (fun v161 => [(3, .int v161), (0, .ref bs), (1, .ref (xb x + 0)), (2, .ref (xb x + 128))]) (fun v161 => []) (fun v161 => r159.2) (w_iinc X dL_law_999 3 rfl rfl (by decide) rfl) (fun v161 => ?_)
                                                      show Gz x 4 1002 [(3, .int v161), (0, .ref bs), (1, .ref (xb x + 0)), (2, .ref (xb x + 128))] [] KDF r159.2 _ _
                                                      refine g1 (pc' := 18) (w_goto X dL_law_1002 (by decide)) ?_
                                                      refine g_inl ?_
                                                      exact g_end [1, 2, 3, 0] rfl rfl rfl
                                                    · refine g1 (pc' := 712) (w_iconst X (0) dL_law_711 (by decide)) ?_
                                                      exact g_none
                                                  · refine g_by (fun h162 => ?_) (fun h162 => ?_)
                                                    · refine g1 (pc' := 713) (w_tsIn (off := 681) X dL_law_32 (23) (by rw [h162]; rfl) (by decide) (by decide) rfl (by decide)) ?_
                                                      refine g1 (pc' := 714) (w_aload_n X dL_law_713 rfl 1 rfl) ?_
                                                      refine g1 (pc' := 715) (w_aload_n X dL_law_714 rfl 0 rfl) ?_
                                                      refine g1 (pc' := 716) (w_iload_n X dL_law_715 rfl 3 rfl) ?_
                                                      refine g1 (pc' := 717) (w_iconst X (1) dL_law_716 (by decide)) ?_
                                                      refine g1 (pc' := 718) (w_iadd X dL_law_717) ?_
                                                      refine g_gd (fun h163 => ?_)
                                                      refine g1 (pc' := 719) (w_sld X hX h163 dL_law_718) ?_
                                                      refine g1 (pc' := 720) (w_aload_n X dL_law_719 rfl 0 rfl) ?_
                                                      refine g1 (pc' := 721) (w_iload_n X dL_law_720 rfl 3 rfl) ?_
                                                      refine g1 (pc' := 722) (w_iconst X (2) dL_law_721 (by decide)) ?_
                                                      refine g1 (pc' := 723) (w_iadd X dL_law_722) ?_
                                                      refine g_gd (fun h164 => ?_)
                                                      refine g1 (pc' := 724) (w_sld X hX h164 dL_law_723) ?_
                                                      refine g_bd (pc' := 727) (fun r165 => [(0, .ref bs), (1, .ref (xb x + 0)), (2, .ref (xb x + 128)), (3, .int s18.1)]) (fun r165 => [.int r165.1]) (fun r165 => r165.2) (fun r165 h => k_X11_change X hR hN Z kd_0 mw_823 (by decide) (Nat.le_of_ble_eq_true rfl) dL_law_724 h) (fun r165 => ?_)
                                                      show Gz x 4 727 [(0, .ref bs), (1, .ref (xb x + 0)), (2, .ref (xb x + 128)), (3, .int s18.1)] [.int r165.1] KDF r165.2 _ _
                                                      refine g1 (pc' := 728) (w_aload_n X dL_law_727 rfl 2 rfl) ?_
                                                      refine g1 (pc' := 729) (w_aload_n X dL_law_728 rfl 0 rfl) ?_
                                                      refine g1 (pc' := 730) (w_iload_n X dL_law_729 rfl 3 rfl) ?_
                                                      refine g1 (pc' := 731) (w_iconst X (1) dL_law_730 (by decide)) ?_
                                                      refine g1 (pc' := 732) (w_iadd X dL_law_731) ?_
                                                      refine g_gd (fun h166 => ?_)
                                                      refine g1 (pc' := 733) (w_sld X hX h166 dL_law_732) ?_
                                                      refine g1 (pc' := 734) (w_aload_n X dL_law_733 rfl 0 rfl) ?_
                                                      refine g1 (pc' := 735) (w_iload_n X dL_law_734 rfl 3 rfl) ?_
                                                      refine g1 (pc' := 736) (w_iconst X (2) dL_law_735 (by decide)) ?_
                                                      refine g1 (pc' := 737) (w_iadd X dL_law_736) ?_
                                                      refine g_gd (fun h167 => ?_)
                                                      refine g1 (pc' := 738) (w_sld X hX h167 dL_law_737) ?_
                                                      refine g_bd (pc' := 741) (fun r168 => [(0, .ref bs), (1, .ref (xb x + 0)), (2, .ref (xb x + 128)), (3, .int s18.1)]) (fun r168 => [.int r168.1, .int r165.1]) (fun r168 => r168.2) (fun r168 h => k_X12_change X hR hN Z kd_128 mw_1309 (by decide) (Nat.le_of_ble_eq_true rfl) dL_law_738 h) (fun r168 => ?_)
                                                      show Gz x 4 741 [(0, .ref bs), (1, .ref (xb x + 0)), (2, .ref (xb x + 128)), (3, .int s18.1)] [.int r168.1, .int r165.1] KDF r168.2 _ _
                                                      refine g_if (pcT := 999) (pcF := 744) (w_icmp_eq (tgt := 999) X dL_law_741 (by decide)) (fun h169 => ?_) (fun h169 => ?_)
                                                      · refine g_lt (pc' := 1002) (fun v170 => [(3, .int v170), (0, .ref bs), (1, .ref (xb x + 0)), (2, .ref (xb x + 128))]) (fun v170 => []) (fun v170 => r168.2) (w_iinc X dL_law_999 3 rfl rfl (by decide) rfl) (fun v170 => ?_)
                                                        show Gz x 4 1002 [(3, .int v170), (0, .ref bs), (1, .ref (xb x + 0)), (2, .ref (xb x + 128))] [] KDF r168.2 _ _
                                                        refine g1 (pc' := 18) (w_goto X dL_law_1002 (by decide)) ?_
                                                        refine g_inl ?_
                                                        exact g_end [1, 2, 3, 0] rfl rfl rfl
                                                      · refine g1 (pc' := 745) (w_iconst X (0) dL_law_744 (by decide)) ?_
                                                        exact g_none
                                                    · refine g_by (fun h171 => ?_) (fun h171 => ?_)
                                                      · refine g1 (pc' := 746) (w_tsIn (off := 714) X dL_law_32 (24) (by rw [h171]; rfl) (by decide) (by decide) rfl (by decide)) ?_
                                                        refine g1 (pc' := 747) (w_aload_n X dL_law_746 rfl 1 rfl) ?_
                                                        refine g_bd (pc' := 750) (fun r172 => [(0, .ref bs), (1, .ref (xb x + 0)), (2, .ref (xb x + 128)), (3, .int s18.1)]) (fun r172 => [.int r172]) (fun r172 => s18.2) (fun r172 h => k_X11_follow X hR hN Z kd_0 mw_835 (by decide) (Nat.le_of_ble_eq_true rfl) dL_law_747 h) (fun r172 => ?_)
                                                        show Gz x 4 750 [(0, .ref bs), (1, .ref (xb x + 0)), (2, .ref (xb x + 128)), (3, .int s18.1)] [.int r172] KDF s18.2 _ _
                                                        refine g1 (pc' := 751) (w_aload_n X dL_law_750 rfl 2 rfl) ?_
                                                        refine g_bd (pc' := 754) (fun r173 => [(0, .ref bs), (1, .ref (xb x + 0)), (2, .ref (xb x + 128)), (3, .int s18.1)]) (fun r173 => [.int r173, .int r172]) (fun r173 => s18.2) (fun r173 h => k_X12_follow X hR hN Z kd_128 mw_1317 (by decide) (Nat.le_of_ble_eq_true rfl) dL_law_751 h) (fun r173 => ?_)
                                                        show Gz x 4 754 [(0, .ref bs), (1, .ref (xb x + 0)), (2, .ref (xb x + 128)), (3, .int s18.1)] [.int r173, .int r172] KDF s18.2 _ _
                                                        refine g_if (pcT := 999) (pcF := 757) (w_icmp_eq (tgt := 999) X dL_law_754 (by decide)) (fun h174 => ?_) (fun h174 => ?_)
                                                        · refine g_lt (pc' := 1002) (fun v175 => [(3, .int v175), (0, .ref bs), (1, .ref (xb x + 0)), (2, .ref (xb x + 128))]) (fun v175 => []) (fun v175 => s18.2) (w_iinc X dL_law_999 3 rfl rfl (by decide) rfl) (fun v175 => ?_)
                                                          show Gz x 4 1002 [(3, .int v175), (0, .ref bs), (1, .ref (xb x + 0)), (2, .ref (xb x + 128))] [] KDF s18.2 _ _
                                                          refine g1 (pc' := 18) (w_goto X dL_law_1002 (by decide)) ?_
                                                          refine g_inl ?_
                                                          exact g_end [1, 2, 3, 0] rfl rfl rfl
                                                        · refine g1 (pc' := 758) (w_iconst X (0) dL_law_757 (by decide)) ?_
                                                          exact g_none
                                                      · refine g_by (fun h176 => ?_) (fun h176 => ?_)
                                                        · refine g1 (pc' := 759) (w_tsIn (off := 727) X dL_law_32 (25) (by rw [h176]; rfl) (by decide) (by decide) rfl (by decide)) ?_
                                                          refine g1 (pc' := 760) (w_aload_n X dL_law_759 rfl 1 rfl) ?_
                                                          refine g1 (pc' := 761) (w_aload_n X dL_law_760 rfl 0 rfl) ?_
                                                          refine g1 (pc' := 762) (w_iload_n X dL_law_761 rfl 3 rfl) ?_
                                                          refine g1 (pc' := 763) (w_iconst X (1) dL_law_762 (by decide)) ?_
                                                          refine g1 (pc' := 764) (w_iadd X dL_law_763) ?_
                                                          refine g_gd (fun h177 => ?_)
                                                          refine g1 (pc' := 765) (w_sld X hX h177 dL_law_764) ?_
                                                          refine g1 (pc' := 766) (w_aload_n X dL_law_765 rfl 0 rfl) ?_
                                                          refine g1 (pc' := 767) (w_iload_n X dL_law_766 rfl 3 rfl) ?_
                                                          refine g1 (pc' := 768) (w_iconst X (2) dL_law_767 (by decide)) ?_
                                                          refine g1 (pc' := 769) (w_iadd X dL_law_768) ?_
                                                          refine g_gd (fun h178 => ?_)
                                                          refine g1 (pc' := 770) (w_sld X hX h178 dL_law_769) ?_
                                                          refine g_bd (pc' := 773) (fun r179 => [(0, .ref bs), (1, .ref (xb x + 0)), (2, .ref (xb x + 128)), (3, .int s18.1)]) (fun r179 => [.int r179.1]) (fun r179 => r179.2) (fun r179 h => k_X11_gap X hR hN Z kd_0 mw_841 (by decide) (Nat.le_of_ble_eq_true rfl) dL_law_770 h) (fun r179 => ?_)
                                                          show Gz x 4 773 [(0, .ref bs), (1, .ref (xb x + 0)), (2, .ref (xb x + 128)), (3, .int s18.1)] [.int r179.1] KDF r179.2 _ _
                                                          refine g1 (pc' := 774) (w_aload_n X dL_law_773 rfl 2 rfl) ?_
                                                          refine g1 (pc' := 775) (w_aload_n X dL_law_774 rfl 0 rfl) ?_
                                                          refine g1 (pc' := 776) (w_iload_n X dL_law_775 rfl 3 rfl) ?_
                                                          refine g1 (pc' := 777) (w_iconst X (1) dL_law_776 (by decide)) ?_
                                                          refine g1 (pc' := 778) (w_iadd X dL_law_777) ?_
                                                          refine g_gd (fun h180 => ?_)
                                                          refine g1 (pc' := 779) (w_sld X hX h180 dL_law_778) ?_
                                                          refine g1 (pc' := 780) (w_aload_n X dL_law_779 rfl 0 rfl) ?_
                                                          refine g1 (pc' := 781) (w_iload_n X dL_law_780 rfl 3 rfl) ?_
                                                          refine g1 (pc' := 782) (w_iconst X (2) dL_law_781 (by decide)) ?_
                                                          refine g1 (pc' := 783) (w_iadd X dL_law_782) ?_
                                                          refine g_gd (fun h181 => ?_)
                                                          refine g1 (pc' := 784) (w_sld X hX h181 dL_law_783) ?_
                                                          refine g_bd (pc' := 787) (fun r182 => [(0, .ref bs), (1, .ref (xb x + 0)), (2, .ref (xb x + 128)), (3, .int s18.1)]) (fun r182 => [.int r182.1, .int r179.1]) (fun r182 => r182.2) (fun r182 h => k_X12_gap X hR hN Z kd_128 mw_1321 (by decide) (Nat.le_of_ble_eq_true rfl) dL_law_784 h) (fun r182 => ?_)
                                                          show Gz x 4 787 [(0, .ref bs), (1, .ref (xb x + 0)), (2, .ref (xb x + 128)), (3, .int s18.1)] [.int r182.1, .int r179.1] KDF r182.2 _ _
                                                          refine g_if (pcT := 999) (pcF := 790) (w_icmp_eq (tgt := 999) X dL_law_787 (by decide)) (fun h183 => ?_) (fun h183 => ?_)
                                                          · refine g_lt (pc' := 1002) (fun v184 => [(3, .int v184), (0, .ref bs), (1, .ref (xb x + 0)), (2, .ref (xb x + 128))]) (fun v184 => []) (fun v184 => r182.2) (w_iinc X dL_law_999 3 rfl rfl (by decide) rfl) (fun v184 => ?_)
                                                            show Gz x 4 1002 [(3, .int v184), (0, .ref bs), (1, .ref (xb x + 0)), (2, .ref (xb x + 128))] [] KDF r182.2 _ _
                                                            refine g1 (pc' := 18) (w_goto X dL_law_1002 (by decide)) ?_
                                                            refine g_inl ?_
                                                            exact g_end [1, 2, 3, 0] rfl rfl rfl
                                                          · refine g1 (pc' := 791) (w_iconst X (0) dL_law_790 (by decide)) ?_
                                                            exact g_none
                                                        · refine g_by (fun h185 => ?_) (fun h185 => ?_)
                                                          · refine g1 (pc' := 792) (w_tsIn (off := 760) X dL_law_32 (26) (by rw [h185]; rfl) (by decide) (by decide) rfl (by decide)) ?_
                                                            refine g1 (pc' := 793) (w_aload_n X dL_law_792 rfl 1 rfl) ?_
                                                            refine g1 (pc' := 794) (w_aload_n X dL_law_793 rfl 0 rfl) ?_
                                                            refine g1 (pc' := 795) (w_iload_n X dL_law_794 rfl 3 rfl) ?_
                                                            refine g1 (pc' := 796) (w_iconst X (1) dL_law_795 (by decide)) ?_
                                                            refine g1 (pc' := 797) (w_iadd X dL_law_796) ?_
                                                            refine g_gd (fun h186 => ?_)
                                                            refine g1 (pc' := 798) (w_sld X hX h186 dL_law_797) ?_
                                                            refine g1 (pc' := 799) (w_aload_n X dL_law_798 rfl 0 rfl) ?_
                                                            refine g1 (pc' := 800) (w_iload_n X dL_law_799 rfl 3 rfl) ?_
                                                            refine g1 (pc' := 801) (w_iconst X (2) dL_law_800 (by decide)) ?_
                                                            refine g1 (pc' := 802) (w_iadd X dL_law_801) ?_
                                                            refine g_gd (fun h187 => ?_)
                                                            refine g1 (pc' := 803) (w_sld X hX h187 dL_law_802) ?_
                                                            refine g_bd (pc' := 806) (fun r188 => [(0, .ref bs), (1, .ref (xb x + 0)), (2, .ref (xb x + 128)), (3, .int s18.1)]) (fun r188 => [.int r188]) (fun r188 => s18.2) (fun r188 h => k_X11_dry X hR hN Z kd_0 mw_849 (by decide) (Nat.le_of_ble_eq_true rfl) dL_law_803 h) (fun r188 => ?_)
                                                            show Gz x 4 806 [(0, .ref bs), (1, .ref (xb x + 0)), (2, .ref (xb x + 128)), (3, .int s18.1)] [.int r188] KDF s18.2 _ _
                                                            refine g1 (pc' := 807) (w_aload_n X dL_law_806 rfl 2 rfl) ?_
                                                            refine g1 (pc' := 808) (w_aload_n X dL_law_807 rfl 0 rfl) ?_
                                                            refine g1 (pc' := 809) (w_iload_n X dL_law_808 rfl 3 rfl) ?_
                                                            refine g1 (pc' := 810) (w_iconst X (1) dL_law_809 (by decide)) ?_
                                                            refine g1 (pc' := 811) (w_iadd X dL_law_810) ?_
                                                            refine g_gd (fun h189 => ?_)
                                                            refine g1 (pc' := 812) (w_sld X hX h189 dL_law_811) ?_
                                                            refine g1 (pc' := 813) (w_aload_n X dL_law_812 rfl 0 rfl) ?_
                                                            refine g1 (pc' := 814) (w_iload_n X dL_law_813 rfl 3 rfl) ?_
                                                            refine g1 (pc' := 815) (w_iconst X (2) dL_law_814 (by decide)) ?_
                                                            refine g1 (pc' := 816) (w_iadd X dL_law_815) ?_
                                                            refine g_gd (fun h190 => ?_)
                                                            refine g1 (pc' := 817) (w_sld X hX h190 dL_law_816) ?_
                                                            refine g_bd (pc' := 820) (fun r191 => [(0, .ref bs), (1, .ref (xb x + 0)), (2, .ref (xb x + 128)), (3, .int s18.1)]) (fun r191 => [.int r191, .int r188]) (fun r191 => s18.2) (fun r191 h => k_X12_dry X hR hN Z kd_128 mw_1329 (by decide) (Nat.le_of_ble_eq_true rfl) dL_law_817 h) (fun r191 => ?_)
                                                            show Gz x 4 820 [(0, .ref bs), (1, .ref (xb x + 0)), (2, .ref (xb x + 128)), (3, .int s18.1)] [.int r191, .int r188] KDF s18.2 _ _
                                                            refine g_if (pcT := 999) (pcF := 823) (w_icmp_eq (tgt := 999) X dL_law_820 (by decide)) (fun h192 => ?_) (fun h192 => ?_)
                                                            · refine g_lt (pc' := 1002) (fun v193 => [(3, .int v193), (0, .ref bs), (1, .ref (xb x + 0)), (2, .ref (xb x + 128))]) (fun v193 => []) (fun v193 => s18.2) (w_iinc X dL_law_999 3 rfl rfl (by decide) rfl) (fun v193 => ?_)
                                                              show Gz x 4 1002 [(3, .int v193), (0, .ref bs), (1, .ref (xb x + 0)), (2, .ref (xb x + 128))] [] KDF s18.2 _ _
                                                              refine g1 (pc' := 18) (w_goto X dL_law_1002 (by decide)) ?_
                                                              refine g_inl ?_
                                                              exact g_end [1, 2, 3, 0] rfl rfl rfl
                                                            · refine g1 (pc' := 824) (w_iconst X (0) dL_law_823 (by decide)) ?_
                                                              exact g_none
                                                          · refine g_by (fun h194 => ?_) (fun h194 => ?_)
                                                            · refine g1 (pc' := 825) (w_tsIn (off := 793) X dL_law_32 (27) (by rw [h194]; rfl) (by decide) (by decide) rfl (by decide)) ?_
                                                              refine g1 (pc' := 826) (w_aload_n X dL_law_825 rfl 1 rfl) ?_
                                                              refine g1 (pc' := 827) (w_aload_n X dL_law_826 rfl 0 rfl) ?_
                                                              refine g1 (pc' := 828) (w_iload_n X dL_law_827 rfl 3 rfl) ?_
                                                              refine g1 (pc' := 829) (w_iconst X (1) dL_law_828 (by decide)) ?_
                                                              refine g1 (pc' := 830) (w_iadd X dL_law_829) ?_
                                                              refine g_gd (fun h195 => ?_)
                                                              refine g1 (pc' := 831) (w_sld X hX h195 dL_law_830) ?_
                                                              refine g1 (pc' := 832) (w_aload_n X dL_law_831 rfl 0 rfl) ?_
                                                              refine g1 (pc' := 833) (w_iload_n X dL_law_832 rfl 3 rfl) ?_
                                                              refine g1 (pc' := 834) (w_iconst X (2) dL_law_833 (by decide)) ?_
                                                              refine g1 (pc' := 835) (w_iadd X dL_law_834) ?_
                                                              refine g_gd (fun h196 => ?_)
                                                              refine g1 (pc' := 836) (w_sld X hX h196 dL_law_835) ?_
                                                              refine g_bd (pc' := 839) (fun r197 => [(0, .ref bs), (1, .ref (xb x + 0)), (2, .ref (xb x + 128)), (3, .int s18.1)]) (fun r197 => [.int r197.1]) (fun r197 => r197.2) (fun r197 h => k_X11_hear X hR hN Z kd_0 mw_855 (by decide) (Nat.le_of_ble_eq_true rfl) dL_law_836 h) (fun r197 => ?_)
                                                              show Gz x 4 839 [(0, .ref bs), (1, .ref (xb x + 0)), (2, .ref (xb x + 128)), (3, .int s18.1)] [.int r197.1] KDF r197.2 _ _
                                                              refine g1 (pc' := 840) (w_aload_n X dL_law_839 rfl 2 rfl) ?_
                                                              refine g1 (pc' := 841) (w_aload_n X dL_law_840 rfl 0 rfl) ?_
                                                              refine g1 (pc' := 842) (w_iload_n X dL_law_841 rfl 3 rfl) ?_
                                                              refine g1 (pc' := 843) (w_iconst X (1) dL_law_842 (by decide)) ?_
                                                              refine g1 (pc' := 844) (w_iadd X dL_law_843) ?_
                                                              refine g_gd (fun h198 => ?_)
                                                              refine g1 (pc' := 845) (w_sld X hX h198 dL_law_844) ?_
                                                              refine g1 (pc' := 846) (w_aload_n X dL_law_845 rfl 0 rfl) ?_
                                                              refine g1 (pc' := 847) (w_iload_n X dL_law_846 rfl 3 rfl) ?_
                                                              refine g1 (pc' := 848) (w_iconst X (2) dL_law_847 (by decide)) ?_
                                                              refine g1 (pc' := 849) (w_iadd X dL_law_848) ?_
                                                              refine g_gd (fun h199 => ?_)
                                                              refine g1 (pc' := 850) (w_sld X hX h199 dL_law_849) ?_
                                                              refine g_bd (pc' := 853) (fun r200 => [(0, .ref bs), (1, .ref (xb x + 0)), (2, .ref (xb x + 128)), (3, .int s18.1)]) (fun r200 => [.int r200.1, .int r197.1]) (fun r200 => r200.2) (fun r200 h => k_X12_hear X hR hN Z kd_128 mw_1335 (by decide) (Nat.le_of_ble_eq_true rfl) dL_law_850 h) (fun r200 => ?_)
                                                              show Gz x 4 853 [(0, .ref bs), (1, .ref (xb x + 0)), (2, .ref (xb x + 128)), (3, .int s18.1)] [.int r200.1, .int r197.1] KDF r200.2 _ _
                                                              refine g_if (pcT := 999) (pcF := 856) (w_icmp_eq (tgt := 999) X dL_law_853 (by decide)) (fun h201 => ?_) (fun h201 => ?_)
                                                              · refine g_lt (pc' := 1002) (fun v202 => [(3, .int v202), (0, .ref bs), (1, .ref (xb x + 0)), (2, .ref (xb x + 128))]) (fun v202 => []) (fun v202 => r200.2) (w_iinc X dL_law_999 3 rfl rfl (by decide) rfl) (fun v202 => ?_)
                                                                show Gz x 4 1002 [(3, .int v202), (0, .ref bs), (1, .ref (xb x + 0)), (2, .ref (xb x + 128))] [] KDF r200.2 _ _
                                                                refine g1 (pc' := 18) (w_goto X dL_law_1002 (by decide)) ?_
                                                                refine g_inl ?_
                                                                exact g_end [1, 2, 3, 0] rfl rfl rfl
                                                              · refine g1 (pc' := 857) (w_iconst X (0) dL_law_856 (by decide)) ?_
                                                                exact g_none
                                                            · refine g_by (fun h203 => ?_) (fun h203 => ?_)
                                                              · refine g1 (pc' := 858) (w_tsIn (off := 826) X dL_law_32 (28) (by rw [h203]; rfl) (by decide) (by decide) rfl (by decide)) ?_
                                                                refine g1 (pc' := 859) (w_aload_n X dL_law_858 rfl 1 rfl) ?_
                                                                refine g_bd (pc' := 862) (fun r204 => [(0, .ref bs), (1, .ref (xb x + 0)), (2, .ref (xb x + 128)), (3, .int s18.1)]) (fun r204 => [.int r204.1]) (fun r204 => r204.2) (fun r204 h => k_X11_listen X hR hN Z kd_0 mw_871 (by decide) (Nat.le_of_ble_eq_true rfl) dL_law_859 h) (fun r204 => ?_)
                                                                show Gz x 4 862 [(0, .ref bs), (1, .ref (xb x + 0)), (2, .ref (xb x + 128)), (3, .int s18.1)] [.int r204.1] KDF r204.2 _ _
                                                                refine g1 (pc' := 863) (w_aload_n X dL_law_862 rfl 2 rfl) ?_
                                                                refine g_bd (pc' := 866) (fun r205 => [(0, .ref bs), (1, .ref (xb x + 0)), (2, .ref (xb x + 128)), (3, .int s18.1)]) (fun r205 => [.int r205.1, .int r204.1]) (fun r205 => r205.2) (fun r205 h => k_X12_listen X hR hN Z kd_128 mw_1339 (by decide) (Nat.le_of_ble_eq_true rfl) dL_law_863 h) (fun r205 => ?_)
                                                                show Gz x 4 866 [(0, .ref bs), (1, .ref (xb x + 0)), (2, .ref (xb x + 128)), (3, .int s18.1)] [.int r205.1, .int r204.1] KDF r205.2 _ _
                                                                refine g_if (pcT := 999) (pcF := 869) (w_icmp_eq (tgt := 999) X dL_law_866 (by decide)) (fun h206 => ?_) (fun h206 => ?_)
                                                                · refine g_lt (pc' := 1002) (fun v207 => [(3, .int v207), (0, .ref bs), (1, .ref (xb x + 0)), (2, .ref (xb x + 128))]) (fun v207 => []) (fun v207 => r205.2) (w_iinc X dL_law_999 3 rfl rfl (by decide) rfl) (fun v207 => ?_)
                                                                  show Gz x 4 1002 [(3, .int v207), (0, .ref bs), (1, .ref (xb x + 0)), (2, .ref (xb x + 128))] [] KDF r205.2 _ _
                                                                  refine g1 (pc' := 18) (w_goto X dL_law_1002 (by decide)) ?_
                                                                  refine g_inl ?_
                                                                  exact g_end [1, 2, 3, 0] rfl rfl rfl
                                                                · refine g1 (pc' := 870) (w_iconst X (0) dL_law_869 (by decide)) ?_
                                                                  exact g_none
                                                              · refine g_by (fun h208 => ?_) (fun h208 => ?_)
                                                                · refine g1 (pc' := 871) (w_tsIn (off := 839) X dL_law_32 (29) (by rw [h208]; rfl) (by decide) (by decide) rfl (by decide)) ?_
                                                                  refine g1 (pc' := 872) (w_aload_n X dL_law_871 rfl 1 rfl) ?_
                                                                  refine g1 (pc' := 873) (w_aload_n X dL_law_872 rfl 0 rfl) ?_
                                                                  refine g1 (pc' := 874) (w_iload_n X dL_law_873 rfl 3 rfl) ?_
                                                                  refine g1 (pc' := 875) (w_iconst X (1) dL_law_874 (by decide)) ?_
                                                                  refine g1 (pc' := 876) (w_iadd X dL_law_875) ?_
                                                                  refine g_gd (fun h209 => ?_)
                                                                  refine g1 (pc' := 877) (w_sld X hX h209 dL_law_876) ?_
                                                                  refine g1 (pc' := 878) (w_aload_n X dL_law_877 rfl 0 rfl) ?_
                                                                  refine g1 (pc' := 879) (w_iload_n X dL_law_878 rfl 3 rfl) ?_
                                                                  refine g1 (pc' := 880) (w_iconst X (2) dL_law_879 (by decide)) ?_
                                                                  refine g1 (pc' := 881) (w_iadd X dL_law_880) ?_
                                                                  refine g_gd (fun h210 => ?_)
                                                                  refine g1 (pc' := 882) (w_sld X hX h210 dL_law_881) ?_
                                                                  refine g_bd (pc' := 885) (fun r211 => [(0, .ref bs), (1, .ref (xb x + 0)), (2, .ref (xb x + 128)), (3, .int s18.1)]) (fun r211 => [.int r211.1]) (fun r211 => r211.2) (fun r211 h => k_X11_write X hR hN Z kd_0 mw_889 (by decide) (Nat.le_of_ble_eq_true rfl) dL_law_882 h) (fun r211 => ?_)
                                                                  show Gz x 4 885 [(0, .ref bs), (1, .ref (xb x + 0)), (2, .ref (xb x + 128)), (3, .int s18.1)] [.int r211.1] KDF r211.2 _ _
                                                                  refine g1 (pc' := 886) (w_aload_n X dL_law_885 rfl 2 rfl) ?_
                                                                  refine g1 (pc' := 887) (w_aload_n X dL_law_886 rfl 0 rfl) ?_
                                                                  refine g1 (pc' := 888) (w_iload_n X dL_law_887 rfl 3 rfl) ?_
                                                                  refine g1 (pc' := 889) (w_iconst X (1) dL_law_888 (by decide)) ?_
                                                                  refine g1 (pc' := 890) (w_iadd X dL_law_889) ?_
                                                                  refine g_gd (fun h212 => ?_)
                                                                  refine g1 (pc' := 891) (w_sld X hX h212 dL_law_890) ?_
                                                                  refine g1 (pc' := 892) (w_aload_n X dL_law_891 rfl 0 rfl) ?_
                                                                  refine g1 (pc' := 893) (w_iload_n X dL_law_892 rfl 3 rfl) ?_
                                                                  refine g1 (pc' := 894) (w_iconst X (2) dL_law_893 (by decide)) ?_
                                                                  refine g1 (pc' := 895) (w_iadd X dL_law_894) ?_
                                                                  refine g_gd (fun h213 => ?_)
                                                                  refine g1 (pc' := 896) (w_sld X hX h213 dL_law_895) ?_
                                                                  refine g_bd (pc' := 899) (fun r214 => [(0, .ref bs), (1, .ref (xb x + 0)), (2, .ref (xb x + 128)), (3, .int s18.1)]) (fun r214 => [.int r214.1, .int r211.1]) (fun r214 => r214.2) (fun r214 h => k_X12_write X hR hN Z kd_128 mw_1346 (by decide) (Nat.le_of_ble_eq_true rfl) dL_law_896 h) (fun r214 => ?_)
                                                                  show Gz x 4 899 [(0, .ref bs), (1, .ref (xb x + 0)), (2, .ref (xb x + 128)), (3, .int s18.1)] [.int r214.1, .int r211.1] KDF r214.2 _ _
                                                                  refine g_if (pcT := 999) (pcF := 902) (w_icmp_eq (tgt := 999) X dL_law_899 (by decide)) (fun h215 => ?_) (fun h215 => ?_)
                                                                  · refine g_lt (pc' := 1002) (fun v216 => [(3, .int v216), (0, .ref bs), (1, .ref (xb x + 0)), (2, .ref (xb x + 128))]) (fun v216 => []) (fun v216 => r214.2) (w_iinc X dL_law_999 3 rfl rfl (by decide) rfl) (fun v216 => ?_)
                                                                    show Gz x 4 1002 [(3, .int v216), (0, .ref bs), (1, .ref (xb x + 0)), (2, .ref (xb x + 128))] [] KDF r214.2 _ _
                                                                    refine g1 (pc' := 18) (w_goto X dL_law_1002 (by decide)) ?_
                                                                    refine g_inl ?_
                                                                    exact g_end [1, 2, 3, 0] rfl rfl rfl
                                                                  · refine g1 (pc' := 903) (w_iconst X (0) dL_law_902 (by decide)) ?_
                                                                    exact g_none
                                                                · refine g_by (fun h217 => ?_) (fun h217 => ?_)
                                                                  · refine g1 (pc' := 904) (w_tsIn (off := 872) X dL_law_32 (30) (by rw [h217]; rfl) (by decide) (by decide) rfl (by decide)) ?_
                                                                    refine g1 (pc' := 905) (w_aload_n X dL_law_904 rfl 1 rfl) ?_
                                                                    refine g_bd (pc' := 908) (fun r218 => [(0, .ref bs), (1, .ref (xb x + 0)), (2, .ref (xb x + 128)), (3, .int s18.1)]) (fun r218 => [.int r218.1]) (fun r218 => r218.2) (fun r218 h => k_X11_tear X hR hN Z kd_0 mw_897 (by decide) (Nat.le_of_ble_eq_true rfl) dL_law_905 h) (fun r218 => ?_)
                                                                    show Gz x 4 908 [(0, .ref bs), (1, .ref (xb x + 0)), (2, .ref (xb x + 128)), (3, .int s18.1)] [.int r218.1] KDF r218.2 _ _
                                                                    refine g1 (pc' := 909) (w_aload_n X dL_law_908 rfl 2 rfl) ?_
                                                                    refine g_bd (pc' := 912) (fun r219 => [(0, .ref bs), (1, .ref (xb x + 0)), (2, .ref (xb x + 128)), (3, .int s18.1)]) (fun r219 => [.int r219.1, .int r218.1]) (fun r219 => r219.2) (fun r219 h => k_X12_tear X hR hN Z kd_128 mw_1350 (by decide) (Nat.le_of_ble_eq_true rfl) dL_law_909 h) (fun r219 => ?_)
                                                                    show Gz x 4 912 [(0, .ref bs), (1, .ref (xb x + 0)), (2, .ref (xb x + 128)), (3, .int s18.1)] [.int r219.1, .int r218.1] KDF r219.2 _ _
                                                                    refine g_if (pcT := 999) (pcF := 915) (w_icmp_eq (tgt := 999) X dL_law_912 (by decide)) (fun h220 => ?_) (fun h220 => ?_)
                                                                    · refine g_lt (pc' := 1002) (fun v221 => [(3, .int v221), (0, .ref bs), (1, .ref (xb x + 0)), (2, .ref (xb x + 128))]) (fun v221 => []) (fun v221 => r219.2) (w_iinc X dL_law_999 3 rfl rfl (by decide) rfl) (fun v221 => ?_)
                                                                      show Gz x 4 1002 [(3, .int v221), (0, .ref bs), (1, .ref (xb x + 0)), (2, .ref (xb x + 128))] [] KDF r219.2 _ _
                                                                      refine g1 (pc' := 18) (w_goto X dL_law_1002 (by decide)) ?_
                                                                      refine g_inl ?_
                                                                      exact g_end [1, 2, 3, 0] rfl rfl rfl
                                                                    · refine g1 (pc' := 916) (w_iconst X (0) dL_law_915 (by decide)) ?_
                                                                      exact g_none
                                                                  · refine g_by (fun h222 => ?_) (fun h222 => ?_)
                                                                    · refine g1 (pc' := 917) (w_tsIn (off := 885) X dL_law_32 (31) (by rw [h222]; rfl) (by decide) (by decide) rfl (by decide)) ?_
                                                                      refine g1 (pc' := 918) (w_aload_n X dL_law_917 rfl 1 rfl) ?_
                                                                      refine g_bd (pc' := 921) (fun r223 => [(0, .ref bs), (1, .ref (xb x + 0)), (2, .ref (xb x + 128)), (3, .int s18.1)]) (fun r223 => [.int r223]) (fun r223 => s18.2) (fun r223 h => k_X11_judge X hR hN Z kd_0 mw_901 (by decide) (Nat.le_of_ble_eq_true rfl) dL_law_918 h) (fun r223 => ?_)
                                                                      show Gz x 4 921 [(0, .ref bs), (1, .ref (xb x + 0)), (2, .ref (xb x + 128)), (3, .int s18.1)] [.int r223] KDF s18.2 _ _
                                                                      refine g1 (pc' := 922) (w_aload_n X dL_law_921 rfl 2 rfl) ?_
                                                                      refine g_bd (pc' := 925) (fun r224 => [(0, .ref bs), (1, .ref (xb x + 0)), (2, .ref (xb x + 128)), (3, .int s18.1)]) (fun r224 => [.int r224, .int r223]) (fun r224 => s18.2) (fun r224 h => k_X12_judge X hR hN Z kd_128 mw_1354 (by decide) (Nat.le_of_ble_eq_true rfl) dL_law_922 h) (fun r224 => ?_)
                                                                      show Gz x 4 925 [(0, .ref bs), (1, .ref (xb x + 0)), (2, .ref (xb x + 128)), (3, .int s18.1)] [.int r224, .int r223] KDF s18.2 _ _
                                                                      refine g_if (pcT := 999) (pcF := 928) (w_icmp_eq (tgt := 999) X dL_law_925 (by decide)) (fun h225 => ?_) (fun h225 => ?_)
                                                                      · refine g_lt (pc' := 1002) (fun v226 => [(3, .int v226), (0, .ref bs), (1, .ref (xb x + 0)), (2, .ref (xb x + 128))]) (fun v226 => []) (fun v226 => s18.2) (w_iinc X dL_law_999 3 rfl rfl (by decide) rfl) (fun v226 => ?_)
                                                                        show Gz x 4 1002 [(3, .int v226), (0, .ref bs), (1, .ref (xb x + 0)), (2, .ref (xb x + 128))] [] KDF s18.2 _ _
                                                                        refine g1 (pc' := 18) (w_goto X dL_law_1002 (by decide)) ?_
                                                                        refine g_inl ?_
                                                                        exact g_end [1, 2, 3, 0] rfl rfl rfl
                                                                      · refine g1 (pc' := 929) (w_iconst X (0) dL_law_928 (by decide)) ?_
                                                                        exact g_none
                                                                    · refine g_by (fun h227 => ?_) (fun h227 => ?_)
                                                                      · refine g1 (pc' := 930) (w_tsIn (off := 898) X dL_law_32 (32) (by rw [h227]; rfl) (by decide) (by decide) rfl (by decide)) ?_
                                                                        refine g1 (pc' := 931) (w_aload_n X dL_law_930 rfl 1 rfl) ?_
                                                                        refine g1 (pc' := 932) (w_aload_n X dL_law_931 rfl 0 rfl) ?_
                                                                        refine g1 (pc' := 933) (w_iload_n X dL_law_932 rfl 3 rfl) ?_
                                                                        refine g1 (pc' := 934) (w_iconst X (1) dL_law_933 (by decide)) ?_
                                                                        refine g1 (pc' := 935) (w_iadd X dL_law_934) ?_
                                                                        refine g_gd (fun h228 => ?_)
                                                                        refine g1 (pc' := 936) (w_sld X hX h228 dL_law_935) ?_
                                                                        refine g_bd (pc' := 939) (fun r229 => [(0, .ref bs), (1, .ref (xb x + 0)), (2, .ref (xb x + 128)), (3, .int s18.1)]) (fun r229 => [.int r229.1]) (fun r229 => r229.2) (fun r229 h => k_X11_seed X hR hN Z kd_0 mw_910 (by decide) (Nat.le_of_ble_eq_true rfl) dL_law_936 h) (fun r229 => ?_)
                                                                        show Gz x 4 939 [(0, .ref bs), (1, .ref (xb x + 0)), (2, .ref (xb x + 128)), (3, .int s18.1)] [.int r229.1] KDF r229.2 _ _
                                                                        refine g1 (pc' := 940) (w_aload_n X dL_law_939 rfl 2 rfl) ?_
                                                                        refine g1 (pc' := 941) (w_aload_n X dL_law_940 rfl 0 rfl) ?_
                                                                        refine g1 (pc' := 942) (w_iload_n X dL_law_941 rfl 3 rfl) ?_
                                                                        refine g1 (pc' := 943) (w_iconst X (1) dL_law_942 (by decide)) ?_
                                                                        refine g1 (pc' := 944) (w_iadd X dL_law_943) ?_
                                                                        refine g_gd (fun h230 => ?_)
                                                                        refine g1 (pc' := 945) (w_sld X hX h230 dL_law_944) ?_
                                                                        refine g_bd (pc' := 948) (fun r231 => [(0, .ref bs), (1, .ref (xb x + 0)), (2, .ref (xb x + 128)), (3, .int s18.1)]) (fun r231 => [.int r231.1, .int r229.1]) (fun r231 => r231.2) (fun r231 h => k_X12_seed X hR hN Z kd_128 mw_1358 (by decide) (Nat.le_of_ble_eq_true rfl) dL_law_945 h) (fun r231 => ?_)
                                                                        show Gz x 4 948 [(0, .ref bs), (1, .ref (xb x + 0)), (2, .ref (xb x + 128)), (3, .int s18.1)] [.int r231.1, .int r229.1] KDF r231.2 _ _
                                                                        refine g_if (pcT := 999) (pcF := 951) (w_icmp_eq (tgt := 999) X dL_law_948 (by decide)) (fun h232 => ?_) (fun h232 => ?_)
                                                                        · refine g_lt (pc' := 1002) (fun v233 => [(3, .int v233), (0, .ref bs), (1, .ref (xb x + 0)), (2, .ref (xb x + 128))]) (fun v233 => []) (fun v233 => r231.2) (w_iinc X dL_law_999 3 rfl rfl (by decide) rfl) (fun v233 => ?_)
                                                                          show Gz x 4 1002 [(3, .int v233), (0, .ref bs), (1, .ref (xb x + 0)), (2, .ref (xb x + 128))] [] KDF r231.2 _ _
                                                                          refine g1 (pc' := 18) (w_goto X dL_law_1002 (by decide)) ?_
                                                                          refine g_inl ?_
                                                                          exact g_end [1, 2, 3, 0] rfl rfl rfl
                                                                        · refine g1 (pc' := 952) (w_iconst X (0) dL_law_951 (by decide)) ?_
                                                                          exact g_none
                                                                      · refine g_by (fun h234 => ?_) (fun h234 => ?_)
                                                                        · refine g1 (pc' := 953) (w_tsIn (off := 921) X dL_law_32 (33) (by rw [h234]; rfl) (by decide) (by decide) rfl (by decide)) ?_
                                                                          refine g1 (pc' := 954) (w_aload_n X dL_law_953 rfl 1 rfl) ?_
                                                                          refine g1 (pc' := 955) (w_aload_n X dL_law_954 rfl 0 rfl) ?_
                                                                          refine g1 (pc' := 956) (w_iload_n X dL_law_955 rfl 3 rfl) ?_
                                                                          refine g1 (pc' := 957) (w_iconst X (1) dL_law_956 (by decide)) ?_
                                                                          refine g1 (pc' := 958) (w_iadd X dL_law_957) ?_
                                                                          refine g_gd (fun h235 => ?_)
                                                                          refine g1 (pc' := 959) (w_sld X hX h235 dL_law_958) ?_
                                                                          refine g_bd (pc' := 962) (fun r236 => [(0, .ref bs), (1, .ref (xb x + 0)), (2, .ref (xb x + 128)), (3, .int s18.1)]) (fun r236 => [.int r236.1]) (fun r236 => r236.2) (fun r236 h => k_X11_keep X hR hN Z kd_0 mw_914 (by decide) (Nat.le_of_ble_eq_true rfl) dL_law_959 h) (fun r236 => ?_)
                                                                          show Gz x 4 962 [(0, .ref bs), (1, .ref (xb x + 0)), (2, .ref (xb x + 128)), (3, .int s18.1)] [.int r236.1] KDF r236.2 _ _
                                                                          refine g1 (pc' := 963) (w_aload_n X dL_law_962 rfl 2 rfl) ?_
                                                                          refine g1 (pc' := 964) (w_aload_n X dL_law_963 rfl 0 rfl) ?_
                                                                          refine g1 (pc' := 965) (w_iload_n X dL_law_964 rfl 3 rfl) ?_
                                                                          refine g1 (pc' := 966) (w_iconst X (1) dL_law_965 (by decide)) ?_
                                                                          refine g1 (pc' := 967) (w_iadd X dL_law_966) ?_
                                                                          refine g_gd (fun h237 => ?_)
                                                                          refine g1 (pc' := 968) (w_sld X hX h237 dL_law_967) ?_
                                                                          refine g_bd (pc' := 971) (fun r238 => [(0, .ref bs), (1, .ref (xb x + 0)), (2, .ref (xb x + 128)), (3, .int s18.1)]) (fun r238 => [.int r238.1, .int r236.1]) (fun r238 => r238.2) (fun r238 h => k_X12_keep X hR hN Z kd_128 mw_1362 (by decide) (Nat.le_of_ble_eq_true rfl) dL_law_968 h) (fun r238 => ?_)
                                                                          show Gz x 4 971 [(0, .ref bs), (1, .ref (xb x + 0)), (2, .ref (xb x + 128)), (3, .int s18.1)] [.int r238.1, .int r236.1] KDF r238.2 _ _
                                                                          refine g_if (pcT := 999) (pcF := 974) (w_icmp_eq (tgt := 999) X dL_law_971 (by decide)) (fun h239 => ?_) (fun h239 => ?_)
                                                                          · refine g_lt (pc' := 1002) (fun v240 => [(3, .int v240), (0, .ref bs), (1, .ref (xb x + 0)), (2, .ref (xb x + 128))]) (fun v240 => []) (fun v240 => r238.2) (w_iinc X dL_law_999 3 rfl rfl (by decide) rfl) (fun v240 => ?_)
                                                                            show Gz x 4 1002 [(3, .int v240), (0, .ref bs), (1, .ref (xb x + 0)), (2, .ref (xb x + 128))] [] KDF r238.2 _ _
                                                                            refine g1 (pc' := 18) (w_goto X dL_law_1002 (by decide)) ?_
                                                                            refine g_inl ?_
                                                                            exact g_end [1, 2, 3, 0] rfl rfl rfl
                                                                          · refine g1 (pc' := 975) (w_iconst X (0) dL_law_974 (by decide)) ?_
                                                                            exact g_none
                                                                        · refine g_by (fun h241 => ?_) (fun h241 => ?_)
                                                                          · refine g1 (pc' := 976) (w_tsIn (off := 944) X dL_law_32 (34) (by rw [h241]; rfl) (by decide) (by decide) rfl (by decide)) ?_
                                                                            refine g1 (pc' := 977) (w_aload_n X dL_law_976 rfl 1 rfl) ?_
                                                                            refine g1 (pc' := 978) (w_aload_n X dL_law_977 rfl 0 rfl) ?_
                                                                            refine g1 (pc' := 979) (w_iload_n X dL_law_978 rfl 3 rfl) ?_
                                                                            refine g1 (pc' := 980) (w_iconst X (1) dL_law_979 (by decide)) ?_
                                                                            refine g1 (pc' := 981) (w_iadd X dL_law_980) ?_
                                                                            refine g_gd (fun h242 => ?_)
                                                                            refine g1 (pc' := 982) (w_sld X hX h242 dL_law_981) ?_
                                                                            refine g_bd (pc' := 985) (fun r243 => [(0, .ref bs), (1, .ref (xb x + 0)), (2, .ref (xb x + 128)), (3, .int s18.1)]) (fun r243 => [.int r243.1]) (fun r243 => r243.2) (fun r243 h => k_X11_goBack X hR hN Z kd_0 mw_919 (by decide) (Nat.le_of_ble_eq_true rfl) dL_law_982 h) (fun r243 => ?_)
                                                                            show Gz x 4 985 [(0, .ref bs), (1, .ref (xb x + 0)), (2, .ref (xb x + 128)), (3, .int s18.1)] [.int r243.1] KDF r243.2 _ _
                                                                            refine g1 (pc' := 986) (w_aload_n X dL_law_985 rfl 2 rfl) ?_
                                                                            refine g1 (pc' := 987) (w_aload_n X dL_law_986 rfl 0 rfl) ?_
                                                                            refine g1 (pc' := 988) (w_iload_n X dL_law_987 rfl 3 rfl) ?_
                                                                            refine g1 (pc' := 989) (w_iconst X (1) dL_law_988 (by decide)) ?_
                                                                            refine g1 (pc' := 990) (w_iadd X dL_law_989) ?_
                                                                            refine g_gd (fun h244 => ?_)
                                                                            refine g1 (pc' := 991) (w_sld X hX h244 dL_law_990) ?_
                                                                            refine g_bd (pc' := 994) (fun r245 => [(0, .ref bs), (1, .ref (xb x + 0)), (2, .ref (xb x + 128)), (3, .int s18.1)]) (fun r245 => [.int r245.1, .int r243.1]) (fun r245 => r245.2) (fun r245 h => k_X12_goBack X hR hN Z kd_128 mw_1366 (by decide) (Nat.le_of_ble_eq_true rfl) dL_law_991 h) (fun r245 => ?_)
                                                                            show Gz x 4 994 [(0, .ref bs), (1, .ref (xb x + 0)), (2, .ref (xb x + 128)), (3, .int s18.1)] [.int r245.1, .int r243.1] KDF r245.2 _ _
                                                                            refine g_if (pcT := 999) (pcF := 997) (w_icmp_eq (tgt := 999) X dL_law_994 (by decide)) (fun h246 => ?_) (fun h246 => ?_)
                                                                            · refine g_lt (pc' := 1002) (fun v247 => [(3, .int v247), (0, .ref bs), (1, .ref (xb x + 0)), (2, .ref (xb x + 128))]) (fun v247 => []) (fun v247 => r245.2) (w_iinc X dL_law_999 3 rfl rfl (by decide) rfl) (fun v247 => ?_)
                                                                              show Gz x 4 1002 [(3, .int v247), (0, .ref bs), (1, .ref (xb x + 0)), (2, .ref (xb x + 128))] [] KDF r245.2 _ _
                                                                              refine g1 (pc' := 18) (w_goto X dL_law_1002 (by decide)) ?_
                                                                              refine g_inl ?_
                                                                              exact g_end [1, 2, 3, 0] rfl rfl rfl
                                                                            · refine g1 (pc' := 998) (w_iconst X (0) dL_law_997 (by decide)) ?_
                                                                              exact g_none
                                                                          · refine g1 (pc' := 999) (w_tsOut X dL_law_32 (by have eh3 := ne_int h3 (n := 0) rfl; have eh10 := ne_int h10 (n := 1) rfl; have eh15 := ne_int h15 (n := 2) rfl; have eh18 := ne_int h18 (n := 3) rfl; have eh25 := ne_int h25 (n := 4) rfl; have eh32 := ne_int h32 (n := 5) rfl; have eh41 := ne_int h41 (n := 6) rfl; have eh50 := ne_int h50 (n := 7) rfl; have eh57 := ne_int h57 (n := 8) rfl; have eh62 := ne_int h62 (n := 9) rfl; have eh71 := ne_int h71 (n := 10) rfl; have eh76 := ne_int h76 (n := 11) rfl; have eh87 := ne_int h87 (n := 12) rfl; have eh94 := ne_int h94 (n := 13) rfl; have eh101 := ne_int h101 (n := 14) rfl; have eh106 := ne_int h106 (n := 15) rfl; have eh113 := ne_int h113 (n := 16) rfl; have eh122 := ne_int h122 (n := 17) rfl; have eh127 := ne_int h127 (n := 18) rfl; have eh132 := ne_int h132 (n := 19) rfl; have eh141 := ne_int h141 (n := 20) rfl; have eh148 := ne_int h148 (n := 21) rfl; have eh157 := ne_int h157 (n := 22) rfl; have eh162 := ne_int h162 (n := 23) rfl; have eh171 := ne_int h171 (n := 24) rfl; have eh176 := ne_int h176 (n := 25) rfl; have eh185 := ne_int h185 (n := 26) rfl; have eh194 := ne_int h194 (n := 27) rfl; have eh203 := ne_int h203 (n := 28) rfl; have eh208 := ne_int h208 (n := 29) rfl; have eh217 := ne_int h217 (n := 30) rfl; have eh222 := ne_int h222 (n := 31) rfl; have eh227 := ne_int h227 (n := 32) rfl; have eh234 := ne_int h234 (n := 33) rfl; have eh241 := ne_int h241 (n := 34) rfl; omega) (by decide)) ?_
                                                                            refine g_lt (pc' := 1002) (fun v248 => [(3, .int v248), (0, .ref bs), (1, .ref (xb x + 0)), (2, .ref (xb x + 128))]) (fun v248 => []) (fun v248 => s18.2) (w_iinc X dL_law_999 3 rfl rfl (by decide) rfl) (fun v248 => ?_)
                                                                            show Gz x 4 1002 [(3, .int v248), (0, .ref bs), (1, .ref (xb x + 0)), (2, .ref (xb x + 128))] [] KDF s18.2 _ _
                                                                            refine g1 (pc' := 18) (w_goto X dL_law_1002 (by decide)) ?_
                                                                            refine g_inl ?_
                                                                            exact g_end [1, 2, 3, 0] rfl rfl rfl
  · show Gz x 4 1005 [] [] KDF e249 _ _
    refine g1 (pc' := 1006) (w_iconst X (1) dL_law_1005 (by decide)) ?_
    exact g_rL X hRl dL_law_1006
