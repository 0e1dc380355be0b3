def stA (M : Mm) (o : Nat) (f : Nat → Int32) : Mm := fun o' => if o' = o then f else M o'
def st2 (M : Mm) (o k : Nat) (x : Int32) : Mm := stA M o (upd (M o) k x)
theorem stA_self {M : Mm} {o : Nat} {f : Nat → Int32} : stA M o f o = f := by simp [stA]
theorem stA_ne {M : Mm} {o o' : Nat} {f : Nat → Int32} (h : o' ≠ o) : stA M o f o' = M o' := by simp [stA, h]
def wld (an : An) (b : Nat) (KD : Kd) (M : Mm) : va_W := KD.mapIdx (fun o k => (b + o, cel an b k o (M o)))
theorem wld_get {an : An} {b : Nat} {KD : Kd} {M : Mm} {o : Nat} {k : Nat × Nat} (h : KD[o]? = some k) : (wld an b KD M)[o]? = some (b + o, cel an b k o (M o)) := by
  simp [wld, List.getElem?_mapIdx, h]
theorem wld_at {an : An} {b : Nat} {KD : Kd} {M : Mm} {i : Nat} {p : Nat × va_E} (h : (wld an b KD M)[i]? = some p) : p.1 = b + i := by
  simp only [wld, List.getElem?_mapIdx, Option.map_eq_some_iff] at h
  obtain ⟨a, -, h⟩ := h
  rw [← h]
theorem wld_D {an : An} {b : Nat} {KD : Kd} {M : Mm} : va_D (fun q => b ≤ q) (wld an b KD M) := by
  refine ⟨fun i j p q hi hj hpq => ?_, fun k q hk => ?_⟩
  · have h1 := wld_at hi
    have h2 := wld_at hj
    omega
  · have h1 := wld_at hk
    show b ≤ q.1
    omega
theorem wld_set {an : An} {b : Nat} {KD : Kd} {M : Mm} {o : Nat} {k : Nat × Nat} {f : Nat → Int32} {e : va_E} (h : KD[o]? = some k) (he : cel an b k o f = e) : (wld an b KD M).set o (b + o, e) = wld an b KD (stA M o f) := by
  have hl : o < (wld an b KD M).length := by simp [wld]; exact (List.getElem?_eq_some_iff.mp h).1
  apply List.ext_getElem?
  intro i
  by_cases hi : i = o
  · subst hi
    rw [List.getElem?_set_self hl, wld_get h, stA_self, he]
  · rw [List.getElem?_set_ne (Ne.symm hi)]
    simp [wld, List.getElem?_mapIdx, stA_ne hi]
theorem wld_new {an : An} {b : Nat} {KD : Kd} {M : Mm} {k : Nat × Nat} {f : Nat → Int32} : wld an b (KD ++ [k]) (stA M KD.length f) = wld an b KD M ++ [(b + KD.length, cel an b k KD.length f)] := by
  apply List.ext_getElem?
  intro i
  rw [wld, List.getElem?_mapIdx]
  by_cases hi : i < KD.length
  · rw [List.getElem?_append_left hi, List.getElem?_append_left (by simp [wld]; exact hi), stA_ne (Nat.ne_of_lt hi), wld, List.getElem?_mapIdx]
  · by_cases hi2 : i = KD.length
    · subst hi2
      rw [List.getElem?_append_right (Nat.le_refl _), List.getElem?_append_right (by simp [wld]), stA_self]
      simp [wld]
    · rw [List.getElem?_eq_none (by simp; omega), List.getElem?_eq_none (by simp [wld]; omega)]
      rfl
def ssum (KD : Kd) : Nat := (KD.map ksz).sum
abbrev tyL (an : An) : List (ClassId × FieldType) := [(an.1, .int), (an.2.1, .boolean), (an.2.2.1, .object "BellSuitors$Change"), (an.2.2.2, .object "BellSuitors$Evening")]
abbrev Cxt : Type := Program × Launch × Env × Room × State × MethodId × Array Value × List Frame × Method × Code × va_G × An × Nat × Nat × Nat × Nat
def Ok (x : Cxt) (cc : ByteArray) (nL : Nat) (own : String) (ret : Option FieldType) : Prop := match x with
  | (p, _l, _e, _R, s, m, args, _below, meth, c, D, an, b, _n0, _s0, _zf) => p.tables.exec = Jvm.exec ∧ c.code = cc ∧ c.maxLocals = nL ∧ s.vm.findClass own = some m.cls ∧ (∀ w ∈ tbG, w.before args s = true) ∧ va_K D clsL (tyL an) s ∧ meth.locks = false ∧ meth.sig.returnType = ret ∧ b ≤ s.heap.size
def WX (x : Cxt) (nL pc : Nat) (lv : List (Nat × Value)) (st : List Value) (KD : Kd) (M : Mm) (Q : State → Prop) : Prop := match x with
  | (p, l, e, R, s, m, args, below, meth, c, D, an, b, n0, s0, zf) => ∀ (ls : Array Slot) (H : Heap) (locs : List Loc) (cs sl : Nat), lv_has ls nL lv → va_P D clsL (wld an b KD M) H → (zf = 1 → H.size = b + KD.length) → va_S (fun q => b ≤ q) s.heap H locs → cs + n0 = KD.length → sl + s0 = ssum KD → W p l e R s m args below meth c H locs cs sl Q (F0 m pc ls st)
def xb (x : Cxt) : Nat := match x with
  | (_p, _l, _e, _R, _s, _m, _args, _below, _meth, _c, _D, _an, b, _n0, _s0, _zf) => b
def xz (x : Cxt) : Nat := match x with
  | (_p, _l, _e, _R, _s, _m, _args, _below, _meth, _c, _D, _an, _b, _n0, _s0, zf) => zf
def xl (x : Cxt) : Launch := match x with
  | (_p, l, _e, _R, _s, _m, _args, _below, _meth, _c, _D, _an, _b, _n0, _s0, _zf) => l
def xD (x : Cxt) : va_G := match x with
  | (_p, _l, _e, _R, _s, _m, _args, _below, _meth, _c, D, _an, _b, _n0, _s0, _zf) => D
def xa (x : Cxt) : An := match x with
  | (_p, _l, _e, _R, _s, _m, _args, _below, _meth, _c, _D, an, _b, _n0, _s0, _zf) => an
def StpZ (x : Cxt) (nL pc : Nat) (lv : List (Nat × Value)) (st : List Value) (KD : Kd) (M : Mm) (pc' : Nat) (lv' : List (Nat × Value)) (st' : List Value) (KD' : Kd) (M' : Mm) : Prop := ∀ Q : State → Prop, WX x nL pc' lv' st' KD' M' Q → WX x nL pc lv st KD M Q
def BrcZ (x : Cxt) (nL pc : Nat) (lv : List (Nat × Value)) (st : List Value) (KD : Kd) (M : Mm) (c : Prop) (pcT pcF : Nat) (st' : List Value) : Prop := ∀ Q : State → Prop, (c → WX x nL pcT lv st' KD M Q) → (¬ c → WX x nL pcF lv st' KD M Q) → WX x nL pc lv st KD M Q
def sl (x y : Int32) : Int32 := x <<< (y &&& 31)
def sr (x y : Int32) : Int32 := x >>> (y &&& 31)
def us (x y : Int32) : Int32 := (x.toUInt32 >>> (y.toUInt32 &&& Int32.toUInt32 31)).toInt32
def rm (x y : Int32) : Int32 := x - x / y * y
def rmL (x y : Int64) : Int64 := x - x / y * y
abbrev ix (i : Int32) : Nat := i.toNatClampNeg
abbrev ib (i : Int32) (n : Nat) : Prop := 0 ≤ i.toInt ∧ i.toInt < (n : Int)
abbrev zb (x : Int32) : Prop := x = 0 ∨ x = 1

theorem w_iconst {x : Cxt} {cc : ByteArray} {nL : Nat} {own : String} {ret : Option FieldType} (X : Ok x cc nL own ret) {pc : Nat} {lv : List (Nat × Value)} {st : List Value} {KD : Kd} {M : Mm} {n : Int} (v : Int32) (hd : decode cc pc = .ok (.iconst n, 1)) (hv : Int32.ofInt n = v) : StpZ x nL pc lv (st) KD M (pc + 1) lv (.int v :: st) KD M := by
  obtain ⟨p, l, e, R, s, m, args, below, meth, c, D, an, b, n0, s0, zf⟩ := x
  obtain ⟨hx, hb, hml, hown, hts, hK, hlk, hr, hbs⟩ := X
  intro Q k ls H locs cs sl hl hP hz hS hc hs
  exact lv_iconst hx hb hd hv (k ls H locs cs sl hl hP hz hS hc hs)
theorem w_bipush {x : Cxt} {cc : ByteArray} {nL : Nat} {own : String} {ret : Option FieldType} (X : Ok x cc nL own ret) {pc : Nat} {lv : List (Nat × Value)} {st : List Value} {KD : Kd} {M : Mm} {n : Int} (v : Int32) (hd : decode cc pc = .ok (.bipush n, 2)) (hv : (Int8.ofInt n).toInt32 = v) : StpZ x nL pc lv (st) KD M (pc + 2) lv (.int v :: st) KD M := by
  obtain ⟨p, l, e, R, s, m, args, below, meth, c, D, an, b, n0, s0, zf⟩ := x
  obtain ⟨hx, hb, hml, hown, hts, hK, hlk, hr, hbs⟩ := X
  intro Q k ls H locs cs sl hl hP hz hS hc hs
  exact lv_bipush hx hb hd hv (k ls H locs cs sl hl hP hz hS hc hs)
theorem w_sipush {x : Cxt} {cc : ByteArray} {nL : Nat} {own : String} {ret : Option FieldType} (X : Ok x cc nL own ret) {pc : Nat} {lv : List (Nat × Value)} {st : List Value} {KD : Kd} {M : Mm} {n : Int} (v : Int32) (hd : decode cc pc = .ok (.sipush n, 3)) (hv : (Int16.ofInt n).toInt32 = v) : StpZ x nL pc lv (st) KD M (pc + 3) lv (.int v :: st) KD M := by
  obtain ⟨p, l, e, R, s, m, args, below, meth, c, D, an, b, n0, s0, zf⟩ := x
  obtain ⟨hx, hb, hml, hown, hts, hK, hlk, hr, hbs⟩ := X
  intro Q k ls H locs cs sl hl hP hz hS hc hs
  exact lv_sipush hx hb hd hv (k ls H locs cs sl hl hP hz hS hc hs)
theorem w_iload_n {x : Cxt} {cc : ByteArray} {nL : Nat} {own : String} {ret : Option FieldType} (X : Ok x cc nL own ret) {pc : Nat} {lv : List (Nat × Value)} {st : List Value} {KD : Kd} {M : Mm} {k : Fin 4} {i : Nat} {v : Int32} (hd : decode cc pc = .ok (.iload_n k, 1)) (hi : (k : Nat) = i) (j : Nat) (hj : lv[j]? = some (i, .int v)) : StpZ x nL pc lv st KD M (pc + 1) lv (.int v :: st) KD M := by
  obtain ⟨p, l, e, R, s, m, args, below, meth, c, D, an, b, n0, s0, zf⟩ := x
  obtain ⟨hx, hb, hml, hown, hts, hK, hlk, hr, hbs⟩ := X
  intro Q k2 ls H locs cs sl hl hP hz hS hc hs
  exact lv_iload_n hx hb hd hi (lv_at hl j hj) (k2 ls H locs cs sl hl hP hz hS hc hs)
theorem w_iload {x : Cxt} {cc : ByteArray} {nL : Nat} {own : String} {ret : Option FieldType} (X : Ok x cc nL own ret) {pc : Nat} {lv : List (Nat × Value)} {st : List Value} {KD : Kd} {M : Mm} {i : Nat} {v : Int32} (hd : decode cc pc = .ok (.iload i, 2)) (j : Nat) (hj : lv[j]? = some (i, .int v)) : StpZ x nL pc lv st KD M (pc + 2) lv (.int v :: st) KD M := by
  obtain ⟨p, l, e, R, s, m, args, below, meth, c, D, an, b, n0, s0, zf⟩ := x
  obtain ⟨hx, hb, hml, hown, hts, hK, hlk, hr, hbs⟩ := X
  intro Q k2 ls H locs cs sl hl hP hz hS hc hs
  exact lv_iload hx hb hd (lv_at hl j hj) (k2 ls H locs cs sl hl hP hz hS hc hs)
theorem w_aload_n {x : Cxt} {cc : ByteArray} {nL : Nat} {own : String} {ret : Option FieldType} (X : Ok x cc nL own ret) {pc : Nat} {lv : List (Nat × Value)} {st : List Value} {KD : Kd} {M : Mm} {k : Fin 4} {i : Nat} {v : Nat} (hd : decode cc pc = .ok (.aload_n k, 1)) (hi : (k : Nat) = i) (j : Nat) (hj : lv[j]? = some (i, .ref v)) : StpZ x nL pc lv st KD M (pc + 1) lv (.ref v :: st) KD M := by
  obtain ⟨p, l, e, R, s, m, args, below, meth, c, D, an, b, n0, s0, zf⟩ := x
  obtain ⟨hx, hb, hml, hown, hts, hK, hlk, hr, hbs⟩ := X
  intro Q k2 ls H locs cs sl hl hP hz hS hc hs
  exact lv_aload_n hx hb hd hi (lv_at hl j hj) (k2 ls H locs cs sl hl hP hz hS hc hs)
theorem w_aload {x : Cxt} {cc : ByteArray} {nL : Nat} {own : String} {ret : Option FieldType} (X : Ok x cc nL own ret) {pc : Nat} {lv : List (Nat × Value)} {st : List Value} {KD : Kd} {M : Mm} {i : Nat} {v : Nat} (hd : decode cc pc = .ok (.aload i, 2)) (j : Nat) (hj : lv[j]? = some (i, .ref v)) : StpZ x nL pc lv st KD M (pc + 2) lv (.ref v :: st) KD M := by
  obtain ⟨p, l, e, R, s, m, args, below, meth, c, D, an, b, n0, s0, zf⟩ := x
  obtain ⟨hx, hb, hml, hown, hts, hK, hlk, hr, hbs⟩ := X
  intro Q k2 ls H locs cs sl hl hP hz hS hc hs
  exact lv_aload hx hb hd (lv_at hl j hj) (k2 ls H locs cs sl hl hP hz hS hc hs)
theorem w_lload_n {x : Cxt} {cc : ByteArray} {nL : Nat} {own : String} {ret : Option FieldType} (X : Ok x cc nL own ret) {pc : Nat} {lv : List (Nat × Value)} {st : List Value} {KD : Kd} {M : Mm} {k : Fin 4} {i : Nat} {v : Int64} (hd : decode cc pc = .ok (.lload_n k, 1)) (hi : (k : Nat) = i) (j : Nat) (hj : lv[j]? = some (i, .long v)) : StpZ x nL pc lv st KD M (pc + 1) lv (.long v :: st) KD M := by
  obtain ⟨p, l, e, R, s, m, args, below, meth, c, D, an, b, n0, s0, zf⟩ := x
  obtain ⟨hx, hb, hml, hown, hts, hK, hlk, hr, hbs⟩ := X
  intro Q k2 ls H locs cs sl hl hP hz hS hc hs
  exact lv_lload_n hx hb hd hi (lv_at hl j hj) (k2 ls H locs cs sl hl hP hz hS hc hs)
theorem w_lload {x : Cxt} {cc : ByteArray} {nL : Nat} {own : String} {ret : Option FieldType} (X : Ok x cc nL own ret) {pc : Nat} {lv : List (Nat × Value)} {st : List Value} {KD : Kd} {M : Mm} {i : Nat} {v : Int64} (hd : decode cc pc = .ok (.lload i, 2)) (j : Nat) (hj : lv[j]? = some (i, .long v)) : StpZ x nL pc lv st KD M (pc + 2) lv (.long v :: st) KD M := by
  obtain ⟨p, l, e, R, s, m, args, below, meth, c, D, an, b, n0, s0, zf⟩ := x
  obtain ⟨hx, hb, hml, hown, hts, hK, hlk, hr, hbs⟩ := X
  intro Q k2 ls H locs cs sl hl hP hz hS hc hs
  exact lv_lload hx hb hd (lv_at hl j hj) (k2 ls H locs cs sl hl hP hz hS hc hs)
theorem w_istore_n {x : Cxt} {cc : ByteArray} {nL : Nat} {own : String} {ret : Option FieldType} (X : Ok x cc nL own ret) {pc : Nat} {lv : List (Nat × Value)} {st : List Value} {KD : Kd} {M : Mm} {k : Fin 4} {i : Nat} {v : Int32} {lv' : List (Nat × Value)} (hd : decode cc pc = .ok (.istore_n k, 1)) (hi : (k : Nat) = i) (hn : i < nL) (hl2 : (i, Value.int v) :: lv.filter (fun q => !(q.1 == i) && !(q.1 + 1 == i && q.2.category == 2)) = lv') : StpZ x nL pc lv (Value.int v :: st) KD M (pc + 1) lv' st KD M := by
  obtain ⟨p, l, e, R, s, m, args, below, meth, c, D, an, b, n0, s0, zf⟩ := x
  obtain ⟨hx, hb, hml, hown, hts, hK, hlk, hr, hbs⟩ := X
  intro Q k2 ls H locs cs sl hl hP hz hS hc hs
  exact lv_istore_n hx hb hd hi hl hn hl2 (fun ls' hl' => k2 ls' H locs cs sl hl' hP hz hS hc hs)
theorem w_istore {x : Cxt} {cc : ByteArray} {nL : Nat} {own : String} {ret : Option FieldType} (X : Ok x cc nL own ret) {pc : Nat} {lv : List (Nat × Value)} {st : List Value} {KD : Kd} {M : Mm} {i : Nat} {v : Int32} {lv' : List (Nat × Value)} (hd : decode cc pc = .ok (.istore i, 2)) (hn : i < nL) (hl2 : (i, Value.int v) :: lv.filter (fun q => !(q.1 == i) && !(q.1 + 1 == i && q.2.category == 2)) = lv') : StpZ x nL pc lv (Value.int v :: st) KD M (pc + 2) lv' st KD M := by
  obtain ⟨p, l, e, R, s, m, args, below, meth, c, D, an, b, n0, s0, zf⟩ := x
  obtain ⟨hx, hb, hml, hown, hts, hK, hlk, hr, hbs⟩ := X
  intro Q k2 ls H locs cs sl hl hP hz hS hc hs
  exact lv_istore hx hb hd hl hn hl2 (fun ls' hl' => k2 ls' H locs cs sl hl' hP hz hS hc hs)
theorem w_astore_n {x : Cxt} {cc : ByteArray} {nL : Nat} {own : String} {ret : Option FieldType} (X : Ok x cc nL own ret) {pc : Nat} {lv : List (Nat × Value)} {st : List Value} {KD : Kd} {M : Mm} {k : Fin 4} {i : Nat} {v : Nat} {lv' : List (Nat × Value)} (hd : decode cc pc = .ok (.astore_n k, 1)) (hi : (k : Nat) = i) (hn : i < nL) (hl2 : (i, Value.ref v) :: lv.filter (fun q => !(q.1 == i) && !(q.1 + 1 == i && q.2.category == 2)) = lv') : StpZ x nL pc lv (Value.ref v :: st) KD M (pc + 1) lv' st KD M := by
  obtain ⟨p, l, e, R, s, m, args, below, meth, c, D, an, b, n0, s0, zf⟩ := x
  obtain ⟨hx, hb, hml, hown, hts, hK, hlk, hr, hbs⟩ := X
  intro Q k2 ls H locs cs sl hl hP hz hS hc hs
  exact lv_astore_n hx hb hd hi hl hn hl2 (fun ls' hl' => k2 ls' H locs cs sl hl' hP hz hS hc hs)
theorem w_astore {x : Cxt} {cc : ByteArray} {nL : Nat} {own : String} {ret : Option FieldType} (X : Ok x cc nL own ret) {pc : Nat} {lv : List (Nat × Value)} {st : List Value} {KD : Kd} {M : Mm} {i : Nat} {v : Nat} {lv' : List (Nat × Value)} (hd : decode cc pc = .ok (.astore i, 2)) (hn : i < nL) (hl2 : (i, Value.ref v) :: lv.filter (fun q => !(q.1 == i) && !(q.1 + 1 == i && q.2.category == 2)) = lv') : StpZ x nL pc lv (Value.ref v :: st) KD M (pc + 2) lv' st KD M := by
  obtain ⟨p, l, e, R, s, m, args, below, meth, c, D, an, b, n0, s0, zf⟩ := x
  obtain ⟨hx, hb, hml, hown, hts, hK, hlk, hr, hbs⟩ := X
  intro Q k2 ls H locs cs sl hl hP hz hS hc hs
  exact lv_astore hx hb hd hl hn hl2 (fun ls' hl' => k2 ls' H locs cs sl hl' hP hz hS hc hs)
theorem w_lstore_n {x : Cxt} {cc : ByteArray} {nL : Nat} {own : String} {ret : Option FieldType} (X : Ok x cc nL own ret) {pc : Nat} {lv : List (Nat × Value)} {st : List Value} {KD : Kd} {M : Mm} {k : Fin 4} {i : Nat} {v : Int64} {lv' : List (Nat × Value)} (hd : decode cc pc = .ok (.lstore_n k, 1)) (hi : (k : Nat) = i) (hn : i + 1 < nL) (hl2 : (i, Value.long v) :: lv.filter (fun q => !(q.1 == i) && (!(q.1 == i + 1) && !(q.1 + 1 == i && q.2.category == 2))) = lv') : StpZ x nL pc lv (Value.long v :: st) KD M (pc + 1) lv' st KD M := by
  obtain ⟨p, l, e, R, s, m, args, below, meth, c, D, an, b, n0, s0, zf⟩ := x
  obtain ⟨hx, hb, hml, hown, hts, hK, hlk, hr, hbs⟩ := X
  intro Q k2 ls H locs cs sl hl hP hz hS hc hs
  exact lv_lstore_n hx hb hd hi hl hn hl2 (fun ls' hl' => k2 ls' H locs cs sl hl' hP hz hS hc hs)
theorem w_lstore {x : Cxt} {cc : ByteArray} {nL : Nat} {own : String} {ret : Option FieldType} (X : Ok x cc nL own ret) {pc : Nat} {lv : List (Nat × Value)} {st : List Value} {KD : Kd} {M : Mm} {i : Nat} {v : Int64} {lv' : List (Nat × Value)} (hd : decode cc pc = .ok (.lstore i, 2)) (hn : i + 1 < nL) (hl2 : (i, Value.long v) :: lv.filter (fun q => !(q.1 == i) && (!(q.1 == i + 1) && !(q.1 + 1 == i && q.2.category == 2))) = lv') : StpZ x nL pc lv (Value.long v :: st) KD M (pc + 2) lv' st KD M := by
  obtain ⟨p, l, e, R, s, m, args, below, meth, c, D, an, b, n0, s0, zf⟩ := x
  obtain ⟨hx, hb, hml, hown, hts, hK, hlk, hr, hbs⟩ := X
  intro Q k2 ls H locs cs sl hl hP hz hS hc hs
  exact lv_lstore hx hb hd hl hn hl2 (fun ls' hl' => k2 ls' H locs cs sl hl' hP hz hS hc hs)
theorem w_iinc {x : Cxt} {cc : ByteArray} {nL : Nat} {own : String} {ret : Option FieldType} (X : Ok x cc nL own ret) {pc : Nat} {lv : List (Nat × Value)} {st : List Value} {KD : Kd} {M : Mm} {i : Nat} {n : Int} {a v : Int32} {lv' : List (Nat × Value)} (hd : decode cc pc = .ok (.iinc i n, 3)) (j : Nat) (hj : lv[j]? = some (i, .int a)) (hv : a + Int32.ofInt n = v) (hn : i < nL) (hl2 : (i, Value.int v) :: lv.filter (fun q => !(q.1 == i) && !(q.1 + 1 == i && q.2.category == 2)) = lv') : StpZ x nL pc lv st KD M (pc + 3) lv' st KD M := by
  obtain ⟨p, l, e, R, s, m, args, below, meth, c, D, an, b, n0, s0, zf⟩ := x
  obtain ⟨hx, hb, hml, hown, hts, hK, hlk, hr, hbs⟩ := X
  intro Q k2 ls H locs cs sl hl hP hz hS hc hs
  exact lv_iinc hx hb hd hl hj hv hn hl2 (fun ls' hl' => k2 ls' H locs cs sl hl' hP hz hS hc hs)
theorem w_iadd {x : Cxt} {cc : ByteArray} {nL : Nat} {own : String} {ret : Option FieldType} (X : Ok x cc nL own ret) {pc : Nat} {lv : List (Nat × Value)} {st : List Value} {KD : Kd} {M : Mm} {a d : Int32} (hd : decode cc pc = .ok (.iadd, 1)) : StpZ x nL pc lv (.int d :: .int a :: st) KD M (pc + 1) lv (.int (a + d) :: st) KD M := by
  obtain ⟨p, l, e, R, s, m, args, below, meth, c, D, an, b, n0, s0, zf⟩ := x
  obtain ⟨hx, hb, hml, hown, hts, hK, hlk, hr, hbs⟩ := X
  intro Q k ls H locs cs sl hl hP hz hS hc hs
  exact lv_iadd hx hb hd (k ls H locs cs sl hl hP hz hS hc hs)
theorem w_isub {x : Cxt} {cc : ByteArray} {nL : Nat} {own : String} {ret : Option FieldType} (X : Ok x cc nL own ret) {pc : Nat} {lv : List (Nat × Value)} {st : List Value} {KD : Kd} {M : Mm} {a d : Int32} (hd : decode cc pc = .ok (.isub, 1)) : StpZ x nL pc lv (.int d :: .int a :: st) KD M (pc + 1) lv (.int (a - d) :: st) KD M := by
  obtain ⟨p, l, e, R, s, m, args, below, meth, c, D, an, b, n0, s0, zf⟩ := x
  obtain ⟨hx, hb, hml, hown, hts, hK, hlk, hr, hbs⟩ := X
  intro Q k ls H locs cs sl hl hP hz hS hc hs
  exact lv_isub hx hb hd (k ls H locs cs sl hl hP hz hS hc hs)
theorem w_imul {x : Cxt} {cc : ByteArray} {nL : Nat} {own : String} {ret : Option FieldType} (X : Ok x cc nL own ret) {pc : Nat} {lv : List (Nat × Value)} {st : List Value} {KD : Kd} {M : Mm} {a d : Int32} (hd : decode cc pc = .ok (.imul, 1)) : StpZ x nL pc lv (.int d :: .int a :: st) KD M (pc + 1) lv (.int (a * d) :: st) KD M := by
  obtain ⟨p, l, e, R, s, m, args, below, meth, c, D, an, b, n0, s0, zf⟩ := x
  obtain ⟨hx, hb, hml, hown, hts, hK, hlk, hr, hbs⟩ := X
  intro Q k ls H locs cs sl hl hP hz hS hc hs
  exact lv_imul hx hb hd (k ls H locs cs sl hl hP hz hS hc hs)
theorem w_iand {x : Cxt} {cc : ByteArray} {nL : Nat} {own : String} {ret : Option FieldType} (X : Ok x cc nL own ret) {pc : Nat} {lv : List (Nat × Value)} {st : List Value} {KD : Kd} {M : Mm} {a d : Int32} (hd : decode cc pc = .ok (.iand, 1)) : StpZ x nL pc lv (.int d :: .int a :: st) KD M (pc + 1) lv (.int (a &&& d) :: st) KD M := by
  obtain ⟨p, l, e, R, s, m, args, below, meth, c, D, an, b, n0, s0, zf⟩ := x
  obtain ⟨hx, hb, hml, hown, hts, hK, hlk, hr, hbs⟩ := X
  intro Q k ls H locs cs sl hl hP hz hS hc hs
  exact lv_iand hx hb hd (k ls H locs cs sl hl hP hz hS hc hs)
theorem w_ior {x : Cxt} {cc : ByteArray} {nL : Nat} {own : String} {ret : Option FieldType} (X : Ok x cc nL own ret) {pc : Nat} {lv : List (Nat × Value)} {st : List Value} {KD : Kd} {M : Mm} {a d : Int32} (hd : decode cc pc = .ok (.ior, 1)) : StpZ x nL pc lv (.int d :: .int a :: st) KD M (pc + 1) lv (.int (a ||| d) :: st) KD M := by
  obtain ⟨p, l, e, R, s, m, args, below, meth, c, D, an, b, n0, s0, zf⟩ := x
  obtain ⟨hx, hb, hml, hown, hts, hK, hlk, hr, hbs⟩ := X
  intro Q k ls H locs cs sl hl hP hz hS hc hs
  exact lv_ior hx hb hd (k ls H locs cs sl hl hP hz hS hc hs)
theorem w_ixor {x : Cxt} {cc : ByteArray} {nL : Nat} {own : String} {ret : Option FieldType} (X : Ok x cc nL own ret) {pc : Nat} {lv : List (Nat × Value)} {st : List Value} {KD : Kd} {M : Mm} {a d : Int32} (hd : decode cc pc = .ok (.ixor, 1)) : StpZ x nL pc lv (.int d :: .int a :: st) KD M (pc + 1) lv (.int (a ^^^ d) :: st) KD M := by
  obtain ⟨p, l, e, R, s, m, args, below, meth, c, D, an, b, n0, s0, zf⟩ := x
  obtain ⟨hx, hb, hml, hown, hts, hK, hlk, hr, hbs⟩ := X
  intro Q k ls H locs cs sl hl hP hz hS hc hs
  exact lv_ixor hx hb hd (k ls H locs cs sl hl hP hz hS hc hs)
theorem w_ishl {x : Cxt} {cc : ByteArray} {nL : Nat} {own : String} {ret : Option FieldType} (X : Ok x cc nL own ret) {pc : Nat} {lv : List (Nat × Value)} {st : List Value} {KD : Kd} {M : Mm} {a d : Int32} (hd : decode cc pc = .ok (.ishl, 1)) : StpZ x nL pc lv (.int d :: .int a :: st) KD M (pc + 1) lv (.int (sl a d) :: st) KD M := by
  obtain ⟨p, l, e, R, s, m, args, below, meth, c, D, an, b, n0, s0, zf⟩ := x
  obtain ⟨hx, hb, hml, hown, hts, hK, hlk, hr, hbs⟩ := X
  intro Q k ls H locs cs sl hl hP hz hS hc hs
  exact lv_ishl hx hb hd (k ls H locs cs sl hl hP hz hS hc hs)
theorem w_ishr {x : Cxt} {cc : ByteArray} {nL : Nat} {own : String} {ret : Option FieldType} (X : Ok x cc nL own ret) {pc : Nat} {lv : List (Nat × Value)} {st : List Value} {KD : Kd} {M : Mm} {a d : Int32} (hd : decode cc pc = .ok (.ishr, 1)) : StpZ x nL pc lv (.int d :: .int a :: st) KD M (pc + 1) lv (.int (sr a d) :: st) KD M := by
  obtain ⟨p, l, e, R, s, m, args, below, meth, c, D, an, b, n0, s0, zf⟩ := x
  obtain ⟨hx, hb, hml, hown, hts, hK, hlk, hr, hbs⟩ := X
  intro Q k ls H locs cs sl hl hP hz hS hc hs
  exact lv_ishr hx hb hd (k ls H locs cs sl hl hP hz hS hc hs)
theorem w_iushr {x : Cxt} {cc : ByteArray} {nL : Nat} {own : String} {ret : Option FieldType} (X : Ok x cc nL own ret) {pc : Nat} {lv : List (Nat × Value)} {st : List Value} {KD : Kd} {M : Mm} {a d : Int32} (hd : decode cc pc = .ok (.iushr, 1)) : StpZ x nL pc lv (.int d :: .int a :: st) KD M (pc + 1) lv (.int (us a d) :: st) KD M := by
  obtain ⟨p, l, e, R, s, m, args, below, meth, c, D, an, b, n0, s0, zf⟩ := x
  obtain ⟨hx, hb, hml, hown, hts, hK, hlk, hr, hbs⟩ := X
  intro Q k ls H locs cs sl hl hP hz hS hc hs
  exact lv_iushr hx hb hd rfl (k ls H locs cs sl hl hP hz hS hc hs)
theorem w_ineg {x : Cxt} {cc : ByteArray} {nL : Nat} {own : String} {ret : Option FieldType} (X : Ok x cc nL own ret) {pc : Nat} {lv : List (Nat × Value)} {st : List Value} {KD : Kd} {M : Mm} {a : Int32} (hd : decode cc pc = .ok (.ineg, 1)) : StpZ x nL pc lv (.int a :: st) KD M (pc + 1) lv (.int (-a) :: st) KD M := by
  obtain ⟨p, l, e, R, s, m, args, below, meth, c, D, an, b, n0, s0, zf⟩ := x
  obtain ⟨hx, hb, hml, hown, hts, hK, hlk, hr, hbs⟩ := X
  intro Q k ls H locs cs sl hl hP hz hS hc hs
  exact lv_ineg hx hb hd (k ls H locs cs sl hl hP hz hS hc hs)
theorem w_idiv {x : Cxt} {cc : ByteArray} {nL : Nat} {own : String} {ret : Option FieldType} (X : Ok x cc nL own ret) {pc : Nat} {lv : List (Nat × Value)} {st : List Value} {KD : Kd} {M : Mm} {a d : Int32} (hd : decode cc pc = .ok (.idiv, 1)) (hne : ¬ d = 0) : StpZ x nL pc lv (.int d :: .int a :: st) KD M (pc + 1) lv (.int (a / d) :: st) KD M := by
  obtain ⟨p, l, e, R, s, m, args, below, meth, c, D, an, b, n0, s0, zf⟩ := x
  obtain ⟨hx, hb, hml, hown, hts, hK, hlk, hr, hbs⟩ := X
  intro Q k ls H locs cs sl hl hP hz hS hc hs
  exact lv_idiv hx hb hd hne (k ls H locs cs sl hl hP hz hS hc hs)
theorem w_irem {x : Cxt} {cc : ByteArray} {nL : Nat} {own : String} {ret : Option FieldType} (X : Ok x cc nL own ret) {pc : Nat} {lv : List (Nat × Value)} {st : List Value} {KD : Kd} {M : Mm} {a d : Int32} (hd : decode cc pc = .ok (.irem, 1)) (hne : ¬ d = 0) : StpZ x nL pc lv (.int d :: .int a :: st) KD M (pc + 1) lv (.int (rm a d) :: st) KD M := by
  obtain ⟨p, l, e, R, s, m, args, below, meth, c, D, an, b, n0, s0, zf⟩ := x
  obtain ⟨hx, hb, hml, hown, hts, hK, hlk, hr, hbs⟩ := X
  intro Q k ls H locs cs sl hl hP hz hS hc hs
  exact lv_irem hx hb hd hne (k ls H locs cs sl hl hP hz hS hc hs)
theorem w_ladd {x : Cxt} {cc : ByteArray} {nL : Nat} {own : String} {ret : Option FieldType} (X : Ok x cc nL own ret) {pc : Nat} {lv : List (Nat × Value)} {st : List Value} {KD : Kd} {M : Mm} {a d : Int64} (hd : decode cc pc = .ok (.ladd, 1)) : StpZ x nL pc lv (.long d :: .long a :: st) KD M (pc + 1) lv (.long (a + d) :: st) KD M := by
  obtain ⟨p, l, e, R, s, m, args, below, meth, c, D, an, b, n0, s0, zf⟩ := x
  obtain ⟨hx, hb, hml, hown, hts, hK, hlk, hr, hbs⟩ := X
  intro Q k ls H locs cs sl hl hP hz hS hc hs
  exact lv_ladd hx hb hd (k ls H locs cs sl hl hP hz hS hc hs)
theorem w_lmul {x : Cxt} {cc : ByteArray} {nL : Nat} {own : String} {ret : Option FieldType} (X : Ok x cc nL own ret) {pc : Nat} {lv : List (Nat × Value)} {st : List Value} {KD : Kd} {M : Mm} {a d : Int64} (hd : decode cc pc = .ok (.lmul, 1)) : StpZ x nL pc lv (.long d :: .long a :: st) KD M (pc + 1) lv (.long (a * d) :: st) KD M := by
  obtain ⟨p, l, e, R, s, m, args, below, meth, c, D, an, b, n0, s0, zf⟩ := x
  obtain ⟨hx, hb, hml, hown, hts, hK, hlk, hr, hbs⟩ := X
  intro Q k ls H locs cs sl hl hP hz hS hc hs
  exact lv_lmul hx hb hd (k ls H locs cs sl hl hP hz hS hc hs)
theorem w_land {x : Cxt} {cc : ByteArray} {nL : Nat} {own : String} {ret : Option FieldType} (X : Ok x cc nL own ret) {pc : Nat} {lv : List (Nat × Value)} {st : List Value} {KD : Kd} {M : Mm} {a d : Int64} (hd : decode cc pc = .ok (.land, 1)) : StpZ x nL pc lv (.long d :: .long a :: st) KD M (pc + 1) lv (.long (a &&& d) :: st) KD M := by
  obtain ⟨p, l, e, R, s, m, args, below, meth, c, D, an, b, n0, s0, zf⟩ := x
  obtain ⟨hx, hb, hml, hown, hts, hK, hlk, hr, hbs⟩ := X
  intro Q k ls H locs cs sl hl hP hz hS hc hs
  exact lv_land hx hb hd (k ls H locs cs sl hl hP hz hS hc hs)
theorem w_ldiv {x : Cxt} {cc : ByteArray} {nL : Nat} {own : String} {ret : Option FieldType} (X : Ok x cc nL own ret) {pc : Nat} {lv : List (Nat × Value)} {st : List Value} {KD : Kd} {M : Mm} {a d : Int64} (hd : decode cc pc = .ok (.ldiv, 1)) (hne : ¬ d = 0) : StpZ x nL pc lv (.long d :: .long a :: st) KD M (pc + 1) lv (.long (a / d) :: st) KD M := by
  obtain ⟨p, l, e, R, s, m, args, below, meth, c, D, an, b, n0, s0, zf⟩ := x
  obtain ⟨hx, hb, hml, hown, hts, hK, hlk, hr, hbs⟩ := X
  intro Q k ls H locs cs sl hl hP hz hS hc hs
  exact lv_ldiv hx hb hd hne (k ls H locs cs sl hl hP hz hS hc hs)
theorem w_lrem {x : Cxt} {cc : ByteArray} {nL : Nat} {own : String} {ret : Option FieldType} (X : Ok x cc nL own ret) {pc : Nat} {lv : List (Nat × Value)} {st : List Value} {KD : Kd} {M : Mm} {a d : Int64} (hd : decode cc pc = .ok (.lrem, 1)) (hne : ¬ d = 0) : StpZ x nL pc lv (.long d :: .long a :: st) KD M (pc + 1) lv (.long (rmL a d) :: st) KD M := by
  obtain ⟨p, l, e, R, s, m, args, below, meth, c, D, an, b, n0, s0, zf⟩ := x
  obtain ⟨hx, hb, hml, hown, hts, hK, hlk, hr, hbs⟩ := X
  intro Q k ls H locs cs sl hl hP hz hS hc hs
  exact lv_lrem hx hb hd hne (k ls H locs cs sl hl hP hz hS hc hs)
theorem w_i2l {x : Cxt} {cc : ByteArray} {nL : Nat} {own : String} {ret : Option FieldType} (X : Ok x cc nL own ret) {pc : Nat} {lv : List (Nat × Value)} {st : List Value} {KD : Kd} {M : Mm} {a : Int32} (hd : decode cc pc = .ok (.i2l, 1)) : StpZ x nL pc lv (.int a :: st) KD M (pc + 1) lv (.long a.toInt64 :: st) KD M := by
  obtain ⟨p, l, e, R, s, m, args, below, meth, c, D, an, b, n0, s0, zf⟩ := x
  obtain ⟨hx, hb, hml, hown, hts, hK, hlk, hr, hbs⟩ := X
  intro Q k ls H locs cs sl hl hP hz hS hc hs
  exact lv_i2l hx hb hd rfl (k ls H locs cs sl hl hP hz hS hc hs)
theorem w_l2i {x : Cxt} {cc : ByteArray} {nL : Nat} {own : String} {ret : Option FieldType} (X : Ok x cc nL own ret) {pc : Nat} {lv : List (Nat × Value)} {st : List Value} {KD : Kd} {M : Mm} {a : Int64} (hd : decode cc pc = .ok (.l2i, 1)) : StpZ x nL pc lv (.long a :: st) KD M (pc + 1) lv (.int a.toInt32 :: st) KD M := by
  obtain ⟨p, l, e, R, s, m, args, below, meth, c, D, an, b, n0, s0, zf⟩ := x
  obtain ⟨hx, hb, hml, hown, hts, hK, hlk, hr, hbs⟩ := X
  intro Q k ls H locs cs sl hl hP hz hS hc hs
  exact lv_l2i hx hb hd rfl (k ls H locs cs sl hl hP hz hS hc hs)
theorem w_dup {x : Cxt} {cc : ByteArray} {nL : Nat} {own : String} {ret : Option FieldType} (X : Ok x cc nL own ret) {pc : Nat} {lv : List (Nat × Value)} {st : List Value} {KD : Kd} {M : Mm} {va : Value} (hd : decode cc pc = .ok (.dup, 1)) (hva : va.category = 1) : StpZ x nL pc lv (va :: st) KD M (pc + 1) lv (va :: va :: st) KD M := by
  obtain ⟨p, l, e, R, s, m, args, below, meth, c, D, an, b, n0, s0, zf⟩ := x
  obtain ⟨hx, hb, hml, hown, hts, hK, hlk, hr, hbs⟩ := X
  intro Q k ls H locs cs sl hl hP hz hS hc hs
  exact lv_dup hx hb hd hva (k ls H locs cs sl hl hP hz hS hc hs)
theorem w_pop {x : Cxt} {cc : ByteArray} {nL : Nat} {own : String} {ret : Option FieldType} (X : Ok x cc nL own ret) {pc : Nat} {lv : List (Nat × Value)} {st : List Value} {KD : Kd} {M : Mm} {va : Value} (hd : decode cc pc = .ok (.pop, 1)) (hva : va.category = 1) : StpZ x nL pc lv (va :: st) KD M (pc + 1) lv (st) KD M := by
  obtain ⟨p, l, e, R, s, m, args, below, meth, c, D, an, b, n0, s0, zf⟩ := x
  obtain ⟨hx, hb, hml, hown, hts, hK, hlk, hr, hbs⟩ := X
  intro Q k ls H locs cs sl hl hP hz hS hc hs
  exact lv_pop hx hb hd hva (k ls H locs cs sl hl hP hz hS hc hs)
theorem w_dup_x1 {x : Cxt} {cc : ByteArray} {nL : Nat} {own : String} {ret : Option FieldType} (X : Ok x cc nL own ret) {pc : Nat} {lv : List (Nat × Value)} {st : List Value} {KD : Kd} {M : Mm} {va vb : Value} (hd : decode cc pc = .ok (.dup_x1, 1)) (hva : va.category = 1) (hvb : vb.category = 1) : StpZ x nL pc lv (va :: vb :: st) KD M (pc + 1) lv (va :: vb :: va :: st) KD M := by
  obtain ⟨p, l, e, R, s, m, args, below, meth, c, D, an, b, n0, s0, zf⟩ := x
  obtain ⟨hx, hb, hml, hown, hts, hK, hlk, hr, hbs⟩ := X
  intro Q k ls H locs cs sl hl hP hz hS hc hs
  exact lv_dup_x1 hx hb hd hva hvb (k ls H locs cs sl hl hP hz hS hc hs)
theorem w_dup2 {x : Cxt} {cc : ByteArray} {nL : Nat} {own : String} {ret : Option FieldType} (X : Ok x cc nL own ret) {pc : Nat} {lv : List (Nat × Value)} {st : List Value} {KD : Kd} {M : Mm} {va vb : Value} (hd : decode cc pc = .ok (.dup2, 1)) (hva : va.category = 1) (hvb : vb.category = 1) : StpZ x nL pc lv (va :: vb :: st) KD M (pc + 1) lv (va :: vb :: va :: vb :: st) KD M := by
  obtain ⟨p, l, e, R, s, m, args, below, meth, c, D, an, b, n0, s0, zf⟩ := x
  obtain ⟨hx, hb, hml, hown, hts, hK, hlk, hr, hbs⟩ := X
  intro Q k ls H locs cs sl hl hP hz hS hc hs
  exact lv_dup2_11 hx hb hd hva hvb (k ls H locs cs sl hl hP hz hS hc hs)
theorem w_dup_x2 {x : Cxt} {cc : ByteArray} {nL : Nat} {own : String} {ret : Option FieldType} (X : Ok x cc nL own ret) {pc : Nat} {lv : List (Nat × Value)} {st : List Value} {KD : Kd} {M : Mm} {va vb vd : Value} (hd : decode cc pc = .ok (.dup_x2, 1)) (hva : va.category = 1) (hvb : vb.category = 1) (hvd : vd.category = 1) : StpZ x nL pc lv (va :: vb :: vd :: st) KD M (pc + 1) lv (va :: vb :: vd :: va :: st) KD M := by
  obtain ⟨p, l, e, R, s, m, args, below, meth, c, D, an, b, n0, s0, zf⟩ := x
  obtain ⟨hx, hb, hml, hown, hts, hK, hlk, hr, hbs⟩ := X
  intro Q k ls H locs cs sl hl hP hz hS hc hs
  exact lv_dup_x2 hx hb hd hva hvb hvd (k ls H locs cs sl hl hP hz hS hc hs)
theorem w_goto {x : Cxt} {cc : ByteArray} {nL : Nat} {own : String} {ret : Option FieldType} (X : Ok x cc nL own ret) {pc : Nat} {lv : List (Nat × Value)} {st : List Value} {KD : Kd} {M : Mm} {off : Int} {tgt : Nat} (hd : decode cc pc = .ok (.goto off, 3)) (ht : (pc : Int) + off = (tgt : Int)) : StpZ x nL pc lv st KD M tgt lv st KD M := by
  obtain ⟨p, l, e, R, s, m, args, below, meth, c, D, an, b, n0, s0, zf⟩ := x
  obtain ⟨hx, hb, hml, hown, hts, hK, hlk, hr, hbs⟩ := X
  intro Q k ls H locs cs sl hl hP hz hS hc hs
  exact lv_goto hx hb hd ht (k ls H locs cs sl hl hP hz hS hc hs)
theorem w_ldc {x : Cxt} {cc : ByteArray} {nL : Nat} {own : String} {ret : Option FieldType} (X : Ok x cc nL own ret) {pc : Nat} {lv : List (Nat × Value)} {st : List Value} {KD : Kd} {M : Mm} {index : Nat} {v : Int32} (hd : decode cc pc = .ok (.ldc index, 2)) (hw : Cond.constant own index v ∈ tbG) : StpZ x nL pc lv st KD M (pc + 2) lv (.int v :: st) KD M := by
  obtain ⟨p, l, e, R, s, m, args, below, meth, c, D, an, b, n0, s0, zf⟩ := x
  obtain ⟨hx, hb, hml, hown, hts, hK, hlk, hr, hbs⟩ := X
  intro Q k ls H locs cs sl hl hP hz hS hc hs
  exact lv_ldc hx hb hown (hts _ hw) hd (k ls H locs cs sl hl hP hz hS hc hs)
theorem w_ldcw {x : Cxt} {cc : ByteArray} {nL : Nat} {own : String} {ret : Option FieldType} (X : Ok x cc nL own ret) {pc : Nat} {lv : List (Nat × Value)} {st : List Value} {KD : Kd} {M : Mm} {index : Nat} {v : Int32} (hd : decode cc pc = .ok (.ldc_w index, 3)) (hw : Cond.constant own index v ∈ tbG) : StpZ x nL pc lv st KD M (pc + 3) lv (.int v :: st) KD M := by
  obtain ⟨p, l, e, R, s, m, args, below, meth, c, D, an, b, n0, s0, zf⟩ := x
  obtain ⟨hx, hb, hml, hown, hts, hK, hlk, hr, hbs⟩ := X
  intro Q k ls H locs cs sl hl hP hz hS hc hs
  exact lv_ldcw hx hb hown (hts _ hw) hd (k ls H locs cs sl hl hP hz hS hc hs)
theorem w_ldc2 {x : Cxt} {cc : ByteArray} {nL : Nat} {own : String} {ret : Option FieldType} (X : Ok x cc nL own ret) {pc : Nat} {lv : List (Nat × Value)} {st : List Value} {KD : Kd} {M : Mm} {index : Nat} {v : Int64} (hd : decode cc pc = .ok (.ldc2_w index, 3)) (hw : Cond.constantLong own index v ∈ tbG) : StpZ x nL pc lv st KD M (pc + 3) lv (.long v :: st) KD M := by
  obtain ⟨p, l, e, R, s, m, args, below, meth, c, D, an, b, n0, s0, zf⟩ := x
  obtain ⟨hx, hb, hml, hown, hts, hK, hlk, hr, hbs⟩ := X
  intro Q k ls H locs cs sl hl hP hz hS hc hs
  exact lv_ldc2 hx hb hown (hts _ hw) hd (k ls H locs cs sl hl hP hz hS hc hs)
theorem w_if_eq {x : Cxt} {cc : ByteArray} {nL : Nat} {own : String} {ret : Option FieldType} (X : Ok x cc nL own ret) {pc : Nat} {lv : List (Nat × Value)} {st : List Value} {KD : Kd} {M : Mm} {a : Int32} {off : Int} {tgt : Nat} (hd : decode cc pc = .ok (.ifCond .eq off, 3)) (ht : (pc : Int) + off = (tgt : Int)) : BrcZ x nL pc lv (.int a :: st) KD M (a = 0) tgt (pc + 3) st := by
  obtain ⟨p, l, e, R, s, m, args, below, meth, c, D, an, b, n0, s0, zf⟩ := x
  obtain ⟨hx, hb, hml, hown, hts, hK, hlk, hr, hbs⟩ := X
  intro Q k1 k2 ls H locs cs sl hl hP hz hS hc hs
  exact lv_if_eq hx hb hd ht (fun h => k1 h ls H locs cs sl hl hP hz hS hc hs) (fun h => k2 h ls H locs cs sl hl hP hz hS hc hs)
theorem w_if_lt {x : Cxt} {cc : ByteArray} {nL : Nat} {own : String} {ret : Option FieldType} (X : Ok x cc nL own ret) {pc : Nat} {lv : List (Nat × Value)} {st : List Value} {KD : Kd} {M : Mm} {a : Int32} {off : Int} {tgt : Nat} (hd : decode cc pc = .ok (.ifCond .lt off, 3)) (ht : (pc : Int) + off = (tgt : Int)) : BrcZ x nL pc lv (.int a :: st) KD M (a < 0) tgt (pc + 3) st := by
  obtain ⟨p, l, e, R, s, m, args, below, meth, c, D, an, b, n0, s0, zf⟩ := x
  obtain ⟨hx, hb, hml, hown, hts, hK, hlk, hr, hbs⟩ := X
  intro Q k1 k2 ls H locs cs sl hl hP hz hS hc hs
  exact lv_if_lt hx hb hd ht (fun h => k1 h ls H locs cs sl hl hP hz hS hc hs) (fun h => k2 h ls H locs cs sl hl hP hz hS hc hs)
theorem w_if_ge {x : Cxt} {cc : ByteArray} {nL : Nat} {own : String} {ret : Option FieldType} (X : Ok x cc nL own ret) {pc : Nat} {lv : List (Nat × Value)} {st : List Value} {KD : Kd} {M : Mm} {a : Int32} {off : Int} {tgt : Nat} (hd : decode cc pc = .ok (.ifCond .ge off, 3)) (ht : (pc : Int) + off = (tgt : Int)) : BrcZ x nL pc lv (.int a :: st) KD M (0 ≤ a) tgt (pc + 3) st := by
  obtain ⟨p, l, e, R, s, m, args, below, meth, c, D, an, b, n0, s0, zf⟩ := x
  obtain ⟨hx, hb, hml, hown, hts, hK, hlk, hr, hbs⟩ := X
  intro Q k1 k2 ls H locs cs sl hl hP hz hS hc hs
  exact lv_if_ge hx hb hd ht (fun h => k1 h ls H locs cs sl hl hP hz hS hc hs) (fun h => k2 h ls H locs cs sl hl hP hz hS hc hs)
theorem w_if_gt {x : Cxt} {cc : ByteArray} {nL : Nat} {own : String} {ret : Option FieldType} (X : Ok x cc nL own ret) {pc : Nat} {lv : List (Nat × Value)} {st : List Value} {KD : Kd} {M : Mm} {a : Int32} {off : Int} {tgt : Nat} (hd : decode cc pc = .ok (.ifCond .gt off, 3)) (ht : (pc : Int) + off = (tgt : Int)) : BrcZ x nL pc lv (.int a :: st) KD M (0 < a) tgt (pc + 3) st := by
  obtain ⟨p, l, e, R, s, m, args, below, meth, c, D, an, b, n0, s0, zf⟩ := x
  obtain ⟨hx, hb, hml, hown, hts, hK, hlk, hr, hbs⟩ := X
  intro Q k1 k2 ls H locs cs sl hl hP hz hS hc hs
  exact lv_if_gt hx hb hd ht (fun h => k1 h ls H locs cs sl hl hP hz hS hc hs) (fun h => k2 h ls H locs cs sl hl hP hz hS hc hs)
theorem w_if_le {x : Cxt} {cc : ByteArray} {nL : Nat} {own : String} {ret : Option FieldType} (X : Ok x cc nL own ret) {pc : Nat} {lv : List (Nat × Value)} {st : List Value} {KD : Kd} {M : Mm} {a : Int32} {off : Int} {tgt : Nat} (hd : decode cc pc = .ok (.ifCond .le off, 3)) (ht : (pc : Int) + off = (tgt : Int)) : BrcZ x nL pc lv (.int a :: st) KD M (a ≤ 0) tgt (pc + 3) st := by
  obtain ⟨p, l, e, R, s, m, args, below, meth, c, D, an, b, n0, s0, zf⟩ := x
  obtain ⟨hx, hb, hml, hown, hts, hK, hlk, hr, hbs⟩ := X
  intro Q k1 k2 ls H locs cs sl hl hP hz hS hc hs
  exact lv_if_le hx hb hd ht (fun h => k1 h ls H locs cs sl hl hP hz hS hc hs) (fun h => k2 h ls H locs cs sl hl hP hz hS hc hs)
theorem w_icmp_eq {x : Cxt} {cc : ByteArray} {nL : Nat} {own : String} {ret : Option FieldType} (X : Ok x cc nL own ret) {pc : Nat} {lv : List (Nat × Value)} {st : List Value} {KD : Kd} {M : Mm} {a d : Int32} {off : Int} {tgt : Nat} (hd : decode cc pc = .ok (.if_icmp .eq off, 3)) (ht : (pc : Int) + off = (tgt : Int)) : BrcZ x nL pc lv (.int d :: .int a :: st) KD M (a = d) tgt (pc + 3) st := by
  obtain ⟨p, l, e, R, s, m, args, below, meth, c, D, an, b, n0, s0, zf⟩ := x
  obtain ⟨hx, hb, hml, hown, hts, hK, hlk, hr, hbs⟩ := X
  intro Q k1 k2 ls H locs cs sl hl hP hz hS hc hs
  exact lv_icmp_eq hx hb hd ht (fun h => k1 h ls H locs cs sl hl hP hz hS hc hs) (fun h => k2 h ls H locs cs sl hl hP hz hS hc hs)
theorem w_icmp_lt {x : Cxt} {cc : ByteArray} {nL : Nat} {own : String} {ret : Option FieldType} (X : Ok x cc nL own ret) {pc : Nat} {lv : List (Nat × Value)} {st : List Value} {KD : Kd} {M : Mm} {a d : Int32} {off : Int} {tgt : Nat} (hd : decode cc pc = .ok (.if_icmp .lt off, 3)) (ht : (pc : Int) + off = (tgt : Int)) : BrcZ x nL pc lv (.int d :: .int a :: st) KD M (a < d) tgt (pc + 3) st := by
  obtain ⟨p, l, e, R, s, m, args, below, meth, c, D, an, b, n0, s0, zf⟩ := x
  obtain ⟨hx, hb, hml, hown, hts, hK, hlk, hr, hbs⟩ := X
  intro Q k1 k2 ls H locs cs sl hl hP hz hS hc hs
  exact lv_icmp_lt hx hb hd ht (fun h => k1 h ls H locs cs sl hl hP hz hS hc hs) (fun h => k2 h ls H locs cs sl hl hP hz hS hc hs)
theorem w_icmp_ge {x : Cxt} {cc : ByteArray} {nL : Nat} {own : String} {ret : Option FieldType} (X : Ok x cc nL own ret) {pc : Nat} {lv : List (Nat × Value)} {st : List Value} {KD : Kd} {M : Mm} {a d : Int32} {off : Int} {tgt : Nat} (hd : decode cc pc = .ok (.if_icmp .ge off, 3)) (ht : (pc : Int) + off = (tgt : Int)) : BrcZ x nL pc lv (.int d :: .int a :: st) KD M (d ≤ a) tgt (pc + 3) st := by
  obtain ⟨p, l, e, R, s, m, args, below, meth, c, D, an, b, n0, s0, zf⟩ := x
  obtain ⟨hx, hb, hml, hown, hts, hK, hlk, hr, hbs⟩ := X
  intro Q k1 k2 ls H locs cs sl hl hP hz hS hc hs
  exact lv_icmp_ge hx hb hd ht (fun h => k1 h ls H locs cs sl hl hP hz hS hc hs) (fun h => k2 h ls H locs cs sl hl hP hz hS hc hs)
theorem w_icmp_gt {x : Cxt} {cc : ByteArray} {nL : Nat} {own : String} {ret : Option FieldType} (X : Ok x cc nL own ret) {pc : Nat} {lv : List (Nat × Value)} {st : List Value} {KD : Kd} {M : Mm} {a d : Int32} {off : Int} {tgt : Nat} (hd : decode cc pc = .ok (.if_icmp .gt off, 3)) (ht : (pc : Int) + off = (tgt : Int)) : BrcZ x nL pc lv (.int d :: .int a :: st) KD M (d < a) tgt (pc + 3) st := by
  obtain ⟨p, l, e, R, s, m, args, below, meth, c, D, an, b, n0, s0, zf⟩ := x
  obtain ⟨hx, hb, hml, hown, hts, hK, hlk, hr, hbs⟩ := X
  intro Q k1 k2 ls H locs cs sl hl hP hz hS hc hs
  exact lv_icmp_gt hx hb hd ht (fun h => k1 h ls H locs cs sl hl hP hz hS hc hs) (fun h => k2 h ls H locs cs sl hl hP hz hS hc hs)
theorem w_icmp_le {x : Cxt} {cc : ByteArray} {nL : Nat} {own : String} {ret : Option FieldType} (X : Ok x cc nL own ret) {pc : Nat} {lv : List (Nat × Value)} {st : List Value} {KD : Kd} {M : Mm} {a d : Int32} {off : Int} {tgt : Nat} (hd : decode cc pc = .ok (.if_icmp .le off, 3)) (ht : (pc : Int) + off = (tgt : Int)) : BrcZ x nL pc lv (.int d :: .int a :: st) KD M (a ≤ d) tgt (pc + 3) st := by
  obtain ⟨p, l, e, R, s, m, args, below, meth, c, D, an, b, n0, s0, zf⟩ := x
  obtain ⟨hx, hb, hml, hown, hts, hK, hlk, hr, hbs⟩ := X
  intro Q k1 k2 ls H locs cs sl hl hP hz hS hc hs
  exact lv_icmp_le hx hb hd ht (fun h => k1 h ls H locs cs sl hl hP hz hS hc hs) (fun h => k2 h ls H locs cs sl hl hP hz hS hc hs)
theorem w_if_ne {x : Cxt} {cc : ByteArray} {nL : Nat} {own : String} {ret : Option FieldType} (X : Ok x cc nL own ret) {pc : Nat} {lv : List (Nat × Value)} {st : List Value} {KD : Kd} {M : Mm} {a : Int32} {off : Int} {tgt : Nat} (hd : decode cc pc = .ok (.ifCond .ne off, 3)) (ht : (pc : Int) + off = (tgt : Int)) : BrcZ x nL pc lv (.int a :: st) KD M (a = 0) (pc + 3) tgt st := by
  obtain ⟨p, l, e, R, s, m, args, below, meth, c, D, an, b, n0, s0, zf⟩ := x
  obtain ⟨hx, hb, hml, hown, hts, hK, hlk, hr, hbs⟩ := X
  intro Q k1 k2 ls H locs cs sl hl hP hz hS hc hs
  exact lv_if_ne hx hb hd ht (fun h => k2 h ls H locs cs sl hl hP hz hS hc hs) (fun h => k1 h ls H locs cs sl hl hP hz hS hc hs)
theorem w_icmp_ne {x : Cxt} {cc : ByteArray} {nL : Nat} {own : String} {ret : Option FieldType} (X : Ok x cc nL own ret) {pc : Nat} {lv : List (Nat × Value)} {st : List Value} {KD : Kd} {M : Mm} {a d : Int32} {off : Int} {tgt : Nat} (hd : decode cc pc = .ok (.if_icmp .ne off, 3)) (ht : (pc : Int) + off = (tgt : Int)) : BrcZ x nL pc lv (.int d :: .int a :: st) KD M (a = d) (pc + 3) tgt st := by
  obtain ⟨p, l, e, R, s, m, args, below, meth, c, D, an, b, n0, s0, zf⟩ := x
  obtain ⟨hx, hb, hml, hown, hts, hK, hlk, hr, hbs⟩ := X
  intro Q k1 k2 ls H locs cs sl hl hP hz hS hc hs
  exact lv_icmp_ne hx hb hd ht (fun h => k2 h ls H locs cs sl hl hP hz hS hc hs) (fun h => k1 h ls H locs cs sl hl hP hz hS hc hs)
theorem ib_vp {i : Int32} {n : Nat} (h : ib i n) : vp_in i n := vp_in_iff.mpr h
theorem inT {C : String} {T : u_T} {N : Nat} (h : ∀ w ∈ u_ws C T N, w ∈ lw_tbl) (hg : (u_ws C T N).all goodWord = true) : ∀ w ∈ u_ws C T N, w ∈ tbG := fun w hw => tbG_in (h w hw) (List.all_eq_true.mp hg w hw)
theorem w_get {x : Cxt} {cc : ByteArray} {nL : Nat} {own : String} {ret : Option FieldType} (X : Ok x cc nL own ret) {pc : Nat} {lv : List (Nat × Value)} {st : List Value} {KD : Kd} {M : Mm} {o index : Nat} {kd : Nat × Nat} (hk : KD[o]? = some kd) (ci : Nat) (fs : Nat → (Nat → Int32) → List Value) (hc : ∀ an b f, cel an b kd o f = .inr (ci, fs b f)) {C : String} {T : u_T} {N : Nat} (hcl : clsL[ci]? = some (C, T, N)) (hin : ∀ w ∈ u_ws C T N, w ∈ tbG) (k : Nat) (hkN : k < N) (hw : Cond.fieldLink own index (T k).1 (T k).2.1 (T k).2.2.1 ∈ tbG) {v : Nat → (Nat → Int32) → Value} (hv : ∀ b f, (fs b f)[k]? = some (v b f)) (hd : decode cc pc = .ok (.getfield index, 3)) : StpZ x nL pc lv (.ref (xb x + o) :: st) KD M (pc + 3) lv (v (xb x) (M o) :: st) KD M := by
  obtain ⟨p, l, e, R, s, m, args, below, meth, c, D, an, b, n0, s0, zf⟩ := x
  obtain ⟨hx, hb, hml, hown, hts, hK, hlk, hr, hbs⟩ := X
  intro Q kk ls H locs cs sl hl hP hz hS hc2 hs
  exact va_get hx hb hts hin hown hK hP o ((wld_get hk).trans (by rw [hc]; rfl)) hcl k hkN (hts _ hw) (fun _ h => h) (hv b (M o)) hd (kk ls H locs cs sl hl hP hz hS hc2 hs)
theorem w_put {x : Cxt} {cc : ByteArray} {nL : Nat} {own : String} {ret : Option FieldType} (X : Ok x cc nL own ret) {pc : Nat} {lv : List (Nat × Value)} {st : List Value} {KD : Kd} {M : Mm} (Z : xz x = 0) {o index : Nat} {kd : Nat × Nat} (hk : KD[o]? = some kd) (ci : Nat) (fs : Nat → (Nat → Int32) → List Value) (hc : ∀ an b f, cel an b kd o f = .inr (ci, fs b f)) {C : String} {T : u_T} {N : Nat} (hcl : clsL[ci]? = some (C, T, N)) (hin : ∀ w ∈ u_ws C T N, w ∈ tbG) (tyT : Nat → FieldType) (hty : ∀ k, k < N → parseFieldDescriptor (T k).2.2.1 = some (tyT k)) (hnm : ∀ a, a < N → ∀ b, b < N → a ≠ b → (T a).2.1 ≠ (T b).2.1) (k : Nat) (hkN : k < N) (hw : Cond.fieldLink own index (T k).1 (T k).2.1 (T k).2.2.1 ∈ tbG) (hfin : (T k).2.2.2 = false) {y : Int32} {v : Nat → Value} (hset : ∀ b f, (fs b f).set k (v b) = fs b (upd f k y)) (hn : ∀ b, narrow (tyT k) (v b) = v b) (hfit : ∀ b, fits (tyT k) (v b) = true) (hlen : ∀ b f, k < (fs b f).length) (hd : decode cc pc = .ok (.putfield index, 3)) : StpZ x nL pc lv (v (xb x) :: .ref (xb x + o) :: st) KD M (pc + 3) lv st KD (st2 M o k y) := by
  obtain ⟨p, l, e, R, s, m, args, below, meth, c, D, an, b, n0, s0, zf⟩ := x
  obtain ⟨hx, hb, hml, hown, hts, hK, hlk, hr, hbs⟩ := X
  intro Q kk ls H locs cs sl hl hP hz hS hc2 hs
  refine va_put hx hb hts hin tyT hty hnm hown hK hP wld_D hS o ((wld_get hk).trans (by rw [hc]; rfl)) hcl k hkN (hts _ hw) (fun _ h => h) hfin (hty k hkN) (hn b) (hfit b) (hlen b (M o)) hd (fun H1 locs1 hP1 hD1 hS1 => ?_)
  have hP1 : va_P D clsL (wld an b KD (st2 M o k y)) H1 := by
    unfold st2
    rw [← wld_set (f := upd (M o) k y) hk (hc an b _), ← hset]
    exact hP1
  exact kk ls H1 locs1 cs sl hl hP1 (fun h => absurd (h.symm.trans Z) (by decide)) hS1 hc2 hs
theorem w_iald {x : Cxt} {cc : ByteArray} {nL : Nat} {own : String} {ret : Option FieldType} (X : Ok x cc nL own ret) {pc : Nat} {lv : List (Nat × Value)} {st : List Value} {KD : Kd} {M : Mm} {o n : Nat} (hk : KD[o]? = some (13, n)) {i : Int32} (hi : ib i n) (hd : decode cc pc = .ok (.iaload, 1)) : StpZ x nL pc lv (.int i :: .ref (xb x + o) :: st) KD M (pc + 1) lv (.int (M o (ix i)) :: st) KD M := by
  obtain ⟨p, l, e, R, s, m, args, below, meth, c, D, an, b, n0, s0, zf⟩ := x
  obtain ⟨hx, hb, hml, hown, hts, hK, hlk, hr, hbs⟩ := X
  intro Q kk ls H locs cs sl hl hP hz hS hc2 hs
  exact va_iald hx hb hK hP o 0 (wld_get hk) rfl (ib_vp hi) hd (kk ls H locs cs sl hl hP hz hS hc2 hs)
theorem w_zald {x : Cxt} {cc : ByteArray} {nL : Nat} {own : String} {ret : Option FieldType} (X : Ok x cc nL own ret) {pc : Nat} {lv : List (Nat × Value)} {st : List Value} {KD : Kd} {M : Mm} {o n : Nat} (hk : KD[o]? = some (14, n)) {i : Int32} (hi : ib i n) (hd : decode cc pc = .ok (.baload, 1)) : StpZ x nL pc lv (.int i :: .ref (xb x + o) :: st) KD M (pc + 1) lv (.int (M o (ix i)) :: st) KD M := by
  obtain ⟨p, l, e, R, s, m, args, below, meth, c, D, an, b, n0, s0, zf⟩ := x
  obtain ⟨hx, hb, hml, hown, hts, hK, hlk, hr, hbs⟩ := X
  intro Q kk ls H locs cs sl hl hP hz hS hc2 hs
  exact va_zald hx hb hK hP o 1 (wld_get hk) rfl (ib_vp hi) hd (kk ls H locs cs sl hl hP hz hS hc2 hs)
theorem w_iast {x : Cxt} {cc : ByteArray} {nL : Nat} {own : String} {ret : Option FieldType} (X : Ok x cc nL own ret) {pc : Nat} {lv : List (Nat × Value)} {st : List Value} {KD : Kd} {M : Mm} (Z : xz x = 0) {o n : Nat} (hk : KD[o]? = some (13, n)) {i y : Int32} (hi : ib i n) (hd : decode cc pc = .ok (.iastore, 1)) : StpZ x nL pc lv (.int y :: .int i :: .ref (xb x + o) :: st) KD M (pc + 1) lv st KD (st2 M o (ix i) y) := by
  obtain ⟨p, l, e, R, s, m, args, below, meth, c, D, an, b, n0, s0, zf⟩ := x
  obtain ⟨hx, hb, hml, hown, hts, hK, hlk, hr, hbs⟩ := X
  intro Q kk ls H locs cs sl hl hP hz hS hc2 hs
  refine va_iast hx hb hK hP wld_D hS o 0 (wld_get hk) rfl (ib_vp hi) hd (fun H1 locs1 hP1 hD1 hS1 => ?_)
  have hP1 : va_P D clsL (wld an b KD (stA M o (upd (M o) (ix i) y))) H1 := by
    rw [← wld_set (f := upd (M o) (ix i) y) hk rfl]
    exact hP1
  exact kk ls H1 locs1 cs sl hl hP1 (fun h => absurd (h.symm.trans Z) (by decide)) hS1 hc2 hs
theorem w_zast {x : Cxt} {cc : ByteArray} {nL : Nat} {own : String} {ret : Option FieldType} (X : Ok x cc nL own ret) {pc : Nat} {lv : List (Nat × Value)} {st : List Value} {KD : Kd} {M : Mm} (Z : xz x = 0) {o n : Nat} (hk : KD[o]? = some (14, n)) {i y : Int32} (hi : ib i n) (hd : decode cc pc = .ok (.bastore, 1)) : StpZ x nL pc lv (.int y :: .int i :: .ref (xb x + o) :: st) KD M (pc + 1) lv st KD (st2 M o (ix i) (vp_nar .boolean y)) := by
  obtain ⟨p, l, e, R, s, m, args, below, meth, c, D, an, b, n0, s0, zf⟩ := x
  obtain ⟨hx, hb, hml, hown, hts, hK, hlk, hr, hbs⟩ := X
  intro Q kk ls H locs cs sl hl hP hz hS hc2 hs
  refine va_zast hx hb hK hP wld_D hS o 1 (wld_get hk) rfl (ib_vp hi) hd (fun H1 locs1 hP1 hD1 hS1 => ?_)
  have hP1 : va_P D clsL (wld an b KD (stA M o (upd (M o) (ix i) (vp_nar .boolean y)))) H1 := by
    rw [← wld_set (f := upd (M o) (ix i) (vp_nar .boolean y)) hk rfl]
    exact hP1
  exact kk ls H1 locs1 cs sl hl hP1 (fun h => absurd (h.symm.trans Z) (by decide)) hS1 hc2 hs
def Rm (x : Cxt) (d : Nat) (KDm : Kd) : Prop := match x with
  | (_p, _l, _e, R, _s, _m, _args, _below, _meth, _c, _D, _an, _b, n0, s0, _zf) => d ≤ R.frames ∧ 60 * d ≤ R.locals ∧ KDm.length ≤ R.cells + n0 ∧ ssum KDm ≤ R.slots + s0
def rmd (d mc ms : Nat) : Room := { frames := d, cells := mc, slots := ms, locals := 60 * d }
def Rel (D : va_G) (an : An) (b zf : Nat) (KD : Kd) (M : Mm) (U : State) : Prop := (zf = 1 → U.heap.size = b + KD.length) ∧ va_P D clsL (wld an b KD M) U.heap ∧ va_K D clsL (tyL an) U ∧ b ≤ U.heap.size ∧ Nx U
def RQ (D : va_G) (an : An) (b zf : Nat) (rv : Option Value) (KD : Kd) (M : Mm) : Array Value → State → Outcome → State → Prop := fun _ st o t => o = .returned rv ∧ (zf = 1 → t.heap.size = b + KD.length) ∧ va_P D clsL (wld an b KD M) t.heap ∧ va_F (fun q => b ≤ q) st t
def Ct (l : Launch) (D : va_G) (an : An) (b zf : Nat) (y : MethodName) (cc : ByteArray) (nL : Nat) (ret : Option FieldType) (d : Nat) (as : List Value) (KD : Kd) (M : Mm) (rv : Option Value) (KD' : Kd) (M' : Mm) : Prop := Met l y (.code y cc nL ret :: tbG) (rmd d (KD'.length - KD.length) (ssum KD' - ssum KD)) (va_Pc as (Rel D an b zf KD M)) (RQ D an b zf rv KD' M') (KD'.length - KD.length) (ssum KD' - ssum KD) (fun q => b ≤ q)
def CtX (x : Cxt) (y : MethodName) (cc : ByteArray) (nL : Nat) (ret : Option FieldType) (d : Nat) (as : List Value) (KD : Kd) (M : Mm) (rv : Option Value) (KD' : Kd) (M' : Mm) : Prop := Ct (xl x) (xD x) (xa x) (xb x) (xz x) y cc nL ret d as KD M rv KD' M'
def retQ (x : Cxt) (rv : Option Value) (KD : Kd) (M : Mm) : State → Prop := match x with
  | (_p, _l, _e, _R, s, _m, args, below, _meth, _c, D, an, b, n0, s0, zf) => MQ below (RQ D an b zf rv KD M) args s (KD.length - n0) (ssum KD - s0) (fun q => b ≤ q)
def Nst (x : Cxt) : Prop := match x with
  | (_p, _l, _e, _R, s, _m, _args, _below, _meth, _c, _D, _an, _b, _n0, _s0, _zf) => Nx s
def Nm0 (x : Cxt) (KD : Kd) : Prop := match x with
  | (_p, _l, _e, _R, _s, _m, _args, _below, _meth, _c, _D, _an, _b, n0, s0, _zf) => n0 = KD.length ∧ s0 = ssum KD
def Nin (x : Cxt) (nm : String) : Prop := match x with
  | (_p, _l, _e, _R, _s, _m, _args, _below, meth, _c, _D, _an, _b, _n0, _s0, _zf) => meth.name = nm
theorem Rel.blind {D : va_G} {an : An} {b zf : Nat} {KD : Kd} {M : Mm} {as : List Value} : FrameBlind (va_Pc as (Rel D an b zf KD M)) := by
  intro a U g mk q
  obtain ⟨q0, q1, q2, q3, q4, q5⟩ := q
  exact ⟨q0, q1, q2, va_K.moved (u := U) (U := U.calling g mk a) (Vm.Alike.refl U.vm) q3, q4, Nx_same (s := U) (U := U.calling g mk a) rfl (Vm.Alike.refl U.vm) q5⟩
theorem Ct.mk {l : Launch} {D : va_G} {an : An} {b zf : Nat} {y : MethodName} {cc : ByteArray} {nL : Nat} {ret : Option FieldType} {d : Nat} {as : List Value} {KD : Kd} {M : Mm} {rv : Option Value} {KD' : Kd} {M' : Mm} (hy : plainName y.cls = true) (hlen : (lg_sl as).length ≤ nL) (hKD : KD.length ≤ KD'.length ∧ ssum KD ≤ ssum KD')
    (body : ∀ x : Cxt, Ok x cc nL y.cls ret → Rm x d KD' → xl x = l → xD x = D → xa x = an → xb x = b → xz x = zf → Nst x → Nm0 x KD → Nin x y.name → WX x nL 0 (lv_args 0 as) [] KD M (retQ x rv KD' M')) : Ct l D an b zf y cc nL ret d as KD M rv KD' M' := by
  refine Met.ofW (cc := cc) (maxL := nL) (ret := ret) hy rfl ?_
  intro p e s m args below meth c s₁ B hml hv
  obtain ⟨rfl, hz, hP, hK, hbs, hN⟩ := hv
  have hts := atoms_spec (ws := Cond.code y cc nL ret :: tbG) B.pre
  have hown : s.vm.findClass y.cls = some m.cls := findClass_of_methodNamed B.named
  have hw := body (p, l, e, rmd d (KD'.length - KD.length) (ssum KD' - ssum KD), s, m, as.toArray, below, meth, c, D, an, b, KD.length, ssum KD, zf) ⟨B.exec, B.bytes, hml, hown, fun w hw => hts w (List.mem_cons_of_mem _ hw), hK, B.notSynchronized, B.returns, hbs⟩ ⟨Nat.le_refl _, Nat.le_refl _, by show _ ≤ (KD'.length - KD.length) + _; omega, by show _ ≤ (ssum KD' - ssum KD) + _; omega⟩ rfl rfl rfl rfl rfl hN ⟨rfl, rfl⟩ (name_of_methodNamed B.named B.method).1
  have hl := lv_entry as (n := nL) hlen
  rw [lg_entry_eq]
  exact hw _ s.heap [] 0 0 hl hP hz va_S.rf (Nat.zero_add _) (Nat.zero_add _)
theorem w_iret {x : Cxt} {cc : ByteArray} {nL : Nat} {own : String} (X : Ok x cc nL own (some .int)) {pc : Nat} {lv : List (Nat × Value)} {KD : Kd} {M : Mm} {v : Int32} (hd : decode cc pc = .ok (.ireturn, 1)) : WX x nL pc lv [.int v] KD M (retQ x (some (.int v)) KD M) := by
  obtain ⟨p, l, e, R, s, m, args, below, meth, c, D, an, b, n0, s0, zf⟩ := x
  obtain ⟨hx, hb, hml, hown, hts, hK, hlk, hr, hbs⟩ := X
  intro ls H locs cs sl hl hP hz hS hc hs
  have e1 : KD.length - n0 = cs := by omega
  have e2 : ssum KD - s0 = sl := by omega
  show W _ _ _ _ _ _ _ _ _ _ _ _ _ _ (MQ below (RQ D an b zf (some (.int v)) KD M) args s (KD.length - n0) (ssum KD - s0) (fun q => b ≤ q)) _
  rw [e1, e2]
  exact W.iret hx hb hr (fun t ht hW => ⟨rfl, by rw [ht]; exact hz, by rw [ht]; exact hP, hS.F ht⟩) hS.2.2 hd
theorem w_zret {x : Cxt} {cc : ByteArray} {nL : Nat} {own : String} (X : Ok x cc nL own (some .boolean)) {pc : Nat} {lv : List (Nat × Value)} {KD : Kd} {M : Mm} {v : Int32} (hv : zb v) (hd : decode cc pc = .ok (.ireturn, 1)) : WX x nL pc lv [.int v] KD M (retQ x (some (.int v)) KD M) := by
  obtain ⟨p, l, e, R, s, m, args, below, meth, c, D, an, b, n0, s0, zf⟩ := x
  obtain ⟨hx, hb, hml, hown, hts, hK, hlk, hr, hbs⟩ := X
  intro ls H locs cs sl hl hP hz hS hc hs
  have e1 : KD.length - n0 = cs := by omega
  have e2 : ssum KD - s0 = sl := by omega
  show W _ _ _ _ _ _ _ _ _ _ _ _ _ _ (MQ below (RQ D an b zf (some (.int v)) KD M) args s (KD.length - n0) (ssum KD - s0) (fun q => b ≤ q)) _
  rw [e1, e2]
  exact W.zret hx hb hr (by rcases hv with rfl | rfl <;> rfl) (fun t ht hW => ⟨rfl, by rw [ht]; exact hz, by rw [ht]; exact hP, hS.F ht⟩) hS.2.2 hd
theorem w_vret {x : Cxt} {cc : ByteArray} {nL : Nat} {own : String} (X : Ok x cc nL own none) {pc : Nat} {lv : List (Nat × Value)} {KD : Kd} {M : Mm} (hd : decode cc pc = .ok (.return_, 1)) : WX x nL pc lv [] KD M (retQ x none KD M) := by
  obtain ⟨p, l, e, R, s, m, args, below, meth, c, D, an, b, n0, s0, zf⟩ := x
  obtain ⟨hx, hb, hml, hown, hts, hK, hlk, hr, hbs⟩ := X
  intro ls H locs cs sl hl hP hz hS hc hs
  have e1 : KD.length - n0 = cs := by omega
  have e2 : ssum KD - s0 = sl := by omega
  show W _ _ _ _ _ _ _ _ _ _ _ _ _ _ (MQ below (RQ D an b zf none KD M) args s (KD.length - n0) (ssum KD - s0) (fun q => b ≤ q)) _
  rw [e1, e2]
  exact W.vret hx hb hr (fun t ht hW => ⟨rfl, by rw [ht]; exact hz, by rw [ht]; exact hP, hS.F ht⟩) hS.2.2 hd
theorem w_aret {x : Cxt} {cc : ByteArray} {nL : Nat} {own C : String} (X : Ok x cc nL own (some (.object C))) {pc : Nat} {lv : List (Nat × Value)} {KD : Kd} {M : Mm} {v : Nat} (hd : decode cc pc = .ok (.areturn, 1)) : WX x nL pc lv [.ref v] KD M (retQ x (some (.ref v)) KD M) := by
  obtain ⟨p, l, e, R, s, m, args, below, meth, c, D, an, b, n0, s0, zf⟩ := x
  obtain ⟨hx, hb, hml, hown, hts, hK, hlk, hr, hbs⟩ := X
  intro ls H locs cs sl hl hP hz hS hc hs
  have e1 : KD.length - n0 = cs := by omega
  have e2 : ssum KD - s0 = sl := by omega
  show W _ _ _ _ _ _ _ _ _ _ _ _ _ _ (MQ below (RQ D an b zf (some (.ref v)) KD M) args s (KD.length - n0) (ssum KD - s0) (fun q => b ≤ q)) _
  rw [e1, e2]
  exact W.aret hx hb hr (Or.inl ⟨_, rfl⟩) (Or.inr ⟨_, rfl⟩) (fun t ht hW => ⟨rfl, by rw [ht]; exact hz, by rw [ht]; exact hP, hS.F ht⟩) hS.2.2 hd
theorem runW {p : Program} {l : Launch} {e : Env} {R : Room} {s : State} {m : MethodId} {args : Array Value} {below : List Frame} {meth : Method} {c : Code} {D : va_G} {an : An} {b n0 s0 zf nL pc : Nat} {lv : List (Nat × Value)} {ls : Array Slot} {st0 rest : List Value} {KD KD' : Kd} {M' : Mm} {rv : Option Value} {H : Heap} {locs : List Loc} {cs sl : Nat} {Q : State → Prop} {a : Array Value}
    (hr : va_Run p l e R s m args below meth c H locs cs sl (KD'.length - KD.length) (ssum KD' - ssum KD) (F0 m pc ls st0) rest (RQ D an b zf rv KD' M' a) (fun q => b ≤ q)) (hl : lv_has ls nL lv) (hS : va_S (fun q => b ≤ q) s.heap H locs) (hc : cs + n0 = KD.length) (hs : sl + s0 = ssum KD) (hKD : KD.length ≤ KD'.length ∧ ssum KD ≤ ssum KD')
    (kk : WX (p, l, e, R, s, m, args, below, meth, c, D, an, b, n0, s0, zf) nL (pc + 3) lv (rv.toList ++ rest) KD' M' Q) : W p l e R s m args below meth c H locs cs sl Q (F0 m pc ls st0) := by
  intro T hT X
  obtain ⟨v, st₀, t, T', L, h0, X', hL, e1, e2, ⟨hv, hz', hP', hF1, hF2⟩, st⟩ := hr T hT X
  cases hv
  rw [h0] at hF1 hF2
  obtain ⟨t2, a1, b1⟩ := kk ls T'.heap (locs ++ L) (cs + (KD'.length - KD.length)) (sl + (ssum KD' - ssum KD)) hl (by rw [e1]; exact hP') (by rw [e1]; exact hz') ⟨Nat.le_trans hS.1 (by rw [e1]; exact hF1), fun q h1 h2 => by rw [e1, hF2 q (Nat.lt_of_lt_of_le h1 hS.1) h2]; exact hS.2.1 q h1 h2, fun q hq => by
      rcases List.mem_append.mp hq with h | h
      · exact hS.2.2 q h
      · exact hL q h⟩ (by omega) (by omega) T' rfl X'
  exact ⟨t2, st t2 a1, b1⟩
theorem tbG_goodIn {c : Cond} (hc : c ∈ tbG) : GoodIn tbG (c :: tbG) := fun w hw => (List.mem_cons.mp hw).elim (fun h => h ▸ ⟨hc, tbG_good hc⟩) (fun h => ⟨h, tbG_good h⟩)
theorem Rel.at {s U : State} {H : Heap} {D : va_G} {an : An} {b zf : Nat} {KD : Kd} {M : Mm} {locs : List Loc} (hz : zf = 1 → H.size = b + KD.length) (hP : va_P D clsL (wld an b KD M) H) (hK : va_K D clsL (tyL an) s) (hbs : b ≤ s.heap.size) (hS : va_S (fun q => b ≤ q) s.heap H locs) (hN : Nx s) (hU : U.heap = H) (hW : s.WarmedH U.vm) : Rel D an b zf KD M U :=
  ⟨by rw [hU]; exact hz, by rw [hU]; exact hP, va_K.moved hW.alike hK, by rw [hU]; exact Nat.le_trans hbs hS.1, Nx_warm hW hN⟩
theorem w_callV {x : Cxt} {cc : ByteArray} {nL : Nat} {own : String} {ret : Option FieldType} (X : Ok x cc nL own ret) {pc : Nat} {lv : List (Nat × Value)} {st : List Value} {KD : Kd} {M : Mm} {d n : Nat} {KDm : Kd} (hR : Rm x d KDm) (hN : Nst x) {y : MethodName} {cc' : ByteArray} {nL' : Nat} {ret' : Option FieldType} {d' o : Nat} {As rest : List Value} {rv : Option Value} {KD' : Kd} {M' : Mm} (hC : CtX x y cc' nL' ret' d' (.ref (xb x + o) :: As) KD M rv KD' M') (hKD : KD.length ≤ KD'.length ∧ ssum KD ≤ ssum KD') (hKm : KD'.length ≤ KDm.length ∧ ssum KD' ≤ ssum KDm)
    {kd : Nat × Nat} (hk : KD[o]? = some kd) {ci : Nat} {fs : Nat → (Nat → Int32) → List Value} (hc : ∀ an b f, cel an b kd o f = .inr (ci, fs b f)) {T : u_T} {N : Nat} (hcl : clsL[ci]? = some (y.cls, T, N)) {idx : Nat} (hw1 : Cond.methodLink own idx y ∈ tbG) (hw2 : Cond.instanceMethod y ∈ tbG) (hw3 : Cond.selects y.cls y y ∈ tbG) (hw4 : Cond.initialized y.cls ∈ tbG) (hw5 : Cond.code y cc' nL' ret' ∈ tbG)
    (hy : y.cls ≠ "java/lang/invoke/MethodHandle" ∧ y.cls ≠ "java/lang/invoke/VarHandle" ∧ (parseMethodDescriptor y.desc).map (fun d => d.parameters.length) = some n) (hAn : As.length = n) (hdd : d' + 1 ≤ d) (hnl : nL' ≤ 40) (hrm : (rest.map fun v => v.category).sum ≤ 8) (hd : decode cc pc = .ok (.invokevirtual idx, 3)) : StpZ x nL pc lv (As.reverse ++ .ref (xb x + o) :: rest) KD M (pc + 3) lv (rv.toList ++ rest) KD' M' := by
  obtain ⟨p, l, e, R, s, m, args, below, meth, c, D, an, b, n0, s0, zf⟩ := x
  obtain ⟨hx, hb, hml, hown, hts, hK, hlk, hr, hbs⟩ := X
  obtain ⟨r1, r2, r3, r4⟩ := hR
  intro Q kk ls H locs cs sl hl hP hz hS hc2 hs
  have hcb : CallW R s args own y.cls idx y cc' nL' ret' (Cond.code y cc' nL' ret' :: tbG) (rmd d' (KD'.length - KD.length) (ssum KD' - ssum KD)) (KD'.length - KD.length) (ssum KD' - ssum KD) n := ⟨callB_of n hts (tbG_goodIn hw5) rfl rfl rfl (hts _ hw4) (hts _ hw1) hy ⟨by show d' + 1 ≤ _; omega, by show 8 + (nL' + 11) + 60 * d' ≤ _; omega⟩, hts _ hw2, hts _ hw3⟩
  exact runW (va_runV (As := As) (rest := rest) ⟨hx, hb, hml, hown, hts⟩ hC hcb ⟨Rel.blind, va_recv hK hP hcl ((wld_get hk).trans (by rw [hc]; rfl)), fun U hU hW => ⟨rfl, Rel.at hz hP hK hbs hS hN hU hW⟩⟩ rfl hAn hl.1 rfl (lv_room hrm) hd ⟨by omega, by omega⟩) hl hS hc2 hs hKD kk
theorem w_callS {x : Cxt} {cc : ByteArray} {nL : Nat} {own : String} {ret : Option FieldType} (X : Ok x cc nL own ret) {pc : Nat} {lv : List (Nat × Value)} {st : List Value} {KD : Kd} {M : Mm} {d n : Nat} {KDm : Kd} (hR : Rm x d KDm) (hN : Nst x) {y : MethodName} {cc' : ByteArray} {nL' : Nat} {ret' : Option FieldType} {d' : Nat} {As rest : List Value} {rv : Option Value} {KD' : Kd} {M' : Mm} (hC : CtX x y cc' nL' ret' d' As KD M rv KD' M') (hKD : KD.length ≤ KD'.length ∧ ssum KD ≤ ssum KD') (hKm : KD'.length ≤ KDm.length ∧ ssum KD' ≤ ssum KDm)
    {idx : Nat} (hw1 : Cond.methodLink own idx y ∈ tbG) (hw2 : Cond.static y ∈ tbG) (hw4 : Cond.initialized y.cls ∈ tbG) (hw5 : Cond.code y cc' nL' ret' ∈ tbG)
    (hy : y.cls ≠ "java/lang/invoke/MethodHandle" ∧ y.cls ≠ "java/lang/invoke/VarHandle" ∧ (parseMethodDescriptor y.desc).map (fun d => d.parameters.length) = some n) (hAn : As.length = n) (hdd : d' + 1 ≤ d) (hnl : nL' ≤ 40) (hrm : (rest.map fun v => v.category).sum ≤ 8) (hd : decode cc pc = .ok (.invokestatic idx, 3)) : StpZ x nL pc lv (As.reverse ++ rest) KD M (pc + 3) lv (rv.toList ++ rest) KD' M' := by
  obtain ⟨p, l, e, R, s, m, args, below, meth, c, D, an, b, n0, s0, zf⟩ := x
  obtain ⟨hx, hb, hml, hown, hts, hK, hlk, hr, hbs⟩ := X
  obtain ⟨r1, r2, r3, r4⟩ := hR
  intro Q kk ls H locs cs sl hl hP hz hS hc2 hs
  have hcb : CallB R s args own idx y cc' nL' ret' (Cond.code y cc' nL' ret' :: tbG) (rmd d' (KD'.length - KD.length) (ssum KD' - ssum KD)) (KD'.length - KD.length) (ssum KD' - ssum KD) n := callB_of n hts (tbG_goodIn hw5) rfl rfl rfl (hts _ hw4) (hts _ hw1) hy ⟨by show d' + 1 ≤ _; omega, by show 8 + (nL' + 11) + 60 * d' ≤ _; omega⟩
  exact runW (va_runS (As := As) (rest := rest) ⟨hx, hb, hml, hown, hts⟩ hC ⟨hcb, hts _ hw2⟩ ⟨Rel.blind, fun U hU hW => ⟨rfl, Rel.at hz hP hK hbs hS hN hU hW⟩⟩ rfl hAn hl.1 rfl (lv_room hrm) hd ⟨by omega, by omega⟩) hl hS hc2 hs hKD kk
theorem w_mmax {x : Cxt} {cc : ByteArray} {nL : Nat} {own : String} {ret : Option FieldType} (X : Ok x cc nL own ret) {pc : Nat} {lv : List (Nat × Value)} {st : List Value} {KD : Kd} {M : Mm} {d : Nat} {KDm : Kd} (hR : Rm x d KDm) {idx : Nat} {a g : Int32} (hw1 : Cond.methodLink own idx Lib.Math.max.name ∈ tbG) (hw2 : Cond.static Lib.Math.max.name ∈ tbG) (hw3 : Cond.initialized "java/lang/Math" ∈ tbG) (hw4 : Cond.code Lib.Math.max.name Lib.Math.max.code 2 (some .int) ∈ tbG) (h1 : 1 ≤ d) (hrm : (st.map fun v => v.category).sum ≤ 8) (hKm : KD.length ≤ KDm.length ∧ ssum KD ≤ ssum KDm) (hd : decode cc pc = .ok (.invokestatic idx, 3)) : StpZ x nL pc lv (.int g :: .int a :: st) KD M (pc + 3) lv (.int (if a < g then g else a) :: st) KD M := by
  obtain ⟨p, l, e, R, s, m, args, below, meth, c, D, an, b, n0, s0, zf⟩ := x
  obtain ⟨hx, hb, hml, hown, hts, hK, hlk, hr, hbs⟩ := X
  obtain ⟨r1, r2, r3, r4⟩ := hR
  intro Q kk ls H locs cs sl hl hP hz hS hc2 hs
  exact va_mmax hx hb (hml.trans hl.1.symm) hown (hts _ hw1) (hts _ hw2) (hts _ hw3) (hts _ hw4) (by omega) (by omega) (by omega) (by omega) hd (kk ls H locs cs sl hl hP hz hS hc2 hs)
theorem w_mmin {x : Cxt} {cc : ByteArray} {nL : Nat} {own : String} {ret : Option FieldType} (X : Ok x cc nL own ret) {pc : Nat} {lv : List (Nat × Value)} {st : List Value} {KD : Kd} {M : Mm} {d : Nat} {KDm : Kd} (hR : Rm x d KDm) {idx : Nat} {a g : Int32} (hw1 : Cond.methodLink own idx Lib.Math.min.name ∈ tbG) (hw2 : Cond.static Lib.Math.min.name ∈ tbG) (hw3 : Cond.initialized "java/lang/Math" ∈ tbG) (hw4 : Cond.code Lib.Math.min.name Lib.Math.min.code 2 (some .int) ∈ tbG) (h1 : 1 ≤ d) (hrm : (st.map fun v => v.category).sum ≤ 8) (hKm : KD.length ≤ KDm.length ∧ ssum KD ≤ ssum KDm) (hd : decode cc pc = .ok (.invokestatic idx, 3)) : StpZ x nL pc lv (.int g :: .int a :: st) KD M (pc + 3) lv (.int (if g < a then g else a) :: st) KD M := by
  obtain ⟨p, l, e, R, s, m, args, below, meth, c, D, an, b, n0, s0, zf⟩ := x
  obtain ⟨hx, hb, hml, hown, hts, hK, hlk, hr, hbs⟩ := X
  obtain ⟨r1, r2, r3, r4⟩ := hR
  intro Q kk ls H locs cs sl hl hP hz hS hc2 hs
  exact va_mmin hx hb (hml.trans hl.1.symm) hown (hts _ hw1) (hts _ hw2) (hts _ hw3) (hts _ hw4) (by omega) (by omega) (by omega) (by omega) hd (kk ls H locs cs sl hl hP hz hS hc2 hs)
theorem w_copy {x : Cxt} {cc : ByteArray} {nL : Nat} {own : String} {ret : Option FieldType} (X : Ok x cc nL own ret) {pc : Nat} {lv : List (Nat × Value)} {st : List Value} {KD : Kd} {M : Mm} (Z : xz x = 0) {d : Nat} {KDm : Kd} (hR : Rm x d KDm) {idx o0 o1 m0 m1 : Nat} {sp dp n : Int32} (hk0 : KD[o0]? = some (13, m0)) (hk1 : KD[o1]? = some (13, m1)) (hsp : 0 ≤ sp.toInt ∧ sp.toInt + n.toInt ≤ m0) (hdp : 0 ≤ dp.toInt ∧ dp.toInt + n.toInt ≤ m1) (hn : 0 ≤ n.toInt) (hw1 : Cond.methodLink own idx arraycopyName ∈ tbG) (hw2 : Cond.native arraycopyName ∈ tbG) (hw3 : Cond.static arraycopyName ∈ tbG) (hw4 : Cond.initialized "java/lang/System" ∈ tbG) (h1 : 1 ≤ d) (hrm : (st.map fun v => v.category).sum ≤ 8) (hd : decode cc pc = .ok (.invokestatic idx, 3)) : StpZ x nL pc lv (.int n :: .int dp :: .ref (xb x + o1) :: .int sp :: .ref (xb x + o0) :: st) KD M (pc + 3) lv st KD (stA M o1 (va_cpy (M o0) (M o1) (ix sp) (ix dp) (ix n))) := by
  obtain ⟨p, l, e, R, s, m, args, below, meth, c, D, an, b, n0, s0, zf⟩ := x
  obtain ⟨hx, hb, hml, hown, hts, hK, hlk, hr, hbs⟩ := X
  obtain ⟨r1, r2, r3, r4⟩ := hR
  intro Q kk ls H locs cs sl hl hP hz hS hc2 hs
  have tn : ∀ z : Int32, 0 ≤ z.toInt → ¬ z < 0 ∧ (z.toNatClampNeg : Int) = z.toInt := fun z hz => ⟨fun h => by have := Int32.lt_iff_toInt_lt.mp h; simp at this; omega, by rw [Int32.toNatClampNeg]; exact Int.toNat_of_nonneg hz⟩
  obtain ⟨a1, a2⟩ := tn sp hsp.1
  obtain ⟨b1, b2⟩ := tn dp hdp.1
  obtain ⟨c1, c2⟩ := tn n hn
  have hnf : nativeFrameWords "java/lang/System" "arraycopy" 5 ≤ 30 := by decide +kernel
  refine va_copyi hx hb (hml.trans hl.1.symm) hown (hts _ hw1) (hts _ hw2) (hts _ hw3) (hts _ hw4) hK hP wld_D hS o0 o1 0 0 (wld_get hk0) (wld_get hk1) rfl rfl rfl a1 b1 c1 (by omega) (by omega) (fun i hi => rfl) (by omega) (by omega) hd (fun H1 locs1 hP1 hD1 hS1 => ?_)
  have hP1 : va_P D clsL (wld an b KD (stA M o1 (va_cpy (M o0) (M o1) (ix sp) (ix dp) (ix n)))) H1 := by
    rw [← wld_set (f := va_cpy (M o0) (M o1) (ix sp) (ix dp) (ix n)) hk1 rfl]
    exact hP1
  exact kk ls H1 locs1 cs sl hl hP1 (fun h => absurd (h.symm.trans Z) (by decide)) hS1 hc2 hs

