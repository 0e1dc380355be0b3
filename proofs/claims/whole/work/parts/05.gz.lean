def Gz {τ : Type} (x : Cxt) (nL pc : Nat) (lv : List (Nat × Value)) (st : List Value) (KD : Kd) (M : Mm) (o : Option τ) (Ψ : τ → (State → Prop) → Prop) : Prop := ∀ v, o = some v → ∀ Q, Ψ v Q → WX x nL pc lv st KD M Q
def Lt {α β : Type} (e : α) (k : α → β) : β := k e
def Gd {τ : Type} (c : Prop) [inst : Decidable c] (o : Option τ) : Option τ := if c then o else none
def Bd {α β : Type} (o : Option α) (k : α → Option β) : Option β := o.bind k
def BdS {α ρ : Type} (o : Option (ρ ⊕ α)) (k : α → Option ρ) : Option ρ := o.bind (fun v => match v with
  | .inl r => some r
  | .inr a => k a)
def Lp {σ τ : Type} (f : σ → Option (σ ⊕ τ)) : Nat → σ → Option τ
  | 0, _ => none
  | n + 1, s => (f s).bind (fun v => match v with
    | .inl s' => Lp f n s'
    | .inr t => some t)
def sumP {α β : Type} (Ψ1 : α → (State → Prop) → Prop) (Ψ2 : β → (State → Prop) → Prop) : α ⊕ β → (State → Prop) → Prop := fun v Q => match v with
  | .inl a => Ψ1 a Q
  | .inr b => Ψ2 b Q
def toJ {α : Type} (x : Cxt) (nL J : Nat) (lvf : α → List (Nat × Value)) (stf : α → List Value) (KD : Kd) (Mf : α → Mm) : α → (State → Prop) → Prop := fun a Q => WX x nL J (lvf a) (stf a) KD (Mf a) Q
def PsI2 (x : Cxt) (KD : Kd) : Int32 × Mm → (State → Prop) → Prop := fun v Q => Q = retQ x (some (.int v.1)) KD v.2
def PsI (x : Cxt) (KD : Kd) (M : Mm) : Int32 → (State → Prop) → Prop := fun v Q => Q = retQ x (some (.int v)) KD M
def PsM (x : Cxt) (KD : Kd) : Mm → (State → Prop) → Prop := fun v Q => Q = retQ x none KD v
def PsV (x : Cxt) (KD : Kd) (M : Mm) : Unit → (State → Prop) → Prop := fun _ Q => Q = retQ x none KD M
def PsR (x : Cxt) (KD : Kd) (M : Mm) : Nat → (State → Prop) → Prop := fun v Q => Q = retQ x (some (.ref (xb x + v))) KD M
theorem g1 {x : Cxt} {nL pc : Nat} {lv : List (Nat × Value)} {st : List Value} {KD : Kd} {M : Mm} {τ : Type} {o : Option τ} {Ψ : τ → (State → Prop) → Prop} {pc' : Nat} {lv' : List (Nat × Value)} {st' : List Value} {KD' : Kd} {M' : Mm} (h : StpZ x nL pc lv st KD M pc' lv' st' KD' M') (k : Gz x nL pc' lv' st' KD' M' o Ψ) : Gz x nL pc lv st KD M o Ψ := fun v hv Q hQ => h Q (k v hv Q hQ)
theorem g_none {x : Cxt} {nL pc : Nat} {lv : List (Nat × Value)} {st : List Value} {KD : Kd} {M : Mm} {τ : Type} {Ψ : τ → (State → Prop) → Prop} : Gz x nL pc lv st KD M none Ψ := fun v hv => by cases hv
theorem g_if {x : Cxt} {nL pc : Nat} {lv : List (Nat × Value)} {st : List Value} {KD : Kd} {M : Mm} {τ : Type} {A B : Option τ} {Ψ : τ → (State → Prop) → Prop} {c : Prop} {inst : Decidable c} {pcT pcF : Nat} {st' : List Value} (h : BrcZ x nL pc lv st KD M c pcT pcF st') (kt : c → Gz x nL pcT lv st' KD M A Ψ) (kf : ¬ c → Gz x nL pcF lv st' KD M B Ψ) : Gz x nL pc lv st KD M (@ite _ c inst A B) Ψ := by
  intro v hv Q hQ
  refine h Q (fun hc => ?_) (fun hc => ?_)
  · rw [if_pos hc] at hv
    exact kt hc v hv Q hQ
  · rw [if_neg hc] at hv
    exact kf hc v hv Q hQ
theorem g_ifS {x : Cxt} {nL pc : Nat} {lv : List (Nat × Value)} {st : List Value} {KD : Kd} {M : Mm} {τ : Type} {A B : τ} {Ψ : τ → (State → Prop) → Prop} {c : Prop} {inst : Decidable c} {pcT pcF : Nat} {st' : List Value} (h : BrcZ x nL pc lv st KD M c pcT pcF st') (kt : c → Gz x nL pcT lv st' KD M (some A) Ψ) (kf : ¬ c → Gz x nL pcF lv st' KD M (some B) Ψ) : Gz x nL pc lv st KD M (some (@ite _ c inst A B)) Ψ := by
  intro v hv Q hQ
  refine h Q (fun hc => ?_) (fun hc => ?_)
  · rw [if_pos hc] at hv
    exact kt hc v hv Q hQ
  · rw [if_neg hc] at hv
    exact kf hc v hv Q hQ
theorem g_by {x : Cxt} {nL pc : Nat} {lv : List (Nat × Value)} {st : List Value} {KD : Kd} {M : Mm} {τ : Type} {A B : Option τ} {Ψ : τ → (State → Prop) → Prop} {c : Prop} {inst : Decidable c} (kt : c → Gz x nL pc lv st KD M A Ψ) (kf : ¬ c → Gz x nL pc lv st KD M B Ψ) : Gz x nL pc lv st KD M (@ite _ c inst A B) Ψ := by
  intro v hv Q hQ
  by_cases hc : c
  · rw [if_pos hc] at hv
    exact kt hc v hv Q hQ
  · rw [if_neg hc] at hv
    exact kf hc v hv Q hQ
theorem g_byS {x : Cxt} {nL pc : Nat} {lv : List (Nat × Value)} {st : List Value} {KD : Kd} {M : Mm} {τ : Type} {A B : τ} {Ψ : τ → (State → Prop) → Prop} {c : Prop} {inst : Decidable c} (kt : c → Gz x nL pc lv st KD M (some A) Ψ) (kf : ¬ c → Gz x nL pc lv st KD M (some B) Ψ) : Gz x nL pc lv st KD M (some (@ite _ c inst A B)) Ψ := by
  intro v hv Q hQ
  by_cases hc : c
  · rw [if_pos hc] at hv
    exact kt hc v hv Q hQ
  · rw [if_neg hc] at hv
    exact kf hc v hv Q hQ
theorem g_gd {x : Cxt} {nL pc : Nat} {lv : List (Nat × Value)} {st : List Value} {KD : Kd} {M : Mm} {τ : Type} {A : Option τ} {Ψ : τ → (State → Prop) → Prop} {c : Prop} {inst : Decidable c} (k : c → Gz x nL pc lv st KD M A Ψ) : Gz x nL pc lv st KD M (@Gd _ c inst A) Ψ := by
  intro v hv Q hQ
  unfold Gd at hv
  by_cases hc : c
  · rw [if_pos hc] at hv
    exact k hc v hv Q hQ
  · rw [if_neg hc] at hv
    cases hv
theorem g_lt {x : Cxt} {nL pc : Nat} {lv : List (Nat × Value)} {st : List Value} {KD : Kd} {M : Mm} {α τ : Type} {e : α} {k : α → Option τ} {Ψ : τ → (State → Prop) → Prop} {pc' : Nat} (lvf : α → List (Nat × Value)) (stf : α → List Value) (Mf : α → Mm) (h : StpZ x nL pc lv st KD M pc' (lvf e) (stf e) KD (Mf e)) (kk : ∀ v, Gz x nL pc' (lvf v) (stf v) KD (Mf v) (k v) Ψ) : Gz x nL pc lv st KD M (Lt e k) Ψ := fun v hv Q hQ => h Q (kk e v hv Q hQ)
theorem g_ltJ {x : Cxt} {nL pc : Nat} {lv : List (Nat × Value)} {st : List Value} {KD : Kd} {M : Mm} {α τ : Type} {e : α} {k : α → Option τ} {Ψ : τ → (State → Prop) → Prop} {J : Nat} (lvf : α → List (Nat × Value)) (stf : α → List Value) (Mf : α → Mm) (h : Gz x nL pc lv st KD M (some e) (toJ x nL J lvf stf KD Mf)) (kk : ∀ v, Gz x nL J (lvf v) (stf v) KD (Mf v) (k v) Ψ) : Gz x nL pc lv st KD M (Lt e k) Ψ := fun v hv Q hQ => h e rfl Q (kk e v hv Q hQ)
theorem g_bd {x : Cxt} {nL pc : Nat} {lv : List (Nat × Value)} {st : List Value} {KD : Kd} {M : Mm} {α τ : Type} {o1 : Option α} {k : α → Option τ} {Ψ : τ → (State → Prop) → Prop} {pc' : Nat} (lvf : α → List (Nat × Value)) (stf : α → List Value) (Mf : α → Mm) (h : ∀ a, o1 = some a → StpZ x nL pc lv st KD M pc' (lvf a) (stf a) KD (Mf a)) (kk : ∀ a, Gz x nL pc' (lvf a) (stf a) KD (Mf a) (k a) Ψ) : Gz x nL pc lv st KD M (Bd o1 k) Ψ := by
  intro v hv Q hQ
  obtain ⟨a, ha, hk⟩ := Option.bind_eq_some_iff.mp hv
  exact h a ha Q (kk a v hk Q hQ)
theorem g_bdJ {x : Cxt} {nL pc : Nat} {lv : List (Nat × Value)} {st : List Value} {KD : Kd} {M : Mm} {α τ : Type} {o1 : Option α} {k : α → Option τ} {Ψ : τ → (State → Prop) → Prop} {J : Nat} (lvf : α → List (Nat × Value)) (stf : α → List Value) (Mf : α → Mm) (h : Gz x nL pc lv st KD M o1 (toJ x nL J lvf stf KD Mf)) (kk : ∀ a, Gz x nL J (lvf a) (stf a) KD (Mf a) (k a) Ψ) : Gz x nL pc lv st KD M (Bd o1 k) Ψ := by
  intro v hv Q hQ
  obtain ⟨a, ha, hk⟩ := Option.bind_eq_some_iff.mp hv
  exact h a ha Q (kk a v hk Q hQ)
theorem g_bdS {x : Cxt} {nL pc : Nat} {lv : List (Nat × Value)} {st : List Value} {KD : Kd} {M : Mm} {α ρ : Type} {o1 : Option (ρ ⊕ α)} {k : α → Option ρ} {Ψ : ρ → (State → Prop) → Prop} {J : Nat} (lvf : α → List (Nat × Value)) (stf : α → List Value) (Mf : α → Mm) (h : Gz x nL pc lv st KD M o1 (sumP Ψ (toJ x nL J lvf stf KD Mf))) (kk : ∀ a, Gz x nL J (lvf a) (stf a) KD (Mf a) (k a) Ψ) : Gz x nL pc lv st KD M (BdS o1 k) Ψ := by
  intro v hv Q hQ
  obtain ⟨a, ha, hk⟩ := Option.bind_eq_some_iff.mp hv
  cases a with
  | inl r =>
    have e : r = v := Option.some.inj (show some r = some v from hk)
    subst e
    exact h (.inl r) ha Q hQ
  | inr a => exact h (.inr a) ha Q (kk a v hk Q hQ)
theorem g_end {x : Cxt} {nL J : Nat} {lv : List (Nat × Value)} {st : List Value} {KD : Kd} {M : Mm} {α : Type} {a : α} {lvf : α → List (Nat × Value)} {stf : α → List Value} {Mf : α → Mm} (ks : List Nat) (hl : lv_pick lv ks = lvf a) (hs : st = stf a) (hM : M = Mf a) : Gz x nL J lv st KD M (some a) (toJ x nL J lvf stf KD Mf) := by
  intro v hv Q hQ
  cases hv
  obtain ⟨p, l, e, R, s, m, args, below, meth, c, D, an, b, n0, s0, zf⟩ := x
  intro ls H locs cs sl hl2 hP hz hS hc hs2
  rw [hs]
  rw [hM] at hP
  exact hQ ls H locs cs sl (hl ▸ lv_sub hl2 ks rfl) hP hz hS hc hs2
theorem g_pick {x : Cxt} {nL pc : Nat} {lv : List (Nat × Value)} {st : List Value} {KD : Kd} {M : Mm} {τ : Type} {o : Option τ} {Ψ : τ → (State → Prop) → Prop} {lv' : List (Nat × Value)} (ks : List Nat) (hl : lv_pick lv ks = lv') (k : Gz x nL pc lv' st KD M o Ψ) : Gz x nL pc lv st KD M o Ψ := by
  intro v hv Q hQ
  have h := k v hv Q hQ
  obtain ⟨p, l, e, R, s, m, args, below, meth, c, D, an, b, n0, s0, zf⟩ := x
  intro ls H locs cs sl hl2 hP hz hS hc hs2
  exact h ls H locs cs sl (hl ▸ lv_sub hl2 ks rfl) hP hz hS hc hs2
theorem g_inl {x : Cxt} {nL pc : Nat} {lv : List (Nat × Value)} {st : List Value} {KD : Kd} {M : Mm} {α β : Type} {a : α} {Ψ1 : α → (State → Prop) → Prop} {Ψ2 : β → (State → Prop) → Prop} (k : Gz x nL pc lv st KD M (some a) Ψ1) : Gz x nL pc lv st KD M (some (.inl a)) (sumP Ψ1 Ψ2) := by
  intro v hv Q hQ
  cases hv
  exact k a rfl Q hQ
theorem g_inr {x : Cxt} {nL pc : Nat} {lv : List (Nat × Value)} {st : List Value} {KD : Kd} {M : Mm} {α β : Type} {a : β} {Ψ1 : α → (State → Prop) → Prop} {Ψ2 : β → (State → Prop) → Prop} (k : Gz x nL pc lv st KD M (some a) Ψ2) : Gz x nL pc lv st KD M (some (.inr a)) (sumP Ψ1 Ψ2) := by
  intro v hv Q hQ
  cases hv
  exact k a rfl Q hQ
theorem g_lp {x : Cxt} {nL pc : Nat} {st : List Value} {KD : Kd} {σ τ : Type} {f : σ → Option (σ ⊕ τ)} {Ψ : τ → (State → Prop) → Prop} (lvf : σ → List (Nat × Value)) (Mf : σ → Mm) (h : ∀ s, Gz x nL pc (lvf s) st KD (Mf s) (f s) (sumP (toJ x nL pc lvf (fun _ => st) KD Mf) Ψ)) : ∀ (n : Nat) (s : σ), Gz x nL pc (lvf s) st KD (Mf s) (Lp f n s) Ψ := by
  intro n
  induction n with
  | zero => intro s v hv; cases hv
  | succ n ih =>
    intro s v hv Q hQ
    obtain ⟨a, ha, hk⟩ := Option.bind_eq_some_iff.mp hv
    cases a with
    | inl s' => exact h s (.inl s') ha Q (ih s' v hk Q hQ)
    | inr t =>
      have e : t = v := Option.some.inj (show some t = some v from hk)
      subst e
      exact h s (.inr t) ha Q hQ
theorem g_rI2 {x : Cxt} {cc : ByteArray} {nL : Nat} {own : String} (X : Ok x cc nL own (some .int)) {pc : Nat} {lv : List (Nat × Value)} {KD : Kd} {M : Mm} {v : Int32} (hd : decode cc pc = .ok (.ireturn, 1)) : Gz x nL pc lv [.int v] KD M (some (v, M)) (PsI2 x KD) := fun _ hv Q hQ => by cases hv; exact hQ ▸ w_iret X hd
theorem g_rI {x : Cxt} {cc : ByteArray} {nL : Nat} {own : String} (X : Ok x cc nL own (some .int)) {pc : Nat} {lv : List (Nat × Value)} {KD : Kd} {M : Mm} {v : Int32} (hd : decode cc pc = .ok (.ireturn, 1)) : Gz x nL pc lv [.int v] KD M (some v) (PsI x KD M) := fun _ hv Q hQ => by cases hv; exact hQ ▸ w_iret X hd
theorem g_rZ2 {x : Cxt} {cc : ByteArray} {nL : Nat} {own : String} (X : Ok x cc nL own (some .boolean)) {pc : Nat} {lv : List (Nat × Value)} {KD : Kd} {M : Mm} {v : Int32} (hz : zb v) (hd : decode cc pc = .ok (.ireturn, 1)) : Gz x nL pc lv [.int v] KD M (some (v, M)) (PsI2 x KD) := fun _ hv Q hQ => by cases hv; exact hQ ▸ w_zret X hz hd
theorem g_rZ {x : Cxt} {cc : ByteArray} {nL : Nat} {own : String} (X : Ok x cc nL own (some .boolean)) {pc : Nat} {lv : List (Nat × Value)} {KD : Kd} {M : Mm} {v : Int32} (hz : zb v) (hd : decode cc pc = .ok (.ireturn, 1)) : Gz x nL pc lv [.int v] KD M (some v) (PsI x KD M) := fun _ hv Q hQ => by cases hv; exact hQ ▸ w_zret X hz hd
theorem g_rM {x : Cxt} {cc : ByteArray} {nL : Nat} {own : String} (X : Ok x cc nL own none) {pc : Nat} {lv : List (Nat × Value)} {KD : Kd} {M : Mm} (hd : decode cc pc = .ok (.return_, 1)) : Gz x nL pc lv [] KD M (some M) (PsM x KD) := fun _ hv Q hQ => by cases hv; exact hQ ▸ w_vret X hd
theorem g_rV {x : Cxt} {cc : ByteArray} {nL : Nat} {own : String} (X : Ok x cc nL own none) {pc : Nat} {lv : List (Nat × Value)} {KD : Kd} {M : Mm} {u : Unit} (hd : decode cc pc = .ok (.return_, 1)) : Gz x nL pc lv [] KD M (some u) (PsV x KD M) := fun _ hv Q hQ => by cases hv; exact hQ ▸ w_vret X hd
theorem g_rR {x : Cxt} {cc : ByteArray} {nL : Nat} {own C : String} (X : Ok x cc nL own (some (.object C))) {pc : Nat} {lv : List (Nat × Value)} {KD : Kd} {M : Mm} {v : Nat} (hd : decode cc pc = .ok (.areturn, 1)) : Gz x nL pc lv [.ref (xb x + v)] KD M (some v) (PsR x KD M) := fun _ hv Q hQ => by cases hv; exact hQ ▸ w_aret X hd
theorem zb0 : zb 0 := Or.inl rfl
theorem zb1 : zb 1 := Or.inr rfl
theorem zbi {c : Prop} {inst : Decidable c} {a b : Int32} (ha : zb a) (hb : zb b) : zb (@ite _ c inst a b) := by
  by_cases h : c
  · rw [if_pos h]; exact ha
  · rw [if_neg h]; exact hb
theorem ib_lit {i : Int32} {n : Nat} (h : decide (ib i n) = true) : ib i n := of_decide_eq_true h
theorem CtX.mk {l : Launch} {D : va_G} {an : An} {b zf : Nat} {y : MethodName} {cc : ByteArray} {nL : Nat} {ret : Option FieldType} {d : Nat} {as : Nat → List Value} {KD : Kd} {M : Mm} {rv : Nat → Option Value} {KD' : Kd} {M' : Mm} (hy : plainName y.cls = true) (hlen : ∀ b, (lg_sl (as b)).length ≤ nL) (hKD : KD.length ≤ KD'.length ∧ ssum KD ≤ ssum KD')
    (body : ∀ x : Cxt, Ok x cc nL y.cls ret → Rm x d KD' → xz x = zf → Nst x → Nm0 x KD → Nin x y.name → WX x nL 0 (lv_args 0 (as (xb x))) [] KD M (retQ x (rv (xb x)) KD' M')) : Ct l D an b zf y cc nL ret d (as b) KD M (rv b) KD' M' :=
  Ct.mk hy (hlen b) hKD (fun x hO hR _ _ _ hb hz hN hm hi => by subst hb; exact body x hO hR hz hN hm hi)
