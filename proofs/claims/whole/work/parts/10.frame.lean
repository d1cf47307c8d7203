/-! THE FRAME: one world a side, whose int contents are a memory 'region, place'; contracts over the whole world; rows of the walk over it. -/
abbrev Mm : Type := Nat → Nat → Int32
def mset (M : Mm) (r i : Nat) (v : Int32) : Mm := fun a => if a = r then upd (M a) i v else M a
def atf (n : Nat) (f : Nat → Int32) (i : Int32) : Int32 := if i < 0 ∨ n ≤ i.toNatClampNeg then 0 else f i.toNatClampNeg
def putf (n : Nat) (M : Mm) (r : Nat) (i v : Int32) : Mm := if i < 0 ∨ n ≤ i.toNatClampNeg then M else mset M r i.toNatClampNeg v
-- the language of what a method does
def rdc {α : Type} (n : Nat) (f : Nat → Int32) (i : Int32) (k : Int32 → Option α) : Option α := if i < 0 ∨ n ≤ i.toNatClampNeg then none else k (f i.toNatClampNeg)
def inc {α : Type} (n : Nat) (i : Int32) (k : Option α) : Option α := if i < 0 ∨ n ≤ i.toNatClampNeg then none else k
def dvc {α : Type} (y : Int32) (k : Option α) : Option α := if y = 0 then none else k
def dvl {α : Type} (y : Int64) (k : Option α) : Option α := if y = 0 then none else k
def ltI {α : Type} (x : Int32) (k : Int32 → Option α) : Option α := k x
def ltL {α : Type} (x : Int64) (k : Int64 → Option α) : Option α := k x
def ltM {α : Type} (x : Mm) (k : Mm → Option α) : Option α := k x
def itr {σ ρ : Type} (f : σ → Option (σ ⊕ ρ)) : Nat → σ → Option ρ
  | 0, _ => none
  | n + 1, s => (f s).bind fun x => match x with
    | .inl s' => itr f n s'
    | .inr r => some r
theorem rdc_e {α : Type} {n : Nat} {f : Nat → Int32} {i : Int32} {k : Int32 → Option α} {r : α} (h : rdc n f i k = some r) : vp_in i n ∧ k (f i.toNatClampNeg) = some r := by
  unfold rdc at h
  by_cases c : i < 0 ∨ n ≤ i.toNatClampNeg
  · rw [if_pos c] at h; cases h
  · rw [if_neg c] at h; exact ⟨c, h⟩
theorem inc_e {α : Type} {n : Nat} {i : Int32} {k : Option α} {r : α} (h : inc n i k = some r) : vp_in i n ∧ k = some r := by
  unfold inc at h
  by_cases c : i < 0 ∨ n ≤ i.toNatClampNeg
  · rw [if_pos c] at h; cases h
  · rw [if_neg c] at h; exact ⟨c, h⟩
theorem dvc_e {α : Type} {y : Int32} {k : Option α} {r : α} (h : dvc y k = some r) : ¬ y = 0 ∧ k = some r := by
  unfold dvc at h
  by_cases c : y = 0
  · rw [if_pos c] at h; cases h
  · rw [if_neg c] at h; exact ⟨c, h⟩
theorem dvl_e {α : Type} {y : Int64} {k : Option α} {r : α} (h : dvl y k = some r) : ¬ y = 0 ∧ k = some r := by
  unfold dvl at h
  by_cases c : y = 0
  · rw [if_pos c] at h; cases h
  · rw [if_neg c] at h; exact ⟨c, h⟩
theorem ltI_e {α : Type} {x : Int32} {k : Int32 → Option α} {r : α} (h : ltI x k = some r) : ∃ y, y = x ∧ k y = some r := ⟨x, rfl, h⟩
theorem ltL_e {α : Type} {x : Int64} {k : Int64 → Option α} {r : α} (h : ltL x k = some r) : ∃ y, y = x ∧ k y = some r := ⟨x, rfl, h⟩
theorem ltM_e {α : Type} {x : Mm} {k : Mm → Option α} {r : α} (h : ltM x k = some r) : ∃ y, y = x ∧ k y = some r := ⟨x, rfl, h⟩
theorem bnd_e {α β : Type} {o : Option α} {k : α → Option β} {r : β} (h : o.bind k = some r) : ∃ x, o = some x ∧ k x = some r := Option.bind_eq_some_iff.mp h
theorem br_T {α : Type} {c : Prop} [Decidable c] {a b : Option α} {r : α} (h : (if c then a else b) = some r) (hc : c) : a = some r := (if_pos hc).symm.trans h
theorem br_F {α : Type} {c : Prop} [Decidable c] {a b : Option α} {r : α} (h : (if c then a else b) = some r) (hc : ¬ c) : b = some r := (if_neg hc).symm.trans h
/-- what is left of a loop behind one round -/
def itk {σ ρ : Type} (f : σ → Option (σ ⊕ ρ)) (n : Nat) (x : ρ) : σ ⊕ ρ → Prop
  | .inl s' => itr f n s' = some x
  | .inr r => r = x
theorem itr_0 {σ ρ : Type} {f : σ → Option (σ ⊕ ρ)} {s : σ} {x : ρ} (h : itr f 0 s = some x) : False := by cases h
theorem itr_s {σ ρ : Type} {f : σ → Option (σ ⊕ ρ)} {n : Nat} {s : σ} {x : ρ} (h : itr f (n + 1) s = some x) : ∃ y, f s = some y ∧ itk f n x y := by
  unfold itr at h
  obtain ⟨y, h1, h2⟩ := Option.bind_eq_some_iff.mp h
  refine ⟨y, h1, ?_⟩
  cases y with
  | inl s' => exact h2
  | inr r => exact Option.some.inj h2
abbrev remI (x y : Int32) : Int32 := x - x / y * y
abbrev remL (x y : Int64) : Int64 := x - x / y * y
abbrev ushI (x y : Int32) : Int32 := (x.toUInt32 >>> (y.toUInt32 &&& Int32.toUInt32 31)).toInt32
abbrev ushL (x : Int64) (y : Int32) : Int64 := (x.toUInt64 >>> (y.toInt64.toUInt64 &&& Int64.toUInt64 63)).toInt64
abbrev shlL (x : Int64) (y : Int32) : Int64 := x <<< (y.toInt64 &&& 63)
abbrev shrL (x : Int64) (y : Int32) : Int64 := x >>> (y.toInt64 &&& 63)
theorem rdc_v {α : Type} {n : Nat} {f : Nat → Int32} {i : Int32} {k : Int32 → Option α} {r : α} (h : rdc n f i k = some r) : ∃ v, v = f i.toNatClampNeg ∧ vp_in i n ∧ k v = some r := ⟨_, rfl, rdc_e h⟩
theorem itk_l {σ ρ : Type} {f : σ → Option (σ ⊕ ρ)} {n : Nat} {x : ρ} {s : σ} (h : itk f n x (.inl s)) : itr f n s = some x := h
theorem itk_r {σ ρ : Type} {f : σ → Option (σ ⊕ ρ)} {n : Nat} {x r : ρ} (h : itk f n x (.inr r)) : x = r := h.symm
-- the nest mates' links
def NWs (U : State) : Prop := (∀ q ∈ nestF, va_Nw (.fieldLinkNest q.1 q.2.1 q.2.2.1 q.2.2.2.1 q.2.2.2.2.1 q.2.2.2.2.2) U) ∧ (∀ q ∈ nestM, va_Nw (.methodLinkNest q.1 q.2.1 q.2.2.1 q.2.2.2) U)
theorem NWs.warm {s U : State} (hW : s.WarmedH U.vm) (h : NWs s) : NWs U := ⟨fun q hq => va_Nw.warmF hW (h.1 q hq), fun q hq => va_Nw.warmM hW (h.2 q hq)⟩
theorem NWs.same {u U : State} (e : u.vm = U.vm) (h : NWs u) : NWs U := ⟨fun q hq => va_Nw.same rfl e (h.1 q hq), fun q hq => va_Nw.same rfl e (h.2 q hq)⟩
-- words and room
def wsM (y : MethodName) (cc : ByteArray) (maxL : Nat) (ret : Option FieldType) : List Cond := .code y cc maxL ret :: wsL_law
def RM (k : Nat) : Room := { frames := k, cells := 0, slots := 0, locals := 64 * k }
def nrw (ret : Option FieldType) (v : Int32) : Prop := match ret with
  | some ty => narrow ty (.int v) = .int v
  | none => True
-- contracts
def StW (D : va_G) (cI : ClassId) (w : va_W) (sz : Nat) (U : State) : Prop := U.heap.size = sz ∧ va_P D vwCl w U.heap ∧ va_K D vwCl [(cI, .int)] U ∧ va_D (fun _ => True) w ∧ NWs U
def EnW (D : va_G) (cI : ClassId) (w : va_W) (A : Nat → Prop) (t : State) : Prop := va_P D vwCl w t.heap ∧ va_K D vwCl [(cI, .int)] t ∧ va_D A w
def QcI (D : va_G) (cI : ClassId) (w' : va_W) (A : Nat → Prop) (r : Int32) (ret : Option FieldType) : Array Value → State → Outcome → State → Prop := va_Qi (fun (r' : Int32) (_ : Unit) => r' = r ∧ nrw ret r') (fun _ t => EnW D cI w' A t) A
def QcV (D : va_G) (cI : ClassId) (w' : va_W) (A : Nat → Prop) : Array Value → State → Outcome → State → Prop := va_Qv (fun (_ : Unit) => True) (fun _ t => EnW D cI w' A t) A
def CtI (l : Launch) (y : MethodName) (cc : ByteArray) (maxL : Nat) (ret : Option FieldType) (k : Nat) (D : va_G) (cI : ClassId) (w w' : va_W) (av : List Value) (r : Int32) : Prop := ∀ sz : Nat, Met l y (wsM y cc maxL ret) (RM k) (va_Pc av (StW D cI w sz)) (QcI D cI w' (va_A w sz) r ret) 0 0 (va_A w sz)
def CtV (l : Launch) (y : MethodName) (cc : ByteArray) (maxL : Nat) (k : Nat) (D : va_G) (cI : ClassId) (w w' : va_W) (av : List Value) : Prop := ∀ sz : Nat, Met l y (wsM y cc maxL none) (RM k) (va_Pc av (StW D cI w sz)) (QcV D cI w' (va_A w sz)) 0 0 (va_A w sz)
/-- the heap in a walk: the world, apart, and what else has stayed -/
def Hw (D : va_G) (w : va_W) (A : Nat → Prop) (H0 H : Heap) (locs : List Loc) : Prop := va_P D vwCl w H ∧ va_D A w ∧ va_S A H0 H locs
/-- what a walk stands on -/
def Cx (p : Program) (s : State) (m : MethodId) (args : Array Value) (meth : Method) (c : Code) (own : String) (cc : ByteArray) (maxL : Nat) (ret : Option FieldType) (D : va_G) (cI : ClassId) (A : Nat → Prop) : Prop :=
  p.tables.exec = Jvm.exec ∧ c.code = cc ∧ meth.sig.returnType = ret ∧ c.maxLocals = maxL ∧ s.vm.findClass own = some m.cls ∧ meth.locks = false ∧ (∀ w ∈ wsL_law, w.before args s = true) ∧ va_K D vwCl [(cI, .int)] s ∧ NWs s ∧ ∀ q, s.heap.size ≤ q → A q
section XR
variable {p : Program} {l : Launch} {e : Env} {R : Room} {s : State} {m : MethodId} {args : Array Value} {below : List Frame} {meth : Method} {c : Code} {H : Heap} {locs : List Loc} {Q : State → Prop}
variable {cc : ByteArray} {pc : Nat} {ls : Array Slot} {rest st : List Value} {D : va_G} {cI : ClassId} {A : Nat → Prop} {a : Nat} {w w' : va_W} {own : String} {maxL : Nat} {ret : Option FieldType}
theorem x_iret {r v : Int32} {ty : FieldType} (C : Cx p s m args meth c own cc maxL (some ty) D cI A) (hw : Hw D w A s.heap H locs) (hdg : decode cc pc = .ok (.ireturn, 1)) (hn : nrw (some ty) v) (hv : v = r) (hww : w = w') : W p l e R s m args below meth c H locs 0 0 (MQ below (QcI D cI w' A r (some ty)) args s 0 0 A) (F0 m pc ls [.int v]) := by
  obtain ⟨hx, hb, hr, -, -, hlocks, -, hK, -, -⟩ := C
  subst hv; subst hww
  exact W.zret hx hb hr hn (fun t ht hW => ⟨⟨v, (), rfl, ⟨rfl, hn⟩, by rw [ht]; exact hw.1, va_K.moved hW.alike hK, hw.2.1⟩, hw.2.2.F ht⟩) hw.2.2.2.2 hdg hlocks
theorem x_vret (C : Cx p s m args meth c own cc maxL none D cI A) (hw : Hw D w A s.heap H locs) (hdg : decode cc pc = .ok (.return_, 1)) (hww : w = w') : W p l e R s m args below meth c H locs 0 0 (MQ below (QcV D cI w' A) args s 0 0 A) (F0 m pc ls []) := by
  obtain ⟨hx, hb, hr, -, -, hlocks, -, hK, -, -⟩ := C
  subst hww
  exact W.vret hx hb hr (fun t ht hW => ⟨⟨(), rfl, trivial, by rw [ht]; exact hw.1, va_K.moved hW.alike hK, hw.2.1⟩, hw.2.2.F ht⟩) hw.2.2.2.2 hdg hlocks
theorem x_get (C : Cx p s m args meth c own cc maxL ret D cI A) (hw : Hw D w A s.heap H locs) {ref Cn : String} {T : u_T} {n ci index : Nat} (hin : ∀ x ∈ u_ws Cn T n, x ∈ wsL_law) (hc : vwCl[ci]? = some (Cn, T, n)) (q0 k : Nat) (hk : k < n) (hlink : Cond.fieldLink own index ref (T k).2.1 (T k).2.2.1 ∈ wsL_law) (href : ref = (T k).1) {fs : List Value} (he : w[q0]? = some (a, .inr (ci, fs))) {v : Value} (hv : fs[k]? = some v) (hdg : decode cc pc = .ok (.getfield index, 3))
    (kk : W p l e R s m args below meth c H locs 0 0 Q (F0 m (pc + 3) ls (v :: rest))) : W p l e R s m args below meth c H locs 0 0 Q (F0 m pc ls (.ref a :: rest)) := by
  obtain ⟨hx, hb, -, -, hown, -, htB, hK, -, -⟩ := C
  subst href
  exact va_get (Ts := wsL_law) hx hb htB hin hown hK hw.1 q0 he hc k hk (htB _ hlink) (fun _ h9 => h9) hv hdg kk
theorem x_getN (C : Cx p s m args meth c own cc maxL ret D cI A) (hw : Hw D w A s.heap H locs) {ref Cn host : String} {T : u_T} {n ci index : Nat} (hin : ∀ x ∈ u_ws Cn T n, x ∈ wsL_law) (hc : vwCl[ci]? = some (Cn, T, n)) (q0 k : Nat) (hk : k < n) (hlink : (own, index, ref, (T k).2.1, (T k).2.2.1, host) ∈ nestF) (href : ref = (T k).1) {fs : List Value} (he : w[q0]? = some (a, .inr (ci, fs))) {v : Value} (hv : fs[k]? = some v) (hdg : decode cc pc = .ok (.getfield index, 3))
    (kk : W p l e R s m args below meth c H locs 0 0 Q (F0 m (pc + 3) ls (v :: rest))) : W p l e R s m args below meth c H locs 0 0 Q (F0 m pc ls (.ref a :: rest)) := by
  obtain ⟨hx, hb, -, -, hown, -, htB, hK, hN, -⟩ := C
  subst href
  exact va_getN (Ts := wsL_law) hx hb htB hin hown hK hw.1 q0 he hc k hk (va_Nw.use rfl (hN.1 _ hlink)) (fun _ h9 => h9) hv hdg kk
theorem x_put (C : Cx p s m args meth c own cc maxL ret D cI A) (hw : Hw D w A s.heap H locs) {ref Cn : String} {T : u_T} {n ci index : Nat} (hin : ∀ x ∈ u_ws Cn T n, x ∈ wsL_law) (hc : vwCl[ci]? = some (Cn, T, n)) {ty0 : Nat → FieldType} (hty : ∀ k, k < n → parseFieldDescriptor (T k).2.2.1 = some (ty0 k)) (hnm : ∀ a, a < n → ∀ b, b < n → a ≠ b → (T a).2.1 ≠ (T b).2.1) (q0 k : Nat) (hk : k < n) (hlink : Cond.fieldLink own index ref (T k).2.1 (T k).2.2.1 ∈ wsL_law) (href : ref = (T k).1) (hfin : (T k).2.2.2 = false) (hint : (T k).2.2.1 = "I") {fs : List Value} {x : Int32} (he : w[q0]? = some (a, .inr (ci, fs))) (hl : k < fs.length) (hset : w.set q0 (a, .inr (ci, fs.set k (.int x))) = w') (hdg : decode cc pc = .ok (.putfield index, 3))
    (kk : ∀ (H : Heap) (locs : List Loc), Hw D w' A s.heap H locs → W p l e R s m args below meth c H locs 0 0 Q (F0 m (pc + 3) ls rest)) : W p l e R s m args below meth c H locs 0 0 Q (F0 m pc ls (.int x :: .ref a :: rest)) := by
  obtain ⟨hx, hb, -, -, hown, -, htB, hK, -, -⟩ := C
  subst href
  subst hset
  exact va_put (Ts := wsL_law) (ty := .int) hx hb htB hin ty0 hty hnm hown hK hw.1 hw.2.1 hw.2.2 q0 he hc k hk (htB _ hlink) (fun _ h9 => h9) hfin (by rw [hint]; decide +kernel) rfl rfl hl hdg (fun H1 locs1 hP hD hS => kk H1 locs1 ⟨hP, hD, hS⟩)
theorem x_putN (C : Cx p s m args meth c own cc maxL ret D cI A) (hw : Hw D w A s.heap H locs) {ref Cn host : String} {T : u_T} {n ci index : Nat} (hin : ∀ x ∈ u_ws Cn T n, x ∈ wsL_law) (hc : vwCl[ci]? = some (Cn, T, n)) {ty0 : Nat → FieldType} (hty : ∀ k, k < n → parseFieldDescriptor (T k).2.2.1 = some (ty0 k)) (hnm : ∀ a, a < n → ∀ b, b < n → a ≠ b → (T a).2.1 ≠ (T b).2.1) (q0 k : Nat) (hk : k < n) (hlink : (own, index, ref, (T k).2.1, (T k).2.2.1, host) ∈ nestF) (href : ref = (T k).1) (hfin : (T k).2.2.2 = false) (hint : (T k).2.2.1 = "I") {fs : List Value} {x : Int32} (he : w[q0]? = some (a, .inr (ci, fs))) (hl : k < fs.length) (hset : w.set q0 (a, .inr (ci, fs.set k (.int x))) = w') (hdg : decode cc pc = .ok (.putfield index, 3))
    (kk : ∀ (H : Heap) (locs : List Loc), Hw D w' A s.heap H locs → W p l e R s m args below meth c H locs 0 0 Q (F0 m (pc + 3) ls rest)) : W p l e R s m args below meth c H locs 0 0 Q (F0 m pc ls (.int x :: .ref a :: rest)) := by
  obtain ⟨hx, hb, -, -, hown, -, htB, hK, hN, -⟩ := C
  subst href
  subst hset
  exact va_putN (Ts := wsL_law) (ty := .int) hx hb htB hin ty0 hty hnm hown hK hw.1 hw.2.1 hw.2.2 q0 he hc k hk (va_Nw.use rfl (hN.1 _ hlink)) (fun _ h9 => h9) hfin (by rw [hint]; decide +kernel) rfl rfl hl hdg (fun H1 locs1 hP hD hS => kk H1 locs1 ⟨hP, hD, hS⟩)
theorem x_iald (C : Cx p s m args meth c own cc maxL ret D cI A) (hw : Hw D w A s.heap H locs) (q0 : Nat) {n : Nat} {f : Nat → Int32} (he : w[q0]? = some (a, .inl (cI, n, .inl f))) {i : Int32} (hin : vp_in i n) (hdg : decode cc pc = .ok (.iaload, 1))
    (kk : W p l e R s m args below meth c H locs 0 0 Q (F0 m (pc + 1) ls (.int (f i.toNatClampNeg) :: rest))) : W p l e R s m args below meth c H locs 0 0 Q (F0 m pc ls (.int i :: .ref a :: rest)) :=
  va_iald C.1 C.2.1 C.2.2.2.2.2.2.2.1 hw.1 q0 0 he rfl hin hdg kk
theorem x_iast (C : Cx p s m args meth c own cc maxL ret D cI A) (hw : Hw D w A s.heap H locs) (q0 : Nat) {n : Nat} {f : Nat → Int32} (he : w[q0]? = some (a, .inl (cI, n, .inl f))) {i x : Int32} (hin : vp_in i n) (hset : w.set q0 (a, .inl (cI, n, .inl (upd f i.toNatClampNeg x))) = w') (hdg : decode cc pc = .ok (.iastore, 1))
    (kk : ∀ (H : Heap) (locs : List Loc), Hw D w' A s.heap H locs → W p l e R s m args below meth c H locs 0 0 Q (F0 m (pc + 1) ls rest)) : W p l e R s m args below meth c H locs 0 0 Q (F0 m pc ls (.int x :: .int i :: .ref a :: rest)) := by
  subst hset
  exact va_iast C.1 C.2.1 C.2.2.2.2.2.2.2.1 hw.1 hw.2.1 hw.2.2 q0 0 he rfl hin hdg (fun H1 locs1 hP hD hS => kk H1 locs1 ⟨hP, hD, hS⟩)
theorem x_alen (C : Cx p s m args meth c own cc maxL ret D cI A) (hw : Hw D w A s.heap H locs) (q0 : Nat) {n : Nat} {f : Nat → Int32} (he : w[q0]? = some (a, .inl (cI, n, .inl f))) (hdg : decode cc pc = .ok (.arraylength, 1))
    (kk : W p l e R s m args below meth c H locs 0 0 Q (F0 m (pc + 1) ls (.int (nI n) :: rest))) : W p l e R s m args below meth c H locs 0 0 Q (F0 m pc ls (.ref a :: rest)) :=
  va_alen C.1 C.2.1 C.2.2.2.2.2.2.2.1 hw.1 q0 0 he rfl rfl hdg kk
-- calls
theorem wsV_in {own : String} {idx : Nat} {Cn : String} {y : MethodName} {bytes : ByteArray} {mL : Nat} {rt : Option FieldType} (h1 : Cond.methodLink own idx y ∈ wsL_law) (h2 : Cond.instanceMethod y ∈ wsL_law) (h3 : Cond.selects Cn y y ∈ wsL_law) (h4 : Cond.initialized Cn ∈ wsL_law) (h5 : Cond.code y bytes mL rt ∈ wsL_law) : GoodIn wsL_law (wsV own idx Cn y (wsM y bytes mL rt)) := by
  intro x hx
  refine gBIG x ?_
  rcases List.mem_append.mp hx with hx | hx
  · simp only [List.mem_cons, List.not_mem_nil, or_false] at hx
    rcases hx with rfl | rfl | rfl | rfl <;> assumption
  · rcases List.mem_cons.mp hx with rfl | hx
    · exact h5
    · exact hx
theorem wsS_in {own : String} {idx : Nat} {y : MethodName} {bytes : ByteArray} {mL : Nat} {rt : Option FieldType} (h1 : Cond.methodLink own idx y ∈ wsL_law) (h2 : Cond.static y ∈ wsL_law) (h4 : Cond.initialized y.cls ∈ wsL_law) (h5 : Cond.code y bytes mL rt ∈ wsL_law) {s : State} {args : Array Value} {R : Room} {k n : Nat} (htB : ∀ w ∈ wsL_law, w.before args s = true) (hd : y.cls ≠ "java/lang/invoke/MethodHandle" ∧ y.cls ≠ "java/lang/invoke/VarHandle" ∧ (parseMethodDescriptor y.desc).map (fun d => d.parameters.length) = some n) (hR : (RM k).frames + 1 ≤ R.frames ∧ 8 + (mL + 11) + (RM k).locals ≤ R.locals) : CallB R s args own idx y bytes mL rt (wsM y bytes mL rt) (RM k) 0 0 n ∧ (Cond.static y).before args s = true :=
  ⟨callB_of n htB (ws := wsM y bytes mL rt) (Ts := wsL_law) (fun x hx => gBIG x ((List.mem_cons.mp hx).elim (fun q => q ▸ h5) id)) rfl rfl rfl (htB _ h4) (htB _ h1) hd hR, htB _ h2⟩
theorem RM_le {k K mL : Nat} (h : k + 1 ≤ K) (hm : mL ≤ 45) : (RM k).frames + 1 ≤ (RM K).frames ∧ 8 + (mL + 11) + (RM k).locals ≤ (RM K).locals := by
  refine ⟨h, ?_⟩
  show 8 + (mL + 11) + 64 * k ≤ 64 * K
  omega
theorem StW_calling {D : va_G} {cI : ClassId} {w : va_W} {sz : Nat} {av : List Value} : FrameBlind (va_Pc av (StW D cI w sz)) := fun a U g mk q => by
  obtain ⟨q0, q1, qP, qK, qD, qN⟩ := q
  exact ⟨q0, q1, qP, va_K.moved (u := U) (U := U.calling g mk a) (Vm.Alike.refl U.vm) qK, qD, NWs.same (u := U) (U := U.calling g mk a) rfl qN⟩
theorem StW_start (C : Cx p s m args meth c own cc maxL ret D cI A) (hw : Hw D w A s.heap H locs) (av : List Value) : ∀ U : State, U.heap = H → s.WarmedH U.vm → va_Pc av (StW D cI w H.size) av.toArray U := fun U hU hW =>
  ⟨rfl, by rw [hU], by rw [hU]; exact hw.1, va_K.moved hW.alike C.2.2.2.2.2.2.2.1, hw.2.1.weaken (fun _ _ _ _ => trivial), C.2.2.2.2.2.2.2.2.1.warm hW⟩
theorem Hw_free (C : Cx p s m args meth c own cc maxL ret D cI A) (hw : Hw D w A s.heap H locs) : ∀ q, va_A w H.size q → A q := fun q h => by
  rcases h with ⟨k, e, h⟩ | h
  · exact hw.2.1.2 k _ h
  · exact C.2.2.2.2.2.2.2.2.2 q (Nat.le_trans hw.2.2.1 h)
theorem Hw_back (C : Cx p s m args meth c own cc maxL ret D cI A) (hw : Hw D w A s.heap H locs) {H1 : Heap} {locs1 : List Loc} {t : State} (ht : t.heap = H1) (hB : EnW D cI w' (va_A w H.size) t) (hS : va_S A s.heap H1 locs1) : Hw D w' A s.heap H1 locs1 :=
  ⟨by rw [← ht]; exact hB.1, hB.2.2.weaken (fun _ q _ h => Hw_free C hw q.1 h), hS⟩
end XR
theorem CtI_of {l : Launch} {y : MethodName} {cc : ByteArray} {maxL : Nat} {ret : Option FieldType} {k : Nat} {D : va_G} {cI : ClassId} {w w' : va_W} {av : List Value} {r : Int32} (hy : plainName y.cls = true) (hlen : (lg_sl av).length ≤ maxL) (hret0 : ∃ ty, ret = some ty)
    (body : ∀ (p : Program) (e : Env) (s : State) (m : MethodId) (args : Array Value) (below : List Frame) (meth : Method) (c : Code) (A : Nat → Prop) (Q : State → Prop) (ls : Array Slot) (H : Heap) (locs : List Loc), Cx p s m args meth c y.cls cc maxL ret D cI A → Hw D w A s.heap H locs → lv_has ls maxL (lv_args 0 av) →
      (∀ (pc : Nat) (ls : Array Slot) (H : Heap) (locs : List Loc), decode cc pc = .ok (.ireturn, 1) → nrw ret r → Hw D w' A s.heap H locs → W p l e (RM k) s m args below meth c H locs 0 0 Q (F0 m pc ls [.int r])) → W p l e (RM k) s m args below meth c H locs 0 0 Q (F0 m 0 ls [])) : CtI l y cc maxL ret k D cI w w' av r := by
  intro sz
  refine Met.ofW (cc := cc) (maxL := maxL) (ret := ret) hy rfl ?_
  intro p e s m args below meth c s₁ B hml hv
  obtain ⟨rfl, hsz, hP, hK, hD0, hN⟩ := hv
  obtain ⟨ty, rfl⟩ := hret0
  have hts := atoms_spec (ws := wsM y cc maxL (some ty)) B.pre
  have hD := hD0.self (sz := s.heap.size)
  subst hsz
  have hl := lv_entry av (n := maxL) hlen
  rw [lg_entry_eq]
  have C : Cx p s m av.toArray meth c y.cls cc maxL (some ty) D cI (va_A w s.heap.size) := ⟨B.exec, B.bytes, B.returns, hml, findClass_of_methodNamed B.named, B.notSynchronized, fun x hx => hts x (List.mem_cons_of_mem _ hx), hK, hN, fun q h => Or.inr h⟩
  exact body p e s m _ below meth c _ _ _ _ _ C ⟨hP, hD, va_S.rf⟩ hl (fun pc ls H locs hdg hn hw => x_iret C hw hdg hn rfl rfl)
theorem CtV_of {l : Launch} {y : MethodName} {cc : ByteArray} {maxL : Nat} {k : Nat} {D : va_G} {cI : ClassId} {w w' : va_W} {av : List Value} (hy : plainName y.cls = true) (hlen : (lg_sl av).length ≤ maxL)
    (body : ∀ (p : Program) (e : Env) (s : State) (m : MethodId) (args : Array Value) (below : List Frame) (meth : Method) (c : Code) (A : Nat → Prop) (Q : State → Prop) (ls : Array Slot) (H : Heap) (locs : List Loc), Cx p s m args meth c y.cls cc maxL none D cI A → Hw D w A s.heap H locs → lv_has ls maxL (lv_args 0 av) →
      (∀ (pc : Nat) (ls : Array Slot) (H : Heap) (locs : List Loc), decode cc pc = .ok (.return_, 1) → Hw D w' A s.heap H locs → W p l e (RM k) s m args below meth c H locs 0 0 Q (F0 m pc ls [])) → W p l e (RM k) s m args below meth c H locs 0 0 Q (F0 m 0 ls [])) : CtV l y cc maxL k D cI w w' av := by
  intro sz
  refine Met.ofW (cc := cc) (maxL := maxL) (ret := none) hy rfl ?_
  intro p e s m args below meth c s₁ B hml hv
  obtain ⟨rfl, hsz, hP, hK, hD0, hN⟩ := hv
  have hts := atoms_spec (ws := wsM y cc maxL none) B.pre
  have hD := hD0.self (sz := s.heap.size)
  subst hsz
  have hl := lv_entry av (n := maxL) hlen
  rw [lg_entry_eq]
  have C : Cx p s m av.toArray meth c y.cls cc maxL none D cI (va_A w s.heap.size) := ⟨B.exec, B.bytes, B.returns, hml, findClass_of_methodNamed B.named, B.notSynchronized, fun x hx => hts x (List.mem_cons_of_mem _ hx), hK, hN, fun q h => Or.inr h⟩
  exact body p e s m _ below meth c _ _ _ _ _ C ⟨hP, hD, va_S.rf⟩ hl (fun pc ls H locs hdg hw => x_vret C hw hdg rfl)
section XC
variable {p : Program} {l : Launch} {e : Env} {K : Nat} {s : State} {m : MethodId} {args : Array Value} {below : List Frame} {meth : Method} {c : Code} {H : Heap} {locs : List Loc} {Q : State → Prop}
variable {cc : ByteArray} {pc : Nat} {ls : Array Slot} {rest st As : List Value} {D : va_G} {cI : ClassId} {A : Nat → Prop} {b : Nat} {w w' : va_W} {own Cn host : String} {maxL mL k n idx : Nat} {ret rt : Option FieldType} {y : MethodName} {bytes : ByteArray} {r : Int32} {lv : List (Nat × Value)}
theorem wsM_in (h5 : Cond.code y bytes mL rt ∈ wsL_law) : GoodIn wsL_law (wsM y bytes mL rt) := fun x hx => gBIG x ((List.mem_cons.mp hx).elim (fun q => q ▸ h5) id)
theorem x_cVI (C : Cx p s m args meth c own cc maxL ret D cI A) (hw : Hw D w A s.heap H locs) (hl : lv_has ls maxL lv) (hc : CtI l y bytes mL rt k D cI w w' (.ref b :: As) r) (hk : k + 1 ≤ K) (hm : mL ≤ 45) (h1 : Cond.methodLink own idx y ∈ wsL_law) (h2 : Cond.instanceMethod y ∈ wsL_law) (h3 : Cond.selects Cn y y ∈ wsL_law) (h4 : Cond.initialized y.cls ∈ wsL_law) (h5 : Cond.code y bytes mL rt ∈ wsL_law) (hd : y.cls ≠ "java/lang/invoke/MethodHandle" ∧ y.cls ≠ "java/lang/invoke/VarHandle" ∧ (parseMethodDescriptor y.desc).map (fun d => d.parameters.length) = some n) (hC : y.cls = Cn) (q0 : Nat) {ci : Nat} {fs : List Value} {q9 : vw_C} (he : w[q0]? = some (b, .inr (ci, fs))) (hcl : vwCl[ci]? = some q9) (hq : q9.1 = Cn) (hn : As.length = n) (hst : st = As.reverse ++ .ref b :: rest) (hcat : (rest.map fun v => v.category).sum ≤ 8) (hdg : decode cc pc = .ok (.invokevirtual idx, 3))
    (kk : ∀ (H : Heap) (locs : List Loc), Hw D w' A s.heap H locs → nrw rt r → W p l e (RM K) s m args below meth c H locs 0 0 Q (F0 m (pc + 3) ls (.int r :: rest))) : W p l e (RM K) s m args below meth c H locs 0 0 Q (F0 m pc ls st) := by
  obtain ⟨hx, hb, hr, hml, hown, hlocks, htB, hK, hN, hA⟩ := id C
  subst hst
  subst hC
  refine va_calli (va_runV (As := As) (rest := rest) (Ts := wsL_law) ⟨hx, hb, hml, hown, htB⟩ (hc H.size) (cwV n htB (wsV_in h1 h2 h3 h4 h5) rfl rfl rfl ⟨rfl, hd⟩ (RM_le hk hm)) ⟨StW_calling, hq ▸ va_recv hK hw.1 hcl he, StW_start C hw (.ref b :: As)⟩ rfl hn hl.1 rfl (lv_room hcat) hdg ⟨Nat.le_refl 0, Nat.le_refl 0⟩) hw.2.2 (fun q _ h => Hw_free C hw q h) (Hw_free C hw) (fun r' u t H1 locs1 ht hvm hp hB hz hk1 hS => ?_)
  obtain ⟨rfl, hn'⟩ := hp
  exact kk H1 locs1 (Hw_back C hw ht hB hS) hn'
theorem x_cVV (C : Cx p s m args meth c own cc maxL ret D cI A) (hw : Hw D w A s.heap H locs) (hl : lv_has ls maxL lv) (hc : CtV l y bytes mL k D cI w w' (.ref b :: As)) (hk : k + 1 ≤ K) (hm : mL ≤ 45) (h1 : Cond.methodLink own idx y ∈ wsL_law) (h2 : Cond.instanceMethod y ∈ wsL_law) (h3 : Cond.selects Cn y y ∈ wsL_law) (h4 : Cond.initialized y.cls ∈ wsL_law) (h5 : Cond.code y bytes mL none ∈ wsL_law) (hd : y.cls ≠ "java/lang/invoke/MethodHandle" ∧ y.cls ≠ "java/lang/invoke/VarHandle" ∧ (parseMethodDescriptor y.desc).map (fun d => d.parameters.length) = some n) (hC : y.cls = Cn) (q0 : Nat) {ci : Nat} {fs : List Value} {q9 : vw_C} (he : w[q0]? = some (b, .inr (ci, fs))) (hcl : vwCl[ci]? = some q9) (hq : q9.1 = Cn) (hn : As.length = n) (hst : st = As.reverse ++ .ref b :: rest) (hcat : (rest.map fun v => v.category).sum ≤ 8) (hdg : decode cc pc = .ok (.invokevirtual idx, 3))
    (kk : ∀ (H : Heap) (locs : List Loc), Hw D w' A s.heap H locs → W p l e (RM K) s m args below meth c H locs 0 0 Q (F0 m (pc + 3) ls rest)) : W p l e (RM K) s m args below meth c H locs 0 0 Q (F0 m pc ls st) := by
  obtain ⟨hx, hb, hr, hml, hown, hlocks, htB, hK, hN, hA⟩ := id C
  subst hst
  subst hC
  refine va_callv (va_runV (As := As) (rest := rest) (Ts := wsL_law) ⟨hx, hb, hml, hown, htB⟩ (hc H.size) (cwV n htB (wsV_in h1 h2 h3 h4 h5) rfl rfl rfl ⟨rfl, hd⟩ (RM_le hk hm)) ⟨StW_calling, hq ▸ va_recv hK hw.1 hcl he, StW_start C hw (.ref b :: As)⟩ rfl hn hl.1 rfl (lv_room hcat) hdg ⟨Nat.le_refl 0, Nat.le_refl 0⟩) hw.2.2 (fun q _ h => Hw_free C hw q h) (Hw_free C hw) (fun u t H1 locs1 ht hvm hp hB hz hk1 hS => ?_)
  exact kk H1 locs1 (Hw_back C hw ht hB hS)
theorem x_cVNI (C : Cx p s m args meth c own cc maxL ret D cI A) (hw : Hw D w A s.heap H locs) (hl : lv_has ls maxL lv) (hc : CtI l y bytes mL rt k D cI w w' (.ref b :: As) r) (hk : k + 1 ≤ K) (hm : mL ≤ 45) (h1 : (own, idx, y, host) ∈ nestM) (h2 : Cond.instanceMethod y ∈ wsL_law) (h3 : Cond.selects Cn y y ∈ wsL_law) (h4 : Cond.initialized y.cls ∈ wsL_law) (h5 : Cond.code y bytes mL rt ∈ wsL_law) (hd : y.cls ≠ "java/lang/invoke/MethodHandle" ∧ y.cls ≠ "java/lang/invoke/VarHandle" ∧ (parseMethodDescriptor y.desc).map (fun d => d.parameters.length) = some n) (hC : y.cls = Cn) (q0 : Nat) {ci : Nat} {fs : List Value} {q9 : vw_C} (he : w[q0]? = some (b, .inr (ci, fs))) (hcl : vwCl[ci]? = some q9) (hq : q9.1 = Cn) (hn : As.length = n) (hst : st = As.reverse ++ .ref b :: rest) (hcat : (rest.map fun v => v.category).sum ≤ 8) (hdg : decode cc pc = .ok (.invokevirtual idx, 3))
    (kk : ∀ (H : Heap) (locs : List Loc), Hw D w' A s.heap H locs → nrw rt r → W p l e (RM K) s m args below meth c H locs 0 0 Q (F0 m (pc + 3) ls (.int r :: rest))) : W p l e (RM K) s m args below meth c H locs 0 0 Q (F0 m pc ls st) := by
  obtain ⟨hx, hb, hr, hml, hown, hlocks, htB, hK, hN, hA⟩ := id C
  subst hst
  subst hC
  refine va_calli (va_runVN (As := As) (rest := rest) (Ts := wsL_law) ⟨hx, hb, hml, hown, htB⟩ (hc H.size) ⟨va_cnB n htB (wsM_in h5) rfl rfl rfl (hN.2 _ h1) (htB _ h4) hd (RM_le hk hm), htB _ h2, htB _ h3⟩ ⟨StW_calling, hq ▸ va_recv hK hw.1 hcl he, StW_start C hw (.ref b :: As)⟩ rfl hn hl.1 rfl (lv_room hcat) hdg ⟨Nat.le_refl 0, Nat.le_refl 0⟩) hw.2.2 (fun q _ h => Hw_free C hw q h) (Hw_free C hw) (fun r' u t H1 locs1 ht hvm hp hB hz hk1 hS => ?_)
  obtain ⟨rfl, hn'⟩ := hp
  exact kk H1 locs1 (Hw_back C hw ht hB hS) hn'
theorem x_cVNV (C : Cx p s m args meth c own cc maxL ret D cI A) (hw : Hw D w A s.heap H locs) (hl : lv_has ls maxL lv) (hc : CtV l y bytes mL k D cI w w' (.ref b :: As)) (hk : k + 1 ≤ K) (hm : mL ≤ 45) (h1 : (own, idx, y, host) ∈ nestM) (h2 : Cond.instanceMethod y ∈ wsL_law) (h3 : Cond.selects Cn y y ∈ wsL_law) (h4 : Cond.initialized y.cls ∈ wsL_law) (h5 : Cond.code y bytes mL none ∈ wsL_law) (hd : y.cls ≠ "java/lang/invoke/MethodHandle" ∧ y.cls ≠ "java/lang/invoke/VarHandle" ∧ (parseMethodDescriptor y.desc).map (fun d => d.parameters.length) = some n) (hC : y.cls = Cn) (q0 : Nat) {ci : Nat} {fs : List Value} {q9 : vw_C} (he : w[q0]? = some (b, .inr (ci, fs))) (hcl : vwCl[ci]? = some q9) (hq : q9.1 = Cn) (hn : As.length = n) (hst : st = As.reverse ++ .ref b :: rest) (hcat : (rest.map fun v => v.category).sum ≤ 8) (hdg : decode cc pc = .ok (.invokevirtual idx, 3))
    (kk : ∀ (H : Heap) (locs : List Loc), Hw D w' A s.heap H locs → W p l e (RM K) s m args below meth c H locs 0 0 Q (F0 m (pc + 3) ls rest)) : W p l e (RM K) s m args below meth c H locs 0 0 Q (F0 m pc ls st) := by
  obtain ⟨hx, hb, hr, hml, hown, hlocks, htB, hK, hN, hA⟩ := id C
  subst hst
  subst hC
  refine va_callv (va_runVN (As := As) (rest := rest) (Ts := wsL_law) ⟨hx, hb, hml, hown, htB⟩ (hc H.size) ⟨va_cnB n htB (wsM_in h5) rfl rfl rfl (hN.2 _ h1) (htB _ h4) hd (RM_le hk hm), htB _ h2, htB _ h3⟩ ⟨StW_calling, hq ▸ va_recv hK hw.1 hcl he, StW_start C hw (.ref b :: As)⟩ rfl hn hl.1 rfl (lv_room hcat) hdg ⟨Nat.le_refl 0, Nat.le_refl 0⟩) hw.2.2 (fun q _ h => Hw_free C hw q h) (Hw_free C hw) (fun u t H1 locs1 ht hvm hp hB hz hk1 hS => ?_)
  exact kk H1 locs1 (Hw_back C hw ht hB hS)
theorem x_cSI (C : Cx p s m args meth c own cc maxL ret D cI A) (hw : Hw D w A s.heap H locs) (hl : lv_has ls maxL lv) (hc : CtI l y bytes mL rt k D cI w w' As r) (hk : k + 1 ≤ K) (hm : mL ≤ 45) (h1 : Cond.methodLink own idx y ∈ wsL_law) (h2 : Cond.static y ∈ wsL_law) (h4 : Cond.initialized y.cls ∈ wsL_law) (h5 : Cond.code y bytes mL rt ∈ wsL_law) (hd : y.cls ≠ "java/lang/invoke/MethodHandle" ∧ y.cls ≠ "java/lang/invoke/VarHandle" ∧ (parseMethodDescriptor y.desc).map (fun d => d.parameters.length) = some n) (hn : As.length = n) (hst : st = As.reverse ++ rest) (hcat : (rest.map fun v => v.category).sum ≤ 8) (hdg : decode cc pc = .ok (.invokestatic idx, 3))
    (kk : ∀ (H : Heap) (locs : List Loc), Hw D w' A s.heap H locs → nrw rt r → W p l e (RM K) s m args below meth c H locs 0 0 Q (F0 m (pc + 3) ls (.int r :: rest))) : W p l e (RM K) s m args below meth c H locs 0 0 Q (F0 m pc ls st) := by
  obtain ⟨hx, hb, hr, hml, hown, hlocks, htB, hK, hN, hA⟩ := id C
  subst hst
  refine va_calli (va_runS (As := As) (rest := rest) (Ts := wsL_law) ⟨hx, hb, hml, hown, htB⟩ (hc H.size) (wsS_in h1 h2 h4 h5 htB hd (RM_le hk hm)) ⟨StW_calling, StW_start C hw As⟩ rfl hn hl.1 rfl (lv_room hcat) hdg ⟨Nat.le_refl 0, Nat.le_refl 0⟩) hw.2.2 (fun q _ h => Hw_free C hw q h) (Hw_free C hw) (fun r' u t H1 locs1 ht hvm hp hB hz hk1 hS => ?_)
  obtain ⟨rfl, hn'⟩ := hp
  exact kk H1 locs1 (Hw_back C hw ht hB hS) hn'
theorem x_cSV (C : Cx p s m args meth c own cc maxL ret D cI A) (hw : Hw D w A s.heap H locs) (hl : lv_has ls maxL lv) (hc : CtV l y bytes mL k D cI w w' As) (hk : k + 1 ≤ K) (hm : mL ≤ 45) (h1 : Cond.methodLink own idx y ∈ wsL_law) (h2 : Cond.static y ∈ wsL_law) (h4 : Cond.initialized y.cls ∈ wsL_law) (h5 : Cond.code y bytes mL none ∈ wsL_law) (hd : y.cls ≠ "java/lang/invoke/MethodHandle" ∧ y.cls ≠ "java/lang/invoke/VarHandle" ∧ (parseMethodDescriptor y.desc).map (fun d => d.parameters.length) = some n) (hn : As.length = n) (hst : st = As.reverse ++ rest) (hcat : (rest.map fun v => v.category).sum ≤ 8) (hdg : decode cc pc = .ok (.invokestatic idx, 3))
    (kk : ∀ (H : Heap) (locs : List Loc), Hw D w' A s.heap H locs → W p l e (RM K) s m args below meth c H locs 0 0 Q (F0 m (pc + 3) ls rest)) : W p l e (RM K) s m args below meth c H locs 0 0 Q (F0 m pc ls st) := by
  obtain ⟨hx, hb, hr, hml, hown, hlocks, htB, hK, hN, hA⟩ := id C
  subst hst
  refine va_callv (va_runS (As := As) (rest := rest) (Ts := wsL_law) ⟨hx, hb, hml, hown, htB⟩ (hc H.size) (wsS_in h1 h2 h4 h5 htB hd (RM_le hk hm)) ⟨StW_calling, StW_start C hw As⟩ rfl hn hl.1 rfl (lv_room hcat) hdg ⟨Nat.le_refl 0, Nat.le_refl 0⟩) hw.2.2 (fun q _ h => Hw_free C hw q h) (Hw_free C hw) (fun u t H1 locs1 ht hvm hp hB hz hk1 hS => ?_)
  exact kk H1 locs1 (Hw_back C hw ht hB hS)
theorem x_cSNI (C : Cx p s m args meth c own cc maxL ret D cI A) (hw : Hw D w A s.heap H locs) (hl : lv_has ls maxL lv) (hc : CtI l y bytes mL rt k D cI w w' As r) (hk : k + 1 ≤ K) (hm : mL ≤ 45) (h1 : (own, idx, y, host) ∈ nestM) (h2 : Cond.static y ∈ wsL_law) (h4 : Cond.initialized y.cls ∈ wsL_law) (h5 : Cond.code y bytes mL rt ∈ wsL_law) (hd : y.cls ≠ "java/lang/invoke/MethodHandle" ∧ y.cls ≠ "java/lang/invoke/VarHandle" ∧ (parseMethodDescriptor y.desc).map (fun d => d.parameters.length) = some n) (hn : As.length = n) (hst : st = As.reverse ++ rest) (hcat : (rest.map fun v => v.category).sum ≤ 8) (hdg : decode cc pc = .ok (.invokestatic idx, 3))
    (kk : ∀ (H : Heap) (locs : List Loc), Hw D w' A s.heap H locs → nrw rt r → W p l e (RM K) s m args below meth c H locs 0 0 Q (F0 m (pc + 3) ls (.int r :: rest))) : W p l e (RM K) s m args below meth c H locs 0 0 Q (F0 m pc ls st) := by
  obtain ⟨hx, hb, hr, hml, hown, hlocks, htB, hK, hN, hA⟩ := id C
  subst hst
  refine va_calli (va_runSN (As := As) (rest := rest) (Ts := wsL_law) ⟨hx, hb, hml, hown, htB⟩ (hc H.size) ⟨va_cnB n htB (wsM_in h5) rfl rfl rfl (hN.2 _ h1) (htB _ h4) hd (RM_le hk hm), htB _ h2, trivial⟩ ⟨StW_calling, StW_start C hw As⟩ rfl hn hl.1 rfl (lv_room hcat) hdg ⟨Nat.le_refl 0, Nat.le_refl 0⟩) hw.2.2 (fun q _ h => Hw_free C hw q h) (Hw_free C hw) (fun r' u t H1 locs1 ht hvm hp hB hz hk1 hS => ?_)
  obtain ⟨rfl, hn'⟩ := hp
  exact kk H1 locs1 (Hw_back C hw ht hB hS) hn'
theorem x_cSNV (C : Cx p s m args meth c own cc maxL ret D cI A) (hw : Hw D w A s.heap H locs) (hl : lv_has ls maxL lv) (hc : CtV l y bytes mL k D cI w w' As) (hk : k + 1 ≤ K) (hm : mL ≤ 45) (h1 : (own, idx, y, host) ∈ nestM) (h2 : Cond.static y ∈ wsL_law) (h4 : Cond.initialized y.cls ∈ wsL_law) (h5 : Cond.code y bytes mL none ∈ wsL_law) (hd : y.cls ≠ "java/lang/invoke/MethodHandle" ∧ y.cls ≠ "java/lang/invoke/VarHandle" ∧ (parseMethodDescriptor y.desc).map (fun d => d.parameters.length) = some n) (hn : As.length = n) (hst : st = As.reverse ++ rest) (hcat : (rest.map fun v => v.category).sum ≤ 8) (hdg : decode cc pc = .ok (.invokestatic idx, 3))
    (kk : ∀ (H : Heap) (locs : List Loc), Hw D w' A s.heap H locs → W p l e (RM K) s m args below meth c H locs 0 0 Q (F0 m (pc + 3) ls rest)) : W p l e (RM K) s m args below meth c H locs 0 0 Q (F0 m pc ls st) := by
  obtain ⟨hx, hb, hr, hml, hown, hlocks, htB, hK, hN, hA⟩ := id C
  subst hst
  refine va_callv (va_runSN (As := As) (rest := rest) (Ts := wsL_law) ⟨hx, hb, hml, hown, htB⟩ (hc H.size) ⟨va_cnB n htB (wsM_in h5) rfl rfl rfl (hN.2 _ h1) (htB _ h4) hd (RM_le hk hm), htB _ h2, trivial⟩ ⟨StW_calling, StW_start C hw As⟩ rfl hn hl.1 rfl (lv_room hcat) hdg ⟨Nat.le_refl 0, Nat.le_refl 0⟩) hw.2.2 (fun q _ h => Hw_free C hw q h) (Hw_free C hw) (fun u t H1 locs1 ht hvm hp hB hz hk1 hS => ?_)
  exact kk H1 locs1 (Hw_back C hw ht hB hS)
end XC
