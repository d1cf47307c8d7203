/-! Walks that make cells: rows with cells and slots, contracts of constructors. Written by wip/whole/ctor.py. -/
def RN (k mc ms : Nat) : Room := { frames := k, cells := mc, slots := ms, locals := 64 * k }
def CtN (l : Launch) (y : MethodName) (cc : ByteArray) (maxL : Nat) (k mc ms : Nat) (D : va_G) (cI : ClassId) (w0 : va_W) (av : List Value) (post : va_W → Prop) : Prop := ∀ sz : Nat, Met l y (wsM y cc maxL none) (RN k mc ms) (va_Pc av (StW D cI w0 sz)) (va_Qv post (fun w1 t => EnW D cI w1 (va_A w0 sz) t) (va_A w0 sz)) mc ms (va_A w0 sz)
theorem P_left {D : va_G} {cl : List vw_C} {a b : va_W} {H : Heap} (h : va_P D cl (a ++ b) H) : va_P D cl a H := fun k q hq => h k q (by rw [List.getElem?_append_left (List.getElem?_eq_some_iff.mp hq).1]; exact hq)
theorem P_right {D : va_G} {cl : List vw_C} {a b : va_W} {H : Heap} (h : va_P D cl (a ++ b) H) : va_P D cl b H := fun k q hq => h (a.length + k) q (by rw [List.getElem?_append_right (Nat.le_add_right _ _), Nat.add_sub_cancel_left]; exact hq)
theorem D_left {A : Nat → Prop} {a b : va_W} (h : va_D A (a ++ b)) : va_D A a := by
  have e : ∀ (k : Nat) (q : Nat × va_E), a[k]? = some q → (a ++ b)[k]? = some q := fun k q hq => by rw [List.getElem?_append_left (List.getElem?_eq_some_iff.mp hq).1]; exact hq
  exact ⟨fun i j p q hp hq hpq => h.1 i j p q (e i p hp) (e j q hq) hpq, fun k q hq => h.2 k q (e k q hq)⟩
theorem D_right {A : Nat → Prop} {a b : va_W} (h : va_D A (a ++ b)) : va_D A b := by
  have e : ∀ (k : Nat) (q : Nat × va_E), b[k]? = some q → (a ++ b)[a.length + k]? = some q := fun k q hq => by rw [List.getElem?_append_right (Nat.le_add_right _ _), Nat.add_sub_cancel_left]; exact hq
  exact ⟨fun i j p q hp hq hpq => Nat.add_left_cancel (h.1 _ _ p q (e i p hp) (e j q hq) hpq), fun k q hq => h.2 _ q (e k q hq)⟩
theorem D_apart {A : Nat → Prop} {a b : va_W} (h : va_D A (a ++ b)) : ∀ (i j : Nat) (p q : Nat × va_E), a[i]? = some p → b[j]? = some q → p.1 ≠ q.1 := fun i j p q hp hq hpq => by
  have hi := (List.getElem?_eq_some_iff.mp hp).1
  have h1 := h.1 i (a.length + j) p q (by rw [List.getElem?_append_left hi]; exact hp) (by rw [List.getElem?_append_right (Nat.le_add_right _ _), Nat.add_sub_cancel_left]; exact hq) hpq
  omega
/-- behind a call on the cells b: the cells a have stayed -/
theorem PD_right {A : Nat → Prop} {D : va_G} {cl : List vw_C} {a b b1 : va_W} {H H1 : Heap} (hP : va_P D cl (a ++ b) H) (hD : va_D A (a ++ b)) (hk : ∀ q : Nat, q < H.size → ¬ va_A b H.size q → H1[q]? = H[q]?) (hF : ∀ q, va_A b H.size q → A q) (hP1 : va_P D cl b1 H1) (hD1 : va_D (va_A b H.size) b1) : va_P D cl (a ++ b1) H1 ∧ va_D A (a ++ b1) := by
  have ap : ∀ (k : Nat) (q : Nat × va_E), a[k]? = some q → q.1 < H.size ∧ ¬ va_A b H.size q.1 := fun k q hq => by
    have hl := (P_left hP k q hq).lt
    refine ⟨hl, fun h => ?_⟩
    rcases h with ⟨k2, e, h⟩ | h
    · exact D_apart hD k k2 q (q.1, e) hq h rfl
    · omega
  refine ⟨va_P.app (fun k q hq => (P_left hP k q hq).kept (hk q.1 (ap k q hq).1 (ap k q hq).2)) hP1, va_D.app (D_left hD) (hD1.weaken (fun k q _ h => hF q.1 h)) (fun i j x y hx hy hxy => (ap i x hx).2 (by rw [hxy]; exact hD1.2 j y hy))⟩
/-- behind a call on the cells a: the cells b have stayed -/
theorem PD_left {A : Nat → Prop} {D : va_G} {cl : List vw_C} {a b a1 : va_W} {H H1 : Heap} (hP : va_P D cl (a ++ b) H) (hD : va_D A (a ++ b)) (hk : ∀ q : Nat, q < H.size → ¬ va_A a H.size q → H1[q]? = H[q]?) (hF : ∀ q, va_A a H.size q → A q) (hP1 : va_P D cl a1 H1) (hD1 : va_D (va_A a H.size) a1) : va_P D cl (a1 ++ b) H1 ∧ va_D A (a1 ++ b) := by
  have ap : ∀ (k : Nat) (q : Nat × va_E), b[k]? = some q → q.1 < H.size ∧ ¬ va_A a H.size q.1 := fun k q hq => by
    have hl := (P_right hP k q hq).lt
    refine ⟨hl, fun h => ?_⟩
    rcases h with ⟨k2, e, h⟩ | h
    · exact D_apart hD k2 k (q.1, e) q h hq rfl
    · omega
  refine ⟨va_P.app hP1 (fun k q hq => (P_right hP k q hq).kept (hk q.1 (ap k q hq).1 (ap k q hq).2)), va_D.app (hD1.weaken (fun k q _ h => hF q.1 h)) (D_right hD) (fun i j x y hx hy hxy => (ap j y hy).2 (by rw [← hxy]; exact hD1.2 i x hx))⟩
theorem CtN_of {l : Launch} {y : MethodName} {cc : ByteArray} {maxL k mc ms : Nat} {D : va_G} {cI : ClassId} {w0 : va_W} {av : List Value} {post : va_W → Prop} (hy : plainName y.cls = true) (hlen : (lg_sl av).length ≤ maxL) (hnm : y.name = "<init>")
    (body : ∀ (p : Program) (e : Env) (s : State) (m : MethodId) (args : Array Value) (below : List Frame) (meth : Method) (c : Code) (A : Nat → Prop) (Q : State → Prop) (ls : Array Slot) (H : Heap) (locs : List Loc), Cx p s m args meth c y.cls cc maxL none D cI A → meth.name = "<init>" → Hw D w0 A s.heap H locs → lv_has ls maxL (lv_args 0 av) →
      (∀ (pc : Nat) (ls : Array Slot) (H : Heap) (locs : List Loc) (w1 : va_W), decode cc pc = .ok (.return_, 1) → post w1 → Hw D w1 A s.heap H locs → W p l e (RN k mc ms) s m args below meth c H locs mc ms Q (F0 m pc ls [])) → W p l e (RN k mc ms) s m args below meth c H locs 0 0 Q (F0 m 0 ls [])) : CtN l y cc maxL k mc ms D cI w0 av post := by
  intro sz
  refine Met.ofW (cc := cc) (maxL := maxL) (ret := none) hy rfl ?_
  intro p e s m args below meth c s₁ B hml hv
  obtain ⟨rfl, hsz, hP, hK, hD0, hN⟩ := hv
  have hts := atoms_spec (ws := wsM y cc maxL none) B.pre
  have hD := hD0.self (sz := s.heap.size)
  subst hsz
  have hl := lv_entry av (n := maxL) hlen
  rw [lg_entry_eq]
  have C : Cx p s m av.toArray meth c y.cls cc maxL none D cI (va_A w0 s.heap.size) := ⟨B.exec, B.bytes, B.returns, hml, findClass_of_methodNamed B.named, B.notSynchronized, fun x hx => hts x (List.mem_cons_of_mem _ hx), hK, hN, fun q h => Or.inr h⟩
  exact body p e s m _ below meth c _ _ _ _ _ C ((name_of_methodNamed B.named B.method).1.trans hnm) ⟨hP, hD, va_S.rf⟩ hl (fun pc ls H locs w1 hdg hp hw => W.vret C.1 C.2.1 C.2.2.1 (fun t ht hW => ⟨⟨w1, rfl, hp, by rw [ht]; exact hw.1, va_K.moved hW.alike hK, hw.2.1⟩, hw.2.2.F ht⟩) hw.2.2.2.2 hdg C.2.2.2.2.2.1)
section NR
variable {p : Program} {l : Launch} {e : Env} {R : Room} {s : State} {m : MethodId} {args : Array Value} {below : List Frame} {meth : Method} {c : Code} {H : Heap} {locs : List Loc} {cells slots : Nat} {Q : State → Prop}
variable {cc : ByteArray} {pc : Nat} {ls : Array Slot} {rest st As : List Value} {D : va_G} {cI : ClassId} {A : Nat → Prop} {a : Nat} {w w' : va_W} {own : String} {maxL : Nat} {ret : Option FieldType} {lv : List (Nat × Value)}
theorem n_init (C : Cx p s m args meth c own cc maxL ret D cI A) (hl : lv_has ls maxL lv) {idx : Nat} (h1 : Cond.methodLink own idx objectInit ∈ wsL_law) (h2 : Cond.instanceMethod objectInit ∈ wsL_law) (h3 : Cond.code objectInit ⟨#[0xb1]⟩ 1 none ∈ wsL_law) (hd : decode cc pc = .ok (.invokespecial idx, 3)) (hf : 1 ≤ R.frames) (hlo : (rest.map fun v => v.category).sum + 12 ≤ R.locals)
    (kk : W p l e R s m args below meth c H locs cells slots Q (F0 m (pc + 3) ls rest)) : W p l e R s m args below meth c H locs cells slots Q (F0 m pc ls (.ref a :: rest)) := by
  obtain ⟨hx, hb, -, hml, hown, -, htB, -, -, -⟩ := C
  refine W.objInit hx hb hown (htB _ h1) (htB _ h2) (htB _ h3) rfl (by rw [hml]; exact hl.1) rfl hd hf (by show 2 * 0 + _ + 12 ≤ _; omega) ?_
  exact kk
theorem n_newa (C : Cx p s m args meth c own cc maxL ret D cI A) (hw : Hw D w A s.heap H locs) (harr : Cond.arrayClass .int ∈ wsL_law) {n : Int32} {N : Nat} (hn : ¬ n < 0) (hN : n.toNatClampNeg = N) (hbytes : N * 4 ≤ 536870912) (hc : cells + 1 ≤ R.cells) (hs : slots + N ≤ R.slots) (hdg : decode cc pc = .ok (.newarray .int, 2))
    (kk : ∀ (q : Nat) (H : Heap), Hw D (w ++ [(q, .inl (cI, N, .inl fun _ => 0))]) A s.heap H locs → W p l e R s m args below meth c H locs (cells + 1) (slots + N) Q (F0 m (pc + 2) ls (.ref q :: rest))) : W p l e R s m args below meth c H locs cells slots Q (F0 m pc ls (.int n :: rest)) := by
  obtain ⟨hx, hb, -, -, hown, -, htB, hK, -, hA⟩ := C
  refine va_newa (atype := .int) (ty := .int) (a0 := (N, .inl fun _ => 0)) hx hb (htB _ harr) rfl hK hw.1 hw.2.1 hw.2.2 hA (fun cA => rfl) hn hN hbytes hc hs hdg (fun q cA H1 hK1 hP hD hS => ?_)
  have e1 : va_RA s cI .int := (hK1.2 0 _ rfl).2
  have e2 : va_RA s cA .int := (hK1.2 1 _ rfl).2
  have e3 : cI = cA := Option.some.inj (Eq.trans (Eq.symm e1) e2)
  subst e3
  exact kk q H1 ⟨hP, hD, hS⟩
theorem n_new (C : Cx p s m args meth c own cc maxL ret D cI A) (hw : Hw D w A s.heap H locs) {Cn : String} {T : u_T} {n ci index : Nat} (hin : ∀ x ∈ u_ws Cn T n, x ∈ wsL_law) {ty0 : Nat → FieldType} (hty : ∀ k, k < n → parseFieldDescriptor (T k).2.2.1 = some (ty0 k)) (h1 : Cond.classLink own index Cn ∈ wsL_law) (h2 : Cond.instantiable Cn n ∈ wsL_law) (h3 : Cond.initialized Cn ∈ wsL_law) (hc : vwCl[ci]? = some (Cn, T, n)) {fs : List Value} (hfs : ∀ j, j < n → defaultValue (ty0 j) = vp_V fs j) (hcs : cells + 1 ≤ R.cells) (hss : slots + n ≤ R.slots) (hdg : decode cc pc = .ok (.new index, 3))
    (kk : ∀ (q : Nat) (H : Heap), Hw D (w ++ [(q, .inr (ci, fs))]) A s.heap H locs → W p l e R s m args below meth c H locs (cells + 1) (slots + n) Q (F0 m (pc + 3) ls (.ref q :: rest))) : W p l e R s m args below meth c H locs cells slots Q (F0 m pc ls rest) := by
  obtain ⟨hx, hb, -, -, hown, -, htB, hK, -, hA⟩ := C
  exact va_new hx hb htB hin ty0 hty hown (htB _ h1) (htB _ h2) (htB _ h3) hK hw.1 hw.2.1 hw.2.2 hA hc hfs hcs hss hdg (fun q H1 hP hD hS => kk q H1 ⟨hP, hD, hS⟩)
theorem n_putF (C : Cx p s m args meth c own cc maxL ret D cI A) (hini : meth.name = "<init>") (hw : Hw D w A s.heap H locs) {Cn : String} {T : u_T} {n ci index : Nat} (hin : ∀ x ∈ u_ws Cn T n, x ∈ wsL_law) (hc : vwCl[ci]? = some (Cn, T, n)) {ty0 : Nat → FieldType} (hty : ∀ k, k < n → parseFieldDescriptor (T k).2.2.1 = some (ty0 k)) (hnm : ∀ a, a < n → ∀ b, b < n → a ≠ b → (T a).2.1 ≠ (T b).2.1) (q0 k : Nat) (hk : k < n) (hlink : Cond.fieldLink own index (T k).1 (T k).2.1 (T k).2.2.1 ∈ wsL_law) (hfin : (T k).2.2.2 = true) (hdecl : (T k).1 = own) {ty : FieldType} {v : Value} (hd : parseFieldDescriptor (T k).2.2.1 = some ty) (hn : narrow ty v = v) (hfit : fits ty v = true) {fs : List Value} (he : w[q0]? = some (a, .inr (ci, fs))) (hl : k < fs.length) (hset : w.set q0 (a, .inr (ci, fs.set k v)) = w') (hdg : decode cc pc = .ok (.putfield index, 3))
    (kk : ∀ (H : Heap) (locs : List Loc), Hw D w' A s.heap H locs → W p l e R s m args below meth c H locs cells slots Q (F0 m (pc + 3) ls rest)) : W p l e R s m args below meth c H locs cells slots Q (F0 m pc ls (v :: .ref a :: rest)) := by
  obtain ⟨hx, hb, -, -, hown, -, htB, hK, -, -⟩ := C
  subst hset
  exact va_putF (Ts := wsL_law) hx hb htB hin ty0 hty hnm hown hK hw.1 hw.2.1 hw.2.2 q0 he hc k hk (htB _ hlink) (fun _ h9 => h9) hfin hini hdecl hd hn hfit hl hdg (fun H1 locs1 hP hD hS => kk H1 locs1 ⟨hP, hD, hS⟩)
/-- a constructor's call on the cells w0, the last of the world -/
theorem n_ctor (C : Cx p s m args meth c own cc maxL ret D cI A) {wr w0 : va_W} (hw : Hw D (wr ++ w0) A s.heap H locs) (hl : lv_has ls maxL lv) {y : MethodName} {bytes : ByteArray} {mL k mc ms n idx : Nat} {post : va_W → Prop} (hc : CtN l y bytes mL k mc ms D cI w0 (.ref a :: As) post) (hr : k + 1 ≤ R.frames ∧ 8 + (mL + 11) + 64 * k ≤ R.locals) (hcs : cells + mc ≤ R.cells ∧ slots + ms ≤ R.slots) (hy : y.name = "<init>")
    (h1 : Cond.methodLink own idx y ∈ wsL_law ∨ ∃ host, (own, idx, y, host) ∈ nestM) (h2 : Cond.instanceMethod y ∈ wsL_law) (h4 : Cond.initialized y.cls ∈ wsL_law) (h5 : Cond.code y bytes mL none ∈ wsL_law) (hd : y.cls ≠ "java/lang/invoke/MethodHandle" ∧ y.cls ≠ "java/lang/invoke/VarHandle" ∧ (parseMethodDescriptor y.desc).map (fun d => d.parameters.length) = some n) (hn : As.length = n) (hst : st = As.reverse ++ .ref a :: rest) (hcat : (rest.map fun v => v.category).sum ≤ 8) (hdg : decode cc pc = .ok (.invokespecial idx, 3))
    (kk : ∀ (w1 : va_W) (H : Heap) (locs : List Loc), post w1 → Hw D (wr ++ w1) A s.heap H locs → W p l e R s m args below meth c H locs (cells + mc) (slots + ms) Q (F0 m (pc + 3) ls rest)) : W p l e R s m args below meth c H locs cells slots Q (F0 m pc ls st) := by
  obtain ⟨hx, hb, -, hml, hown, hlocks, htB, hK, hN, hA⟩ := id C
  subst hst
  have hF : ∀ q, va_A w0 H.size q → A q := fun q h => by
    rcases h with ⟨k, e, h⟩ | h
    · exact (D_right hw.2.1).2 k _ h
    · exact hA q (Nat.le_trans hw.2.2.1 h)
  have hst0 : ∀ U : State, U.heap = H → s.WarmedH U.vm → va_Pc (.ref a :: As) (StW D cI w0 H.size) (Value.ref a :: As).toArray U := fun U hU hW =>
    ⟨rfl, by rw [hU], by rw [hU]; exact P_right hw.1, va_K.moved hW.alike hK, (D_right hw.2.1).weaken (fun _ _ _ _ => trivial), hN.warm hW⟩
  have back : ∀ (w1 : va_W) (t : State) (H1 : Heap) (locs1 : List Loc), t.heap = H1 → EnW D cI w1 (va_A w0 H.size) t → (∀ q : Nat, q < H.size → ¬ va_A w0 H.size q → H1[q]? = H[q]?) → va_S A s.heap H1 locs1 → Hw D (wr ++ w1) A s.heap H1 locs1 := fun w1 t H1 locs1 ht hB hk hS => by
    obtain ⟨x1, x2⟩ := PD_right hw.1 hw.2.1 hk hF (by rw [← ht]; exact hB.1) hB.2.2
    exact ⟨x1, x2, hS⟩
  rcases h1 with h1 | ⟨host, h1⟩
  · refine va_callv (va_runI (As := As) (rest := rest) (Ts := wsL_law) ⟨hx, hb, hml, hown, htB⟩ (hc H.size) (cwI n htB (wsM_in h5) rfl rfl rfl (htB _ h4) (htB _ h1) (htB _ h2) hy hd hr) ⟨StW_calling, hst0⟩ rfl hn hl.1 rfl (lv_room hcat) hdg hcs) hw.2.2 (fun q _ h => hF q h) hF (fun u t H1 locs1 ht hvm hp hB hz hk1 hS => ?_)
    exact kk u H1 locs1 hp (back u t H1 locs1 ht hB hk1 hS)
  · refine va_callv (va_runIN (As := As) (rest := rest) (Ts := wsL_law) ⟨hx, hb, hml, hown, htB⟩ (hc H.size) ⟨va_cnB n htB (wsM_in h5) rfl rfl rfl (hN.2 _ h1) (htB _ h4) hd hr, hy, htB _ h2⟩ ⟨StW_calling, hst0⟩ rfl hn hl.1 rfl (lv_room hcat) hdg hcs) hw.2.2 (fun q _ h => hF q h) hF (fun u t H1 locs1 ht hvm hp hB hz hk1 hS => ?_)
    exact kk u H1 locs1 hp (back u t H1 locs1 ht hB hk1 hS)
theorem n_get (C : Cx p s m args meth c own cc maxL ret D cI A) (hw : Hw D w A s.heap H locs) {ref Cn : String} {T : u_T} {n ci index : Nat} (hin : ∀ x ∈ u_ws Cn T n, x ∈ wsL_law) (hc : vwCl[ci]? = some (Cn, T, n)) (q0 k : Nat) (hk : k < n) (hlink : Cond.fieldLink own index ref (T k).2.1 (T k).2.2.1 ∈ wsL_law) (href : ref = (T k).1) {fs : List Value} (he : w[q0]? = some (a, .inr (ci, fs))) {v : Value} (hv : fs[k]? = some v) (hdg : decode cc pc = .ok (.getfield index, 3))
    (kk : W p l e R s m args below meth c H locs cells slots Q (F0 m (pc + 3) ls (v :: rest))) : W p l e R s m args below meth c H locs cells slots Q (F0 m pc ls (.ref a :: rest)) := by
  obtain ⟨hx, hb, -, -, hown, -, htB, hK, -, -⟩ := C
  subst href
  exact va_get (Ts := wsL_law) hx hb htB hin hown hK hw.1 q0 he hc k hk (htB _ hlink) (fun _ h9 => h9) hv hdg kk
theorem n_getN (C : Cx p s m args meth c own cc maxL ret D cI A) (hw : Hw D w A s.heap H locs) {ref Cn host : String} {T : u_T} {n ci index : Nat} (hin : ∀ x ∈ u_ws Cn T n, x ∈ wsL_law) (hc : vwCl[ci]? = some (Cn, T, n)) (q0 k : Nat) (hk : k < n) (hlink : (own, index, ref, (T k).2.1, (T k).2.2.1, host) ∈ nestF) (href : ref = (T k).1) {fs : List Value} (he : w[q0]? = some (a, .inr (ci, fs))) {v : Value} (hv : fs[k]? = some v) (hdg : decode cc pc = .ok (.getfield index, 3))
    (kk : W p l e R s m args below meth c H locs cells slots Q (F0 m (pc + 3) ls (v :: rest))) : W p l e R s m args below meth c H locs cells slots Q (F0 m pc ls (.ref a :: rest)) := by
  obtain ⟨hx, hb, -, -, hown, -, htB, hK, hN, -⟩ := C
  subst href
  exact va_getN (Ts := wsL_law) hx hb htB hin hown hK hw.1 q0 he hc k hk (va_Nw.use rfl (hN.1 _ hlink)) (fun _ h9 => h9) hv hdg kk
theorem n_put (C : Cx p s m args meth c own cc maxL ret D cI A) (hw : Hw D w A s.heap H locs) {ref Cn : String} {T : u_T} {n ci index : Nat} (hin : ∀ x ∈ u_ws Cn T n, x ∈ wsL_law) (hc : vwCl[ci]? = some (Cn, T, n)) {ty0 : Nat → FieldType} (hty : ∀ k, k < n → parseFieldDescriptor (T k).2.2.1 = some (ty0 k)) (hnm : ∀ a, a < n → ∀ b, b < n → a ≠ b → (T a).2.1 ≠ (T b).2.1) (q0 k : Nat) (hk : k < n) (hlink : Cond.fieldLink own index ref (T k).2.1 (T k).2.2.1 ∈ wsL_law) (href : ref = (T k).1) (hfin : (T k).2.2.2 = false) (hint : (T k).2.2.1 = "I") {fs : List Value} {x : Int32} (he : w[q0]? = some (a, .inr (ci, fs))) (hl : k < fs.length) (hset : w.set q0 (a, .inr (ci, fs.set k (.int x))) = w') (hdg : decode cc pc = .ok (.putfield index, 3))
    (kk : ∀ (H : Heap) (locs : List Loc), Hw D w' A s.heap H locs → W p l e R s m args below meth c H locs cells slots Q (F0 m (pc + 3) ls rest)) : W p l e R s m args below meth c H locs cells slots Q (F0 m pc ls (.int x :: .ref a :: rest)) := by
  obtain ⟨hx, hb, -, -, hown, -, htB, hK, -, -⟩ := C
  subst href
  subst hset
  exact va_put (Ts := wsL_law) (ty := .int) hx hb htB hin ty0 hty hnm hown hK hw.1 hw.2.1 hw.2.2 q0 he hc k hk (htB _ hlink) (fun _ h9 => h9) hfin (by rw [hint]; decide +kernel) rfl rfl hl hdg (fun H1 locs1 hP hD hS => kk H1 locs1 ⟨hP, hD, hS⟩)
theorem n_putN (C : Cx p s m args meth c own cc maxL ret D cI A) (hw : Hw D w A s.heap H locs) {ref Cn host : String} {T : u_T} {n ci index : Nat} (hin : ∀ x ∈ u_ws Cn T n, x ∈ wsL_law) (hc : vwCl[ci]? = some (Cn, T, n)) {ty0 : Nat → FieldType} (hty : ∀ k, k < n → parseFieldDescriptor (T k).2.2.1 = some (ty0 k)) (hnm : ∀ a, a < n → ∀ b, b < n → a ≠ b → (T a).2.1 ≠ (T b).2.1) (q0 k : Nat) (hk : k < n) (hlink : (own, index, ref, (T k).2.1, (T k).2.2.1, host) ∈ nestF) (href : ref = (T k).1) (hfin : (T k).2.2.2 = false) (hint : (T k).2.2.1 = "I") {fs : List Value} {x : Int32} (he : w[q0]? = some (a, .inr (ci, fs))) (hl : k < fs.length) (hset : w.set q0 (a, .inr (ci, fs.set k (.int x))) = w') (hdg : decode cc pc = .ok (.putfield index, 3))
    (kk : ∀ (H : Heap) (locs : List Loc), Hw D w' A s.heap H locs → W p l e R s m args below meth c H locs cells slots Q (F0 m (pc + 3) ls rest)) : W p l e R s m args below meth c H locs cells slots Q (F0 m pc ls (.int x :: .ref a :: rest)) := by
  obtain ⟨hx, hb, -, -, hown, -, htB, hK, hN, -⟩ := C
  subst href
  subst hset
  exact va_putN (Ts := wsL_law) (ty := .int) hx hb htB hin ty0 hty hnm hown hK hw.1 hw.2.1 hw.2.2 q0 he hc k hk (va_Nw.use rfl (hN.1 _ hlink)) (fun _ h9 => h9) hfin (by rw [hint]; decide +kernel) rfl rfl hl hdg (fun H1 locs1 hP hD hS => kk H1 locs1 ⟨hP, hD, hS⟩)
theorem n_iald (C : Cx p s m args meth c own cc maxL ret D cI A) (hw : Hw D w A s.heap H locs) (q0 : Nat) {n : Nat} {f : Nat → Int32} (he : w[q0]? = some (a, .inl (cI, n, .inl f))) {i : Int32} (hin : vp_in i n) (hdg : decode cc pc = .ok (.iaload, 1))
    (kk : W p l e R s m args below meth c H locs cells slots Q (F0 m (pc + 1) ls (.int (f i.toNatClampNeg) :: rest))) : W p l e R s m args below meth c H locs cells slots Q (F0 m pc ls (.int i :: .ref a :: rest)) :=
  va_iald C.1 C.2.1 C.2.2.2.2.2.2.2.1 hw.1 q0 0 he rfl hin hdg kk
theorem n_iast (C : Cx p s m args meth c own cc maxL ret D cI A) (hw : Hw D w A s.heap H locs) (q0 : Nat) {n : Nat} {f : Nat → Int32} (he : w[q0]? = some (a, .inl (cI, n, .inl f))) {i x : Int32} (hin : vp_in i n) (hset : w.set q0 (a, .inl (cI, n, .inl (upd f i.toNatClampNeg x))) = w') (hdg : decode cc pc = .ok (.iastore, 1))
    (kk : ∀ (H : Heap) (locs : List Loc), Hw D w' A s.heap H locs → W p l e R s m args below meth c H locs cells slots Q (F0 m (pc + 1) ls rest)) : W p l e R s m args below meth c H locs cells slots Q (F0 m pc ls (.int x :: .int i :: .ref a :: rest)) := by
  subst hset
  exact va_iast C.1 C.2.1 C.2.2.2.2.2.2.2.1 hw.1 hw.2.1 hw.2.2 q0 0 he rfl hin hdg (fun H1 locs1 hP hD hS => kk H1 locs1 ⟨hP, hD, hS⟩)
theorem n_alen (C : Cx p s m args meth c own cc maxL ret D cI A) (hw : Hw D w A s.heap H locs) (q0 : Nat) {n : Nat} {f : Nat → Int32} (he : w[q0]? = some (a, .inl (cI, n, .inl f))) (hdg : decode cc pc = .ok (.arraylength, 1))
    (kk : W p l e R s m args below meth c H locs cells slots Q (F0 m (pc + 1) ls (.int (nI n) :: rest))) : W p l e R s m args below meth c H locs cells slots Q (F0 m pc ls (.ref a :: rest)) :=
  va_alen C.1 C.2.1 C.2.2.2.2.2.2.2.1 hw.1 q0 0 he rfl rfl hdg kk
end NR
section NC
variable {p : Program} {l : Launch} {e : Env} {R : Room} {cells slots : Nat} {s : State} {m : MethodId} {args : Array Value} {below : List Frame} {meth : Method} {c : Code} {H : Heap} {locs : List Loc} {Q : State → Prop}
variable {cc : ByteArray} {pc : Nat} {ls : Array Slot} {rest st As : List Value} {D : va_G} {cI : ClassId} {A : Nat → Prop} {b : Nat} {w w' : va_W} {own Cn host : String} {maxL mL k n idx : Nat} {ret rt : Option FieldType} {y : MethodName} {bytes : ByteArray} {r : Int32} {lv : List (Nat × Value)}
theorem n_wsM_in (h5 : Cond.code y bytes mL rt ∈ wsL_law) : GoodIn wsL_law (wsM y bytes mL rt) := fun x hx => gBIG x ((List.mem_cons.mp hx).elim (fun q => q ▸ h5) id)
theorem n_cVI (C : Cx p s m args meth c own cc maxL ret D cI A) (hw : Hw D w A s.heap H locs) (hl : lv_has ls maxL lv) (hc : CtI l y bytes mL rt k D cI w w' (.ref b :: As) r) (hk : (RM k).frames + 1 ≤ R.frames ∧ 8 + (mL + 11) + (RM k).locals ≤ R.locals) (hm : cells ≤ R.cells ∧ slots ≤ R.slots) (h1 : Cond.methodLink own idx y ∈ wsL_law) (h2 : Cond.instanceMethod y ∈ wsL_law) (h3 : Cond.selects Cn y y ∈ wsL_law) (h4 : Cond.initialized y.cls ∈ wsL_law) (h5 : Cond.code y bytes mL rt ∈ wsL_law) (hd : y.cls ≠ "java/lang/invoke/MethodHandle" ∧ y.cls ≠ "java/lang/invoke/VarHandle" ∧ (parseMethodDescriptor y.desc).map (fun d => d.parameters.length) = some n) (hC : y.cls = Cn) (q0 : Nat) {ci : Nat} {fs : List Value} {q9 : vw_C} (he : w[q0]? = some (b, .inr (ci, fs))) (hcl : vwCl[ci]? = some q9) (hq : q9.1 = Cn) (hn : As.length = n) (hst : st = As.reverse ++ .ref b :: rest) (hcat : (rest.map fun v => v.category).sum ≤ 8) (hdg : decode cc pc = .ok (.invokevirtual idx, 3))
    (kk : ∀ (H : Heap) (locs : List Loc), Hw D w' A s.heap H locs → nrw rt r → W p l e R s m args below meth c H locs cells slots Q (F0 m (pc + 3) ls (.int r :: rest))) : W p l e R s m args below meth c H locs cells slots Q (F0 m pc ls st) := by
  obtain ⟨hx, hb, hr, hml, hown, hlocks, htB, hK, hN, hA⟩ := id C
  subst hst
  subst hC
  refine va_calli (va_runV (As := As) (rest := rest) (Ts := wsL_law) ⟨hx, hb, hml, hown, htB⟩ (hc H.size) (cwV n htB (wsV_in h1 h2 h3 h4 h5) rfl rfl rfl ⟨rfl, hd⟩ hk) ⟨StW_calling, hq ▸ va_recv hK hw.1 hcl he, StW_start C hw (.ref b :: As)⟩ rfl hn hl.1 rfl (lv_room hcat) hdg hm) hw.2.2 (fun q _ h => Hw_free C hw q h) (Hw_free C hw) (fun r' u t H1 locs1 ht hvm hp hB hz hk1 hS => ?_)
  obtain ⟨rfl, hn'⟩ := hp
  exact kk H1 locs1 (Hw_back C hw ht hB hS) hn'
theorem n_cVV (C : Cx p s m args meth c own cc maxL ret D cI A) (hw : Hw D w A s.heap H locs) (hl : lv_has ls maxL lv) (hc : CtV l y bytes mL k D cI w w' (.ref b :: As)) (hk : (RM k).frames + 1 ≤ R.frames ∧ 8 + (mL + 11) + (RM k).locals ≤ R.locals) (hm : cells ≤ R.cells ∧ slots ≤ R.slots) (h1 : Cond.methodLink own idx y ∈ wsL_law) (h2 : Cond.instanceMethod y ∈ wsL_law) (h3 : Cond.selects Cn y y ∈ wsL_law) (h4 : Cond.initialized y.cls ∈ wsL_law) (h5 : Cond.code y bytes mL none ∈ wsL_law) (hd : y.cls ≠ "java/lang/invoke/MethodHandle" ∧ y.cls ≠ "java/lang/invoke/VarHandle" ∧ (parseMethodDescriptor y.desc).map (fun d => d.parameters.length) = some n) (hC : y.cls = Cn) (q0 : Nat) {ci : Nat} {fs : List Value} {q9 : vw_C} (he : w[q0]? = some (b, .inr (ci, fs))) (hcl : vwCl[ci]? = some q9) (hq : q9.1 = Cn) (hn : As.length = n) (hst : st = As.reverse ++ .ref b :: rest) (hcat : (rest.map fun v => v.category).sum ≤ 8) (hdg : decode cc pc = .ok (.invokevirtual idx, 3))
    (kk : ∀ (H : Heap) (locs : List Loc), Hw D w' A s.heap H locs → W p l e R s m args below meth c H locs cells slots Q (F0 m (pc + 3) ls rest)) : W p l e R s m args below meth c H locs cells slots Q (F0 m pc ls st) := by
  obtain ⟨hx, hb, hr, hml, hown, hlocks, htB, hK, hN, hA⟩ := id C
  subst hst
  subst hC
  refine va_callv (va_runV (As := As) (rest := rest) (Ts := wsL_law) ⟨hx, hb, hml, hown, htB⟩ (hc H.size) (cwV n htB (wsV_in h1 h2 h3 h4 h5) rfl rfl rfl ⟨rfl, hd⟩ hk) ⟨StW_calling, hq ▸ va_recv hK hw.1 hcl he, StW_start C hw (.ref b :: As)⟩ rfl hn hl.1 rfl (lv_room hcat) hdg hm) hw.2.2 (fun q _ h => Hw_free C hw q h) (Hw_free C hw) (fun u t H1 locs1 ht hvm hp hB hz hk1 hS => ?_)
  exact kk H1 locs1 (Hw_back C hw ht hB hS)
theorem n_cVNI (C : Cx p s m args meth c own cc maxL ret D cI A) (hw : Hw D w A s.heap H locs) (hl : lv_has ls maxL lv) (hc : CtI l y bytes mL rt k D cI w w' (.ref b :: As) r) (hk : (RM k).frames + 1 ≤ R.frames ∧ 8 + (mL + 11) + (RM k).locals ≤ R.locals) (hm : cells ≤ R.cells ∧ slots ≤ R.slots) (h1 : (own, idx, y, host) ∈ nestM) (h2 : Cond.instanceMethod y ∈ wsL_law) (h3 : Cond.selects Cn y y ∈ wsL_law) (h4 : Cond.initialized y.cls ∈ wsL_law) (h5 : Cond.code y bytes mL rt ∈ wsL_law) (hd : y.cls ≠ "java/lang/invoke/MethodHandle" ∧ y.cls ≠ "java/lang/invoke/VarHandle" ∧ (parseMethodDescriptor y.desc).map (fun d => d.parameters.length) = some n) (hC : y.cls = Cn) (q0 : Nat) {ci : Nat} {fs : List Value} {q9 : vw_C} (he : w[q0]? = some (b, .inr (ci, fs))) (hcl : vwCl[ci]? = some q9) (hq : q9.1 = Cn) (hn : As.length = n) (hst : st = As.reverse ++ .ref b :: rest) (hcat : (rest.map fun v => v.category).sum ≤ 8) (hdg : decode cc pc = .ok (.invokevirtual idx, 3))
    (kk : ∀ (H : Heap) (locs : List Loc), Hw D w' A s.heap H locs → nrw rt r → W p l e R s m args below meth c H locs cells slots Q (F0 m (pc + 3) ls (.int r :: rest))) : W p l e R s m args below meth c H locs cells slots Q (F0 m pc ls st) := by
  obtain ⟨hx, hb, hr, hml, hown, hlocks, htB, hK, hN, hA⟩ := id C
  subst hst
  subst hC
  refine va_calli (va_runVN (As := As) (rest := rest) (Ts := wsL_law) ⟨hx, hb, hml, hown, htB⟩ (hc H.size) ⟨va_cnB n htB (wsM_in h5) rfl rfl rfl (hN.2 _ h1) (htB _ h4) hd hk, htB _ h2, htB _ h3⟩ ⟨StW_calling, hq ▸ va_recv hK hw.1 hcl he, StW_start C hw (.ref b :: As)⟩ rfl hn hl.1 rfl (lv_room hcat) hdg hm) hw.2.2 (fun q _ h => Hw_free C hw q h) (Hw_free C hw) (fun r' u t H1 locs1 ht hvm hp hB hz hk1 hS => ?_)
  obtain ⟨rfl, hn'⟩ := hp
  exact kk H1 locs1 (Hw_back C hw ht hB hS) hn'
theorem n_cVNV (C : Cx p s m args meth c own cc maxL ret D cI A) (hw : Hw D w A s.heap H locs) (hl : lv_has ls maxL lv) (hc : CtV l y bytes mL k D cI w w' (.ref b :: As)) (hk : (RM k).frames + 1 ≤ R.frames ∧ 8 + (mL + 11) + (RM k).locals ≤ R.locals) (hm : cells ≤ R.cells ∧ slots ≤ R.slots) (h1 : (own, idx, y, host) ∈ nestM) (h2 : Cond.instanceMethod y ∈ wsL_law) (h3 : Cond.selects Cn y y ∈ wsL_law) (h4 : Cond.initialized y.cls ∈ wsL_law) (h5 : Cond.code y bytes mL none ∈ wsL_law) (hd : y.cls ≠ "java/lang/invoke/MethodHandle" ∧ y.cls ≠ "java/lang/invoke/VarHandle" ∧ (parseMethodDescriptor y.desc).map (fun d => d.parameters.length) = some n) (hC : y.cls = Cn) (q0 : Nat) {ci : Nat} {fs : List Value} {q9 : vw_C} (he : w[q0]? = some (b, .inr (ci, fs))) (hcl : vwCl[ci]? = some q9) (hq : q9.1 = Cn) (hn : As.length = n) (hst : st = As.reverse ++ .ref b :: rest) (hcat : (rest.map fun v => v.category).sum ≤ 8) (hdg : decode cc pc = .ok (.invokevirtual idx, 3))
    (kk : ∀ (H : Heap) (locs : List Loc), Hw D w' A s.heap H locs → W p l e R s m args below meth c H locs cells slots Q (F0 m (pc + 3) ls rest)) : W p l e R s m args below meth c H locs cells slots Q (F0 m pc ls st) := by
  obtain ⟨hx, hb, hr, hml, hown, hlocks, htB, hK, hN, hA⟩ := id C
  subst hst
  subst hC
  refine va_callv (va_runVN (As := As) (rest := rest) (Ts := wsL_law) ⟨hx, hb, hml, hown, htB⟩ (hc H.size) ⟨va_cnB n htB (wsM_in h5) rfl rfl rfl (hN.2 _ h1) (htB _ h4) hd hk, htB _ h2, htB _ h3⟩ ⟨StW_calling, hq ▸ va_recv hK hw.1 hcl he, StW_start C hw (.ref b :: As)⟩ rfl hn hl.1 rfl (lv_room hcat) hdg hm) hw.2.2 (fun q _ h => Hw_free C hw q h) (Hw_free C hw) (fun u t H1 locs1 ht hvm hp hB hz hk1 hS => ?_)
  exact kk H1 locs1 (Hw_back C hw ht hB hS)
theorem n_cSI (C : Cx p s m args meth c own cc maxL ret D cI A) (hw : Hw D w A s.heap H locs) (hl : lv_has ls maxL lv) (hc : CtI l y bytes mL rt k D cI w w' As r) (hk : (RM k).frames + 1 ≤ R.frames ∧ 8 + (mL + 11) + (RM k).locals ≤ R.locals) (hm : cells ≤ R.cells ∧ slots ≤ R.slots) (h1 : Cond.methodLink own idx y ∈ wsL_law) (h2 : Cond.static y ∈ wsL_law) (h4 : Cond.initialized y.cls ∈ wsL_law) (h5 : Cond.code y bytes mL rt ∈ wsL_law) (hd : y.cls ≠ "java/lang/invoke/MethodHandle" ∧ y.cls ≠ "java/lang/invoke/VarHandle" ∧ (parseMethodDescriptor y.desc).map (fun d => d.parameters.length) = some n) (hn : As.length = n) (hst : st = As.reverse ++ rest) (hcat : (rest.map fun v => v.category).sum ≤ 8) (hdg : decode cc pc = .ok (.invokestatic idx, 3))
    (kk : ∀ (H : Heap) (locs : List Loc), Hw D w' A s.heap H locs → nrw rt r → W p l e R s m args below meth c H locs cells slots Q (F0 m (pc + 3) ls (.int r :: rest))) : W p l e R s m args below meth c H locs cells slots Q (F0 m pc ls st) := by
  obtain ⟨hx, hb, hr, hml, hown, hlocks, htB, hK, hN, hA⟩ := id C
  subst hst
  refine va_calli (va_runS (As := As) (rest := rest) (Ts := wsL_law) ⟨hx, hb, hml, hown, htB⟩ (hc H.size) (wsS_in h1 h2 h4 h5 htB hd hk) ⟨StW_calling, StW_start C hw As⟩ rfl hn hl.1 rfl (lv_room hcat) hdg hm) hw.2.2 (fun q _ h => Hw_free C hw q h) (Hw_free C hw) (fun r' u t H1 locs1 ht hvm hp hB hz hk1 hS => ?_)
  obtain ⟨rfl, hn'⟩ := hp
  exact kk H1 locs1 (Hw_back C hw ht hB hS) hn'
theorem n_cSV (C : Cx p s m args meth c own cc maxL ret D cI A) (hw : Hw D w A s.heap H locs) (hl : lv_has ls maxL lv) (hc : CtV l y bytes mL k D cI w w' As) (hk : (RM k).frames + 1 ≤ R.frames ∧ 8 + (mL + 11) + (RM k).locals ≤ R.locals) (hm : cells ≤ R.cells ∧ slots ≤ R.slots) (h1 : Cond.methodLink own idx y ∈ wsL_law) (h2 : Cond.static y ∈ wsL_law) (h4 : Cond.initialized y.cls ∈ wsL_law) (h5 : Cond.code y bytes mL none ∈ wsL_law) (hd : y.cls ≠ "java/lang/invoke/MethodHandle" ∧ y.cls ≠ "java/lang/invoke/VarHandle" ∧ (parseMethodDescriptor y.desc).map (fun d => d.parameters.length) = some n) (hn : As.length = n) (hst : st = As.reverse ++ rest) (hcat : (rest.map fun v => v.category).sum ≤ 8) (hdg : decode cc pc = .ok (.invokestatic idx, 3))
    (kk : ∀ (H : Heap) (locs : List Loc), Hw D w' A s.heap H locs → W p l e R s m args below meth c H locs cells slots Q (F0 m (pc + 3) ls rest)) : W p l e R s m args below meth c H locs cells slots Q (F0 m pc ls st) := by
  obtain ⟨hx, hb, hr, hml, hown, hlocks, htB, hK, hN, hA⟩ := id C
  subst hst
  refine va_callv (va_runS (As := As) (rest := rest) (Ts := wsL_law) ⟨hx, hb, hml, hown, htB⟩ (hc H.size) (wsS_in h1 h2 h4 h5 htB hd hk) ⟨StW_calling, StW_start C hw As⟩ rfl hn hl.1 rfl (lv_room hcat) hdg hm) hw.2.2 (fun q _ h => Hw_free C hw q h) (Hw_free C hw) (fun u t H1 locs1 ht hvm hp hB hz hk1 hS => ?_)
  exact kk H1 locs1 (Hw_back C hw ht hB hS)
theorem n_cSNI (C : Cx p s m args meth c own cc maxL ret D cI A) (hw : Hw D w A s.heap H locs) (hl : lv_has ls maxL lv) (hc : CtI l y bytes mL rt k D cI w w' As r) (hk : (RM k).frames + 1 ≤ R.frames ∧ 8 + (mL + 11) + (RM k).locals ≤ R.locals) (hm : cells ≤ R.cells ∧ slots ≤ R.slots) (h1 : (own, idx, y, host) ∈ nestM) (h2 : Cond.static y ∈ wsL_law) (h4 : Cond.initialized y.cls ∈ wsL_law) (h5 : Cond.code y bytes mL rt ∈ wsL_law) (hd : y.cls ≠ "java/lang/invoke/MethodHandle" ∧ y.cls ≠ "java/lang/invoke/VarHandle" ∧ (parseMethodDescriptor y.desc).map (fun d => d.parameters.length) = some n) (hn : As.length = n) (hst : st = As.reverse ++ rest) (hcat : (rest.map fun v => v.category).sum ≤ 8) (hdg : decode cc pc = .ok (.invokestatic idx, 3))
    (kk : ∀ (H : Heap) (locs : List Loc), Hw D w' A s.heap H locs → nrw rt r → W p l e R s m args below meth c H locs cells slots Q (F0 m (pc + 3) ls (.int r :: rest))) : W p l e R s m args below meth c H locs cells slots Q (F0 m pc ls st) := by
  obtain ⟨hx, hb, hr, hml, hown, hlocks, htB, hK, hN, hA⟩ := id C
  subst hst
  refine va_calli (va_runSN (As := As) (rest := rest) (Ts := wsL_law) ⟨hx, hb, hml, hown, htB⟩ (hc H.size) ⟨va_cnB n htB (wsM_in h5) rfl rfl rfl (hN.2 _ h1) (htB _ h4) hd hk, htB _ h2, trivial⟩ ⟨StW_calling, StW_start C hw As⟩ rfl hn hl.1 rfl (lv_room hcat) hdg hm) hw.2.2 (fun q _ h => Hw_free C hw q h) (Hw_free C hw) (fun r' u t H1 locs1 ht hvm hp hB hz hk1 hS => ?_)
  obtain ⟨rfl, hn'⟩ := hp
  exact kk H1 locs1 (Hw_back C hw ht hB hS) hn'
theorem n_cSNV (C : Cx p s m args meth c own cc maxL ret D cI A) (hw : Hw D w A s.heap H locs) (hl : lv_has ls maxL lv) (hc : CtV l y bytes mL k D cI w w' As) (hk : (RM k).frames + 1 ≤ R.frames ∧ 8 + (mL + 11) + (RM k).locals ≤ R.locals) (hm : cells ≤ R.cells ∧ slots ≤ R.slots) (h1 : (own, idx, y, host) ∈ nestM) (h2 : Cond.static y ∈ wsL_law) (h4 : Cond.initialized y.cls ∈ wsL_law) (h5 : Cond.code y bytes mL none ∈ wsL_law) (hd : y.cls ≠ "java/lang/invoke/MethodHandle" ∧ y.cls ≠ "java/lang/invoke/VarHandle" ∧ (parseMethodDescriptor y.desc).map (fun d => d.parameters.length) = some n) (hn : As.length = n) (hst : st = As.reverse ++ rest) (hcat : (rest.map fun v => v.category).sum ≤ 8) (hdg : decode cc pc = .ok (.invokestatic idx, 3))
    (kk : ∀ (H : Heap) (locs : List Loc), Hw D w' A s.heap H locs → W p l e R s m args below meth c H locs cells slots Q (F0 m (pc + 3) ls rest)) : W p l e R s m args below meth c H locs cells slots Q (F0 m pc ls st) := by
  obtain ⟨hx, hb, hr, hml, hown, hlocks, htB, hK, hN, hA⟩ := id C
  subst hst
  refine va_callv (va_runSN (As := As) (rest := rest) (Ts := wsL_law) ⟨hx, hb, hml, hown, htB⟩ (hc H.size) ⟨va_cnB n htB (wsM_in h5) rfl rfl rfl (hN.2 _ h1) (htB _ h4) hd hk, htB _ h2, trivial⟩ ⟨StW_calling, StW_start C hw As⟩ rfl hn hl.1 rfl (lv_room hcat) hdg hm) hw.2.2 (fun q _ h => Hw_free C hw q h) (Hw_free C hw) (fun u t H1 locs1 ht hvm hp hB hz hk1 hS => ?_)
  exact kk H1 locs1 (Hw_back C hw ht hB hS)
end NC
