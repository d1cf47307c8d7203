/-! THE LAW, over a relation of the two memories. Written by wip/whole/law.py. -/
-- ===== end of PART A; then your names; then what follows =====
/-! THE CLAIM OUT OF ONE WALK OF THE LAW'S BODY. Your part is whole_start (and what it stands on); all else here is the same for every law, but numbers. -/
def R_law : String := "OffFirstLaw"
def lw_P (b : Addr) (xs : List Int32) (args : Array Value) (s : State) : Prop := args = #[.ref b] ∧ s.IntsAt b xs ∧ xs.length ≤ 256 ∧ (Jvm.Cond.and given_1 narrow_1).before args s = true
def lw_Q (_ : Array Value) (s : State) (o : Outcome) (t : State) : Prop := o = .returned (some (.int 1)) ∧ Framed s o t [] 600000 7302250
def lw_Z (below : List Frame) (a : Array Value) (s : State) : State → Prop := fun t => ∃ o, t.status = .running ∧ Ended t below o ∧ lw_Q a s o t
/-- the law's own end, with 1 on the stack, nothing written that was there before, its room as the claim has it -/
theorem lw_ret {p : Program} {l : Launch} {e : Env} {s : State} {m : MethodId} {below : List Frame} {meth : Method} {c : Code} {b : Nat} (hx : p.tables.exec = Jvm.exec) (hb : c.code = code) (hr : meth.sig.returnType = ret) (hlocks : meth.locks = false) {pc : Nat} {H : Heap} {ls : Array Slot} (hdg : decode code pc = .ok (.ireturn, 1)) : W p l e room_1 s m #[Value.ref b] below meth c H [] 600000 7302250 (lw_Z below #[Value.ref b] s) (F0 m pc ls [.int 1]) := by
  intro T hT X
  obtain ⟨fs, hret, hrun, hended, hW, hframe⟩ := X.leave (v := some (.int 1)) (hlocks := hlocks) (fun h => by rw [hr] at h; cases h)
  have hmeth' : T.vm.method? m = some meth := X.method'
  refine ⟨T.setFrames fs, ?_, .returned (some (.int 1)), hrun, hended, rfl, ⟨_, rfl⟩, hW, hframe⟩
  jvm_step X.here [X.here.top, hx, hb, hdg, hmeth', hr, ret, narrow_b1]
  (try refine ⟨rfl, ?_⟩); (try refine ⟨rfl, ?_⟩)
  first | (intro acts; rw [hret _ acts rfl rfl rfl]) | rw [hret _ _ rfl rfl rfl]
  exact Steps.refl _
/-- what holds at the law's entry: the machine, the code, the tables' words (any of lw_tbl by 'hts w (by decide +kernel)'), the script of L ints xs at the cell b, what the Statement gives of the start (any of its parts by flat_of_before) -/
def lw_At (p : Program) (s : State) (m : MethodId) (meth : Method) (c : Code) (b L : Nat) (xs : Nat → Int32) : Prop :=
  p.tables.exec = Jvm.exec ∧ c.code = code ∧ meth.sig.returnType = ret ∧ c.maxLocals = 4 ∧ s.vm.findClass R_law = some m.cls ∧ (∀ w ∈ lw_tbl, w.before #[Value.ref b] s = true) ∧ va_X b L xs s s.heap ∧ b < s.heap.size ∧ meth.locks = false ∧ (Jvm.Cond.and given_1 narrow_1).before #[Value.ref b] s = true
def Ok_write (Rel : Mm → Mm → Prop) (N : Nat) : Prop := ∀ (a1 : Int32) (a2 : Int64) (MX MR : Mm), Rel MX MR → ∃ (r : Int32) (MX1 : Mm) (MR1 : Mm), sOff_write N a1 a2 MX = some (r, MX1) ∧ sRef_write N a1 a2 MR = some (r, MR1) ∧ Rel MX1 MR1
def Ok_wipe (Rel : Mm → Mm → Prop) (N : Nat) : Prop := ∀ (MX MR : Mm), Rel MX MR → ∃ (r : Int32) (MX1 : Mm) (MR1 : Mm), sOff_wipe MX = some (r, MX1) ∧ sRef_wipe MR = some (r, MR1) ∧ Rel MX1 MR1
def Ok_fault (Rel : Mm → Mm → Prop) (N : Nat) : Prop := ∀ (MX MR : Mm), Rel MX MR → ∃ (r : Int32) (MX1 : Mm) (MR1 : Mm), sOff_fault N MX = some (r, MX1) ∧ sRef_fault N MR = some (r, MR1) ∧ Rel MX1 MR1
def Ok_lay (Rel : Mm → Mm → Prop) (N : Nat) : Prop := ∀ (MX MR : Mm), Rel MX MR → ∃ (r : Int32) (MX1 : Mm) (MR1 : Mm), sOff_lay N MX = some (r, MX1) ∧ sRef_lay N MR = some (r, MR1) ∧ Rel MX1 MR1
def Ok_food (Rel : Mm → Mm → Prop) (N : Nat) : Prop := ∀ (a1 : Int32) (a2 : Int32) (MX MR : Mm), Rel MX MR → ∃ (r : Int32), sOff_food a1 a2 MX = some r ∧ sRef_food a1 a2 MR = some r ∧ Rel MX MR
def Ok_warmth (Rel : Mm → Mm → Prop) (N : Nat) : Prop := ∀ (a1 : Int32) (a2 : Int32) (MX MR : Mm), Rel MX MR → ∃ (r : Int32), sOff_warmth a1 a2 MX = some r ∧ sRef_warmth a1 a2 MR = some r ∧ Rel MX MR
def Ok_hours (Rel : Mm → Mm → Prop) (N : Nat) : Prop := ∀ (a1 : Int32) (MX MR : Mm), Rel MX MR → ∃ (r : Int32) (MX1 : Mm) (MR1 : Mm), sOff_hours N a1 MX = some (r, MX1) ∧ sRef_hours N a1 MR = some (r, MR1) ∧ Rel MX1 MR1
def Ok_move (Rel : Mm → Mm → Prop) (N : Nat) : Prop := ∀ (a1 : Int32) (a2 : Int32) (MX MR : Mm), Rel MX MR → ∃ (r : Int32) (MX1 : Mm) (MR1 : Mm), sOff_move N a1 a2 MX = some (r, MX1) ∧ sRef_move N a1 a2 MR = some (r, MR1) ∧ Rel MX1 MR1
def Ok_make (Rel : Mm → Mm → Prop) (N : Nat) : Prop := ∀ (a1 : Int32) (a2 : Int32) (MX MR : Mm), Rel MX MR → ∃ (r : Int32) (MX1 : Mm) (MR1 : Mm), sOff_make a1 a2 MX = some (r, MX1) ∧ sRef_make a1 a2 MR = some (r, MR1) ∧ Rel MX1 MR1
def Ok_eat (Rel : Mm → Mm → Prop) (N : Nat) : Prop := ∀ (a1 : Int32) (MX MR : Mm), Rel MX MR → ∃ (r : Int32) (MX1 : Mm) (MR1 : Mm), sOff_eat a1 MX = some (r, MX1) ∧ sRef_eat a1 MR = some (r, MR1) ∧ Rel MX1 MR1
def Ok_throwOut (Rel : Mm → Mm → Prop) (N : Nat) : Prop := ∀ (a1 : Int32) (MX MR : Mm), Rel MX MR → ∃ (r : Int32) (MX1 : Mm) (MR1 : Mm), sOff_throwOut a1 MX = some (r, MX1) ∧ sRef_throwOut a1 MR = some (r, MR1) ∧ Rel MX1 MR1
def Ok_offIn (Rel : Mm → Mm → Prop) (N : Nat) : Prop := ∀ (a1 : Int32) (a2 : Int32) (MX MR : Mm), Rel MX MR → ∃ (r : Int32), sOff_offIn N a1 a2 MX = some r ∧ sRef_offIn N a1 a2 MR = some r ∧ Rel MX MR
def Ok_lost (Rel : Mm → Mm → Prop) (N : Nat) : Prop := ∀ (a1 : Int32) (MX MR : Mm), Rel MX MR → ∃ (r : Int32) (MR1 : Mm), sOff_lost N a1 MX = some r ∧ sRef_lost N a1 MR = some (r, MR1) ∧ Rel MX MR1
def Ok_plan (Rel : Mm → Mm → Prop) (N : Nat) : Prop := ∀ (a1 : Int32) (a2 : Int32) (MX MR : Mm), Rel MX MR → ∃ (r : Int32) (MX1 : Mm) (MR1 : Mm), sOff_plan N a1 a2 MX = some (r, MX1) ∧ sRef_plan N a1 a2 MR = some (r, MR1) ∧ Rel MX1 MR1
def Ok_freeze (Rel : Mm → Mm → Prop) (N : Nat) : Prop := ∀ (a1 : Int32) (a2 : Int32) (MX MR : Mm), Rel MX MR → ∃ (r : Int32) (MR1 : Mm), sOff_freeze N a1 a2 MX = some r ∧ sRef_freeze N a1 a2 MR = some (r, MR1) ∧ Rel MX MR1
def Ok_lie (Rel : Mm → Mm → Prop) (N : Nat) : Prop := ∀ (a1 : Int32) (a2 : Int32) (a3 : Int32) (MX MR : Mm), Rel MX MR → ∃ (r : Int32) (MX1 : Mm) (MR1 : Mm), sOff_lie N a1 a2 a3 MX = some (r, MX1) ∧ sRef_lie N a1 a2 a3 MR = some (r, MR1) ∧ Rel MX1 MR1
def Ok_expect (Rel : Mm → Mm → Prop) (N : Nat) : Prop := ∀ (a1 : Int32) (MX MR : Mm), Rel MX MR → ∃ (r : Int32), sOff_expect N a1 MX = some r ∧ sRef_expect N a1 MR = some r ∧ Rel MX MR
def Ok_buy (Rel : Mm → Mm → Prop) (N : Nat) : Prop := ∀ (MX MR : Mm), Rel MX MR → ∃ (r : Int32), sOff_buy N MX = some r ∧ sRef_buy N MR = some r ∧ Rel MX MR
def Ok_print (Rel : Mm → Mm → Prop) (N : Nat) : Prop := ∀ (a1 : Int32) (MX MR : Mm), Rel MX MR → ∃ (r : Int32), sOff_print N a1 MX = some r ∧ sRef_print N a1 MR = some r ∧ Rel MX MR
def Ok_smell (Rel : Mm → Mm → Prop) (N : Nat) : Prop := ∀ (a1 : Int32) (MX MR : Mm), Rel MX MR → ∃ (r : Int32), sOff_smell N a1 MX = some r ∧ sRef_smell N a1 MR = some r ∧ Rel MX MR
def Ok_line (Rel : Mm → Mm → Prop) (N : Nat) : Prop := ∀ (MX MR : Mm), Rel MX MR → ∃ (r : Int32), sOff_line N MX = some r ∧ sRef_line N MR = some r ∧ Rel MX MR
def Ok_cut (Rel : Mm → Mm → Prop) (N : Nat) : Prop := ∀ (a1 : Int32) (a2 : Int32) (MX MR : Mm), (a2 = 0 ∨ a2 = 1) → Rel MX MR → ∃ (r : Int32) (MR1 : Mm), sOff_cut N a1 a2 MX = some r ∧ sRef_cut N a1 a2 MR = some (r, MR1) ∧ Rel MX MR1
def Ok_ill (Rel : Mm → Mm → Prop) (N : Nat) : Prop := ∀ (a1 : Int32) (a2 : Int32) (MX MR : Mm), Rel MX MR → ∃ (r : Int32), sOff_ill N a1 a2 MX = some r ∧ sRef_ill N a1 a2 MR = some r ∧ Rel MX MR
def Ok_span (Rel : Mm → Mm → Prop) (N : Nat) : Prop := ∀ (a1 : Int32) (a2 : Int32) (MX MR : Mm), Rel MX MR → ∃ (r : Int32) (MX1 : Mm) (MR1 : Mm), sOff_span a1 a2 MX = some (r, MX1) ∧ sRef_span a1 a2 MR = some (r, MR1) ∧ Rel MX1 MR1
def Ok_noSpans (Rel : Mm → Mm → Prop) (N : Nat) : Prop := ∀ (MX MR : Mm), Rel MX MR → ∃ (r : Int32) (MX1 : Mm) (MR1 : Mm), sOff_noSpans MX = some (r, MX1) ∧ sRef_noSpans MR = some (r, MR1) ∧ Rel MX1 MR1
def Ok_law (Rel : Mm → Mm → Prop) (N : Nat) : Prop := ∀ (a1 : Int32) (MX MR : Mm), Rel MX MR → ∃ (r : Int32), sOff_law N a1 MX = some r ∧ sRef_law N a1 MR = some r ∧ Rel MX MR
def Ok_habit (Rel : Mm → Mm → Prop) (N : Nat) : Prop := ∀ (a1 : Int32) (a2 : Int32) (a3 : Int32) (MX MR : Mm), Rel MX MR → ∃ (r : Int32) (MX1 : Mm) (MR1 : Mm), sOff_habit N a1 a2 a3 MX = some (r, MX1) ∧ sRef_habit N a1 a2 a3 MR = some (r, MR1) ∧ Rel MX1 MR1
def Ok_keep (Rel : Mm → Mm → Prop) (N : Nat) : Prop := ∀ (MX MR : Mm), Rel MX MR → ∃ (r : Int32) (MX1 : Mm) (MR1 : Mm), sOff_keep N MX = some (r, MX1) ∧ sRef_keep N MR = some (r, MR1) ∧ Rel MX1 MR1
def Ok_back (Rel : Mm → Mm → Prop) (N : Nat) : Prop := ∀ (MX MR : Mm), Rel MX MR → ∃ (r : Int32) (MX1 : Mm) (MR1 : Mm), sOff_back N MX = some (r, MX1) ∧ sRef_back N MR = some (r, MR1) ∧ Rel MX1 MR1
def Ok_count (Rel : Mm → Mm → Prop) (N : Nat) : Prop := ∀ (a1 : Int32) (MX MR : Mm), Rel MX MR → ∃ (r : Int32), sOff_count N a1 MX = some r ∧ sRef_count N a1 MR = some r ∧ Rel MX MR
/-- what the pure part owes -/
def OpsOk (Rel : Mm → Mm → Prop) (N : Nat) : Prop := Ok_write Rel N ∧ Ok_wipe Rel N ∧ Ok_fault Rel N ∧ Ok_lay Rel N ∧ Ok_food Rel N ∧ Ok_warmth Rel N ∧ Ok_hours Rel N ∧ Ok_move Rel N ∧ Ok_make Rel N ∧ Ok_eat Rel N ∧ Ok_throwOut Rel N ∧ Ok_offIn Rel N ∧ Ok_lost Rel N ∧ Ok_plan Rel N ∧ Ok_freeze Rel N ∧ Ok_lie Rel N ∧ Ok_expect Rel N ∧ Ok_buy Rel N ∧ Ok_print Rel N ∧ Ok_smell Rel N ∧ Ok_line Rel N ∧ Ok_cut Rel N ∧ Ok_ill Rel N ∧ Ok_span Rel N ∧ Ok_noSpans Rel N ∧ Ok_law Rel N ∧ Ok_habit Rel N ∧ Ok_keep Rel N ∧ Ok_back Rel N ∧ Ok_count Rel N
section LR
variable {p : Program} {l : Launch} {e : Env} {R : Room} {s : State} {m : MethodId} {args : Array Value} {below : List Frame} {meth : Method} {c : Code} {H : Heap} {locs : List Loc} {cells slots : Nat} {Q : State → Prop}
variable {cc : ByteArray} {pc : Nat} {ls : Array Slot} {rest st As : List Value} {D : va_G} {cI : ClassId} {A : Nat → Prop} {b : Nat} {own Cn : String} {maxL mL k n idx : Nat} {ret rt : Option FieldType} {y : MethodName} {bytes : ByteArray} {r : Int32} {lv : List (Nat × Value)}
theorem l_cL (C : Cx p s m args meth c own cc maxL ret D cI A) {wx wr wx' : va_W} (hw : Hw D (wx ++ wr) A s.heap H locs) (hl : lv_has ls maxL lv) (hc : CtI l y bytes mL rt k D cI wx wx' (.ref b :: As) r) (hr : (RM k).frames + 1 ≤ R.frames ∧ 8 + (mL + 11) + (RM k).locals ≤ R.locals) (hm : cells ≤ R.cells ∧ slots ≤ R.slots) (h1 : Cond.methodLink own idx y ∈ wsL_law) (h2 : Cond.instanceMethod y ∈ wsL_law) (h3 : Cond.selects Cn y y ∈ wsL_law) (h4 : Cond.initialized y.cls ∈ wsL_law) (h5 : Cond.code y bytes mL rt ∈ wsL_law) (hd : y.cls ≠ "java/lang/invoke/MethodHandle" ∧ y.cls ≠ "java/lang/invoke/VarHandle" ∧ (parseMethodDescriptor y.desc).map (fun d => d.parameters.length) = some n) (hC : y.cls = Cn) {ci : Nat} {fs : List Value} {q9 : vw_C} (he : wx[0]? = some (b, .inr (ci, fs))) (hcl : vwCl[ci]? = some q9) (hq : q9.1 = Cn) (hn : As.length = n) (hst : st = As.reverse ++ .ref b :: rest) (hcat : (rest.map fun v => v.category).sum ≤ 8) (hdg : decode cc pc = .ok (.invokevirtual idx, 3))
    (kk : ∀ (H : Heap) (locs : List Loc), Hw D (wx' ++ wr) A s.heap H locs → W p l e R s m args below meth c H locs cells slots Q (F0 m (pc + 3) ls (.int r :: rest))) : W p l e R s m args below meth c H locs cells slots Q (F0 m pc ls st) := by
  obtain ⟨hx, hb, hr0, hml, hown, hlocks, htB, hK, hN, hA⟩ := id C
  subst hst
  subst hC
  have hF : ∀ q, va_A wx H.size q → A q := fun q h => by
    rcases h with ⟨k, e, h⟩ | h
    · exact (D_left hw.2.1).2 k _ h
    · exact hA q (Nat.le_trans hw.2.2.1 h)
  have hst0 : ∀ U : State, U.heap = H → s.WarmedH U.vm → va_Pc (.ref b :: As) (StW D cI wx H.size) (Value.ref b :: As).toArray U := fun U hU hW =>
    ⟨rfl, by rw [hU], by rw [hU]; exact P_left hw.1, va_K.moved hW.alike hK, (D_left hw.2.1).weaken (fun _ _ _ _ => trivial), hN.warm hW⟩
  refine va_calli (va_runV (As := As) (rest := rest) (Ts := wsL_law) ⟨hx, hb, hml, hown, htB⟩ (hc H.size) (cwV n htB (wsV_in h1 h2 h3 h4 h5) rfl rfl rfl ⟨rfl, hd⟩ hr) ⟨StW_calling, hq ▸ va_recv hK (P_left hw.1) hcl he, hst0⟩ rfl hn hl.1 rfl (lv_room hcat) hdg hm) hw.2.2 (fun q _ h => hF q h) hF (fun r' u t H1 locs1 ht hvm hp hB hz hk1 hS => ?_)
  obtain ⟨rfl, hn'⟩ := hp
  obtain ⟨x1, x2⟩ := PD_left hw.1 hw.2.1 hk1 hF (by rw [← ht]; exact hB.1) hB.2.2
  exact kk H1 locs1 ⟨x1, x2, hS⟩
theorem l_cR (C : Cx p s m args meth c own cc maxL ret D cI A) {wx wr wr' : va_W} (hw : Hw D (wx ++ wr) A s.heap H locs) (hl : lv_has ls maxL lv) (hc : CtI l y bytes mL rt k D cI wr wr' (.ref b :: As) r) (hr : (RM k).frames + 1 ≤ R.frames ∧ 8 + (mL + 11) + (RM k).locals ≤ R.locals) (hm : cells ≤ R.cells ∧ slots ≤ R.slots) (h1 : Cond.methodLink own idx y ∈ wsL_law) (h2 : Cond.instanceMethod y ∈ wsL_law) (h3 : Cond.selects Cn y y ∈ wsL_law) (h4 : Cond.initialized y.cls ∈ wsL_law) (h5 : Cond.code y bytes mL rt ∈ wsL_law) (hd : y.cls ≠ "java/lang/invoke/MethodHandle" ∧ y.cls ≠ "java/lang/invoke/VarHandle" ∧ (parseMethodDescriptor y.desc).map (fun d => d.parameters.length) = some n) (hC : y.cls = Cn) {ci : Nat} {fs : List Value} {q9 : vw_C} (he : wr[0]? = some (b, .inr (ci, fs))) (hcl : vwCl[ci]? = some q9) (hq : q9.1 = Cn) (hn : As.length = n) (hst : st = As.reverse ++ .ref b :: rest) (hcat : (rest.map fun v => v.category).sum ≤ 8) (hdg : decode cc pc = .ok (.invokevirtual idx, 3))
    (kk : ∀ (H : Heap) (locs : List Loc), Hw D (wx ++ wr') A s.heap H locs → W p l e R s m args below meth c H locs cells slots Q (F0 m (pc + 3) ls (.int r :: rest))) : W p l e R s m args below meth c H locs cells slots Q (F0 m pc ls st) := by
  obtain ⟨hx, hb, hr0, hml, hown, hlocks, htB, hK, hN, hA⟩ := id C
  subst hst
  subst hC
  have hF : ∀ q, va_A wr H.size q → A q := fun q h => by
    rcases h with ⟨k, e, h⟩ | h
    · exact (D_right hw.2.1).2 k _ h
    · exact hA q (Nat.le_trans hw.2.2.1 h)
  have hst0 : ∀ U : State, U.heap = H → s.WarmedH U.vm → va_Pc (.ref b :: As) (StW D cI wr H.size) (Value.ref b :: As).toArray U := fun U hU hW =>
    ⟨rfl, by rw [hU], by rw [hU]; exact P_right hw.1, va_K.moved hW.alike hK, (D_right hw.2.1).weaken (fun _ _ _ _ => trivial), hN.warm hW⟩
  refine va_calli (va_runV (As := As) (rest := rest) (Ts := wsL_law) ⟨hx, hb, hml, hown, htB⟩ (hc H.size) (cwV n htB (wsV_in h1 h2 h3 h4 h5) rfl rfl rfl ⟨rfl, hd⟩ hr) ⟨StW_calling, hq ▸ va_recv hK (P_right hw.1) hcl he, hst0⟩ rfl hn hl.1 rfl (lv_room hcat) hdg hm) hw.2.2 (fun q _ h => hF q h) hF (fun r' u t H1 locs1 ht hvm hp hB hz hk1 hS => ?_)
  obtain ⟨rfl, hn'⟩ := hp
  obtain ⟨x1, x2⟩ := PD_right hw.1 hw.2.1 hk1 hF (by rw [← ht]; exact hB.1) hB.2.2
  exact kk H1 locs1 ⟨x1, x2, hS⟩
end LR
theorem law_bound {L i : Nat} (hL : L ≤ 256) (hi : i ≤ L) (h : ¬ nI L - 4 < nI i) : i + 4 ≤ L := by
  rw [Int32.lt_iff_toInt_lt, nI_toInt (by omega)] at h
  have e : (nI L - 4).toInt = (L : Int) - 4 := pk_sub_toInt (a := L) (b := 4) (by omega) (by omega)
  rw [e] at h
  omega
theorem kw_10_10 : Cond.code yX12_write cX12_write 5 (some .int) ∈ wsL_law := kr_10 _ (List.mem_of_getElem? (i := 10) rfl)
theorem kw_10_17 : Cond.methodLink RL 20 yX11_wipe ∈ wsL_law := kr_10 _ (List.mem_of_getElem? (i := 17) rfl)
theorem kw_10_18 : Cond.instanceMethod yX11_wipe ∈ wsL_law := kr_10 _ (List.mem_of_getElem? (i := 18) rfl)
theorem kw_10_19 : Cond.selects RX11 yX11_wipe yX11_wipe ∈ wsL_law := kr_10 _ (List.mem_of_getElem? (i := 19) rfl)
theorem kw_10_20 : Cond.code yX11_wipe cX11_wipe 2 (some .int) ∈ wsL_law := kr_10 _ (List.mem_of_getElem? (i := 20) rfl)
theorem kw_10_21 : Cond.methodLink RL 24 yX12_wipe ∈ wsL_law := kr_10 _ (List.mem_of_getElem? (i := 21) rfl)
theorem kw_10_22 : Cond.instanceMethod yX12_wipe ∈ wsL_law := kr_10 _ (List.mem_of_getElem? (i := 22) rfl)
theorem kw_10_23 : Cond.selects RX12 yX12_wipe yX12_wipe ∈ wsL_law := kr_10 _ (List.mem_of_getElem? (i := 23) rfl)
theorem kw_10_7 : Cond.methodLink RL 19 yX12_write ∈ wsL_law := kr_10 _ (List.mem_of_getElem? (i := 7) rfl)
theorem kw_10_8 : Cond.instanceMethod yX12_write ∈ wsL_law := kr_10 _ (List.mem_of_getElem? (i := 8) rfl)
theorem kw_10_9 : Cond.selects RX12 yX12_write yX12_write ∈ wsL_law := kr_10 _ (List.mem_of_getElem? (i := 9) rfl)
theorem kw_11_0 : Cond.code yX12_wipe cX12_wipe 2 (some .int) ∈ wsL_law := kr_11 _ (List.mem_of_getElem? (i := 0) rfl)
theorem kw_11_1 : Cond.methodLink RL 25 yX11_fault ∈ wsL_law := kr_11 _ (List.mem_of_getElem? (i := 1) rfl)
theorem kw_11_2 : Cond.instanceMethod yX11_fault ∈ wsL_law := kr_11 _ (List.mem_of_getElem? (i := 2) rfl)
theorem kw_11_3 : Cond.selects RX11 yX11_fault yX11_fault ∈ wsL_law := kr_11 _ (List.mem_of_getElem? (i := 3) rfl)
theorem kw_11_4 : Cond.code yX11_fault cX11_fault 1 (some .int) ∈ wsL_law := kr_11 _ (List.mem_of_getElem? (i := 4) rfl)
theorem kw_15_10 : Cond.instanceMethod yX12_fault ∈ wsL_law := kr_15 _ (List.mem_of_getElem? (i := 10) rfl)
theorem kw_15_11 : Cond.selects RX12 yX12_fault yX12_fault ∈ wsL_law := kr_15 _ (List.mem_of_getElem? (i := 11) rfl)
theorem kw_15_12 : Cond.code yX12_fault cX12_fault 1 (some .int) ∈ wsL_law := kr_15 _ (List.mem_of_getElem? (i := 12) rfl)
theorem kw_15_9 : Cond.methodLink RL 28 yX12_fault ∈ wsL_law := kr_15 _ (List.mem_of_getElem? (i := 9) rfl)
theorem kw_16_22 : Cond.methodLink RL 29 yX11_lay ∈ wsL_law := kr_16 _ (List.mem_of_getElem? (i := 22) rfl)
theorem kw_16_23 : Cond.instanceMethod yX11_lay ∈ wsL_law := kr_16 _ (List.mem_of_getElem? (i := 23) rfl)
theorem kw_17_0 : Cond.selects RX11 yX11_lay yX11_lay ∈ wsL_law := kr_17 _ (List.mem_of_getElem? (i := 0) rfl)
theorem kw_17_1 : Cond.code yX11_lay cX11_lay 1 (some .int) ∈ wsL_law := kr_17 _ (List.mem_of_getElem? (i := 1) rfl)
theorem kw_17_15 : Cond.methodLink RL 32 yX12_lay ∈ wsL_law := kr_17 _ (List.mem_of_getElem? (i := 15) rfl)
theorem kw_17_16 : Cond.instanceMethod yX12_lay ∈ wsL_law := kr_17 _ (List.mem_of_getElem? (i := 16) rfl)
theorem kw_17_17 : Cond.selects RX12 yX12_lay yX12_lay ∈ wsL_law := kr_17 _ (List.mem_of_getElem? (i := 17) rfl)
theorem kw_17_18 : Cond.code yX12_lay cX12_lay 2 (some .int) ∈ wsL_law := kr_17 _ (List.mem_of_getElem? (i := 18) rfl)
theorem kw_17_23 : Cond.methodLink RL 33 yX11_food ∈ wsL_law := kr_17 _ (List.mem_of_getElem? (i := 23) rfl)
theorem kw_18_0 : Cond.instanceMethod yX11_food ∈ wsL_law := kr_18 _ (List.mem_of_getElem? (i := 0) rfl)
theorem kw_18_1 : Cond.selects RX11 yX11_food yX11_food ∈ wsL_law := kr_18 _ (List.mem_of_getElem? (i := 1) rfl)
theorem kw_18_2 : Cond.code yX11_food cX11_food 3 (some .int) ∈ wsL_law := kr_18 _ (List.mem_of_getElem? (i := 2) rfl)
theorem kw_19_18 : Cond.methodLink RL 37 yX12_food ∈ wsL_law := kr_19 _ (List.mem_of_getElem? (i := 18) rfl)
theorem kw_19_19 : Cond.instanceMethod yX12_food ∈ wsL_law := kr_19 _ (List.mem_of_getElem? (i := 19) rfl)
theorem kw_19_20 : Cond.selects RX12 yX12_food yX12_food ∈ wsL_law := kr_19 _ (List.mem_of_getElem? (i := 20) rfl)
theorem kw_19_21 : Cond.code yX12_food cX12_food 3 (some .int) ∈ wsL_law := kr_19 _ (List.mem_of_getElem? (i := 21) rfl)
theorem kw_1_0 : Cond.classLink RL 7 RX11 ∈ wsL_law := kr_1 _ (List.mem_of_getElem? (i := 0) rfl)
theorem kw_1_1 : Cond.instantiable RX11 12 ∈ wsL_law := kr_1 _ (List.mem_of_getElem? (i := 1) rfl)
theorem kw_1_3 : Cond.classLink RL 10 RX12 ∈ wsL_law := kr_1 _ (List.mem_of_getElem? (i := 3) rfl)
theorem kw_1_4 : Cond.instantiable RX12 33 ∈ wsL_law := kr_1 _ (List.mem_of_getElem? (i := 4) rfl)
theorem kw_1_6 : Cond.constantLong RL 13 (4294967295) ∈ wsL_law := kr_1 _ (List.mem_of_getElem? (i := 6) rfl)
theorem kw_1_7 : Cond.methodLink RL 9 yX11_init ∈ wsL_law := kr_1 _ (List.mem_of_getElem? (i := 7) rfl)
theorem kw_1_8 : Cond.instanceMethod yX11_init ∈ wsL_law := kr_1 _ (List.mem_of_getElem? (i := 8) rfl)
theorem kw_1_9 : Cond.code yX11_init cX11_init 1 none ∈ wsL_law := kr_1 _ (List.mem_of_getElem? (i := 9) rfl)
theorem kw_20_11 : Cond.methodLink RL 38 yX11_warmth ∈ wsL_law := kr_20 _ (List.mem_of_getElem? (i := 11) rfl)
theorem kw_20_12 : Cond.instanceMethod yX11_warmth ∈ wsL_law := kr_20 _ (List.mem_of_getElem? (i := 12) rfl)
theorem kw_20_13 : Cond.selects RX11 yX11_warmth yX11_warmth ∈ wsL_law := kr_20 _ (List.mem_of_getElem? (i := 13) rfl)
theorem kw_20_14 : Cond.code yX11_warmth cX11_warmth 3 (some .int) ∈ wsL_law := kr_20 _ (List.mem_of_getElem? (i := 14) rfl)
theorem kw_21_1 : Cond.methodLink RL 41 yX12_warmth ∈ wsL_law := kr_21 _ (List.mem_of_getElem? (i := 1) rfl)
theorem kw_21_17 : Cond.methodLink RL 42 yX11_hours ∈ wsL_law := kr_21 _ (List.mem_of_getElem? (i := 17) rfl)
theorem kw_21_18 : Cond.instanceMethod yX11_hours ∈ wsL_law := kr_21 _ (List.mem_of_getElem? (i := 18) rfl)
theorem kw_21_19 : Cond.selects RX11 yX11_hours yX11_hours ∈ wsL_law := kr_21 _ (List.mem_of_getElem? (i := 19) rfl)
theorem kw_21_2 : Cond.instanceMethod yX12_warmth ∈ wsL_law := kr_21 _ (List.mem_of_getElem? (i := 2) rfl)
theorem kw_21_20 : Cond.code yX11_hours cX11_hours 2 (some .int) ∈ wsL_law := kr_21 _ (List.mem_of_getElem? (i := 20) rfl)
theorem kw_21_3 : Cond.selects RX12 yX12_warmth yX12_warmth ∈ wsL_law := kr_21 _ (List.mem_of_getElem? (i := 3) rfl)
theorem kw_21_4 : Cond.code yX12_warmth cX12_warmth 3 (some .int) ∈ wsL_law := kr_21 _ (List.mem_of_getElem? (i := 4) rfl)
theorem kw_23_13 : Cond.methodLink RL 46 yX12_hours ∈ wsL_law := kr_23 _ (List.mem_of_getElem? (i := 13) rfl)
theorem kw_23_14 : Cond.instanceMethod yX12_hours ∈ wsL_law := kr_23 _ (List.mem_of_getElem? (i := 14) rfl)
theorem kw_23_15 : Cond.selects RX12 yX12_hours yX12_hours ∈ wsL_law := kr_23 _ (List.mem_of_getElem? (i := 15) rfl)
theorem kw_23_16 : Cond.code yX12_hours cX12_hours 4 (some .int) ∈ wsL_law := kr_23 _ (List.mem_of_getElem? (i := 16) rfl)
theorem kw_24_17 : Cond.methodLink RL 50 yX12_move ∈ wsL_law := kr_24 _ (List.mem_of_getElem? (i := 17) rfl)
theorem kw_24_18 : Cond.instanceMethod yX12_move ∈ wsL_law := kr_24 _ (List.mem_of_getElem? (i := 18) rfl)
theorem kw_24_19 : Cond.selects RX12 yX12_move yX12_move ∈ wsL_law := kr_24 _ (List.mem_of_getElem? (i := 19) rfl)
theorem kw_24_2 : Cond.methodLink RL 47 yX11_move ∈ wsL_law := kr_24 _ (List.mem_of_getElem? (i := 2) rfl)
theorem kw_24_20 : Cond.code yX12_move cX12_move 3 (some .int) ∈ wsL_law := kr_24 _ (List.mem_of_getElem? (i := 20) rfl)
theorem kw_24_3 : Cond.instanceMethod yX11_move ∈ wsL_law := kr_24 _ (List.mem_of_getElem? (i := 3) rfl)
theorem kw_24_4 : Cond.selects RX11 yX11_move yX11_move ∈ wsL_law := kr_24 _ (List.mem_of_getElem? (i := 4) rfl)
theorem kw_24_5 : Cond.code yX11_move cX11_move 3 (some .int) ∈ wsL_law := kr_24 _ (List.mem_of_getElem? (i := 5) rfl)
theorem kw_25_1 : Cond.methodLink RL 51 yX11_make ∈ wsL_law := kr_25 _ (List.mem_of_getElem? (i := 1) rfl)
theorem kw_25_12 : Cond.methodLink RL 54 yX12_make ∈ wsL_law := kr_25 _ (List.mem_of_getElem? (i := 12) rfl)
theorem kw_25_13 : Cond.instanceMethod yX12_make ∈ wsL_law := kr_25 _ (List.mem_of_getElem? (i := 13) rfl)
theorem kw_25_14 : Cond.selects RX12 yX12_make yX12_make ∈ wsL_law := kr_25 _ (List.mem_of_getElem? (i := 14) rfl)
theorem kw_25_15 : Cond.code yX12_make cX12_make 5 (some .int) ∈ wsL_law := kr_25 _ (List.mem_of_getElem? (i := 15) rfl)
theorem kw_25_16 : Cond.methodLink RL 55 yX11_eat ∈ wsL_law := kr_25 _ (List.mem_of_getElem? (i := 16) rfl)
theorem kw_25_17 : Cond.instanceMethod yX11_eat ∈ wsL_law := kr_25 _ (List.mem_of_getElem? (i := 17) rfl)
theorem kw_25_18 : Cond.selects RX11 yX11_eat yX11_eat ∈ wsL_law := kr_25 _ (List.mem_of_getElem? (i := 18) rfl)
theorem kw_25_19 : Cond.code yX11_eat cX11_eat 2 (some .int) ∈ wsL_law := kr_25 _ (List.mem_of_getElem? (i := 19) rfl)
theorem kw_25_2 : Cond.instanceMethod yX11_make ∈ wsL_law := kr_25 _ (List.mem_of_getElem? (i := 2) rfl)
theorem kw_25_3 : Cond.selects RX11 yX11_make yX11_make ∈ wsL_law := kr_25 _ (List.mem_of_getElem? (i := 3) rfl)
theorem kw_25_4 : Cond.code yX11_make cX11_make 4 (some .int) ∈ wsL_law := kr_25 _ (List.mem_of_getElem? (i := 4) rfl)
theorem kw_26_12 : Cond.methodLink RL 59 yX11_throwOut ∈ wsL_law := kr_26 _ (List.mem_of_getElem? (i := 12) rfl)
theorem kw_26_13 : Cond.instanceMethod yX11_throwOut ∈ wsL_law := kr_26 _ (List.mem_of_getElem? (i := 13) rfl)
theorem kw_26_14 : Cond.selects RX11 yX11_throwOut yX11_throwOut ∈ wsL_law := kr_26 _ (List.mem_of_getElem? (i := 14) rfl)
theorem kw_26_15 : Cond.code yX11_throwOut cX11_throwOut 2 (some .int) ∈ wsL_law := kr_26 _ (List.mem_of_getElem? (i := 15) rfl)
theorem kw_26_16 : Cond.methodLink RL 62 yX12_throwOut ∈ wsL_law := kr_26 _ (List.mem_of_getElem? (i := 16) rfl)
theorem kw_26_17 : Cond.instanceMethod yX12_throwOut ∈ wsL_law := kr_26 _ (List.mem_of_getElem? (i := 17) rfl)
theorem kw_26_18 : Cond.selects RX12 yX12_throwOut yX12_throwOut ∈ wsL_law := kr_26 _ (List.mem_of_getElem? (i := 18) rfl)
theorem kw_26_19 : Cond.code yX12_throwOut cX12_throwOut 2 (some .int) ∈ wsL_law := kr_26 _ (List.mem_of_getElem? (i := 19) rfl)
theorem kw_26_20 : Cond.methodLink RL 63 yX11_offIn ∈ wsL_law := kr_26 _ (List.mem_of_getElem? (i := 20) rfl)
theorem kw_26_21 : Cond.instanceMethod yX11_offIn ∈ wsL_law := kr_26 _ (List.mem_of_getElem? (i := 21) rfl)
theorem kw_26_22 : Cond.selects RX11 yX11_offIn yX11_offIn ∈ wsL_law := kr_26 _ (List.mem_of_getElem? (i := 22) rfl)
theorem kw_26_23 : Cond.code yX11_offIn cX11_offIn 3 (some .int) ∈ wsL_law := kr_26 _ (List.mem_of_getElem? (i := 23) rfl)
theorem kw_26_4 : Cond.methodLink RL 58 yX12_eat ∈ wsL_law := kr_26 _ (List.mem_of_getElem? (i := 4) rfl)
theorem kw_26_5 : Cond.instanceMethod yX12_eat ∈ wsL_law := kr_26 _ (List.mem_of_getElem? (i := 5) rfl)
theorem kw_26_6 : Cond.selects RX12 yX12_eat yX12_eat ∈ wsL_law := kr_26 _ (List.mem_of_getElem? (i := 6) rfl)
theorem kw_26_7 : Cond.code yX12_eat cX12_eat 2 (some .int) ∈ wsL_law := kr_26 _ (List.mem_of_getElem? (i := 7) rfl)
theorem kw_27_10 : Cond.instanceMethod yX11_lost ∈ wsL_law := kr_27 _ (List.mem_of_getElem? (i := 10) rfl)
theorem kw_27_11 : Cond.selects RX11 yX11_lost yX11_lost ∈ wsL_law := kr_27 _ (List.mem_of_getElem? (i := 11) rfl)
theorem kw_27_12 : Cond.code yX11_lost cX11_lost 2 (some .int) ∈ wsL_law := kr_27 _ (List.mem_of_getElem? (i := 12) rfl)
theorem kw_27_5 : Cond.methodLink RL 66 yX12_offIn ∈ wsL_law := kr_27 _ (List.mem_of_getElem? (i := 5) rfl)
theorem kw_27_6 : Cond.instanceMethod yX12_offIn ∈ wsL_law := kr_27 _ (List.mem_of_getElem? (i := 6) rfl)
theorem kw_27_7 : Cond.selects RX12 yX12_offIn yX12_offIn ∈ wsL_law := kr_27 _ (List.mem_of_getElem? (i := 7) rfl)
theorem kw_27_8 : Cond.code yX12_offIn cX12_offIn 6 (some .int) ∈ wsL_law := kr_27 _ (List.mem_of_getElem? (i := 8) rfl)
theorem kw_27_9 : Cond.methodLink RL 67 yX11_lost ∈ wsL_law := kr_27 _ (List.mem_of_getElem? (i := 9) rfl)
theorem kw_28_1 : Cond.methodLink RL 70 yX12_lost ∈ wsL_law := kr_28 _ (List.mem_of_getElem? (i := 1) rfl)
theorem kw_28_2 : Cond.instanceMethod yX12_lost ∈ wsL_law := kr_28 _ (List.mem_of_getElem? (i := 2) rfl)
theorem kw_28_21 : Cond.methodLink RL 71 yX11_plan ∈ wsL_law := kr_28 _ (List.mem_of_getElem? (i := 21) rfl)
theorem kw_28_22 : Cond.instanceMethod yX11_plan ∈ wsL_law := kr_28 _ (List.mem_of_getElem? (i := 22) rfl)
theorem kw_28_23 : Cond.selects RX11 yX11_plan yX11_plan ∈ wsL_law := kr_28 _ (List.mem_of_getElem? (i := 23) rfl)
theorem kw_28_3 : Cond.selects RX12 yX12_lost yX12_lost ∈ wsL_law := kr_28 _ (List.mem_of_getElem? (i := 3) rfl)
theorem kw_28_4 : Cond.code yX12_lost cX12_lost 2 (some .int) ∈ wsL_law := kr_28 _ (List.mem_of_getElem? (i := 4) rfl)
theorem kw_29_0 : Cond.code yX11_plan cX11_plan 3 (some .int) ∈ wsL_law := kr_29 _ (List.mem_of_getElem? (i := 0) rfl)
theorem kw_31_23 : Cond.methodLink RL 74 yX12_plan ∈ wsL_law := kr_31 _ (List.mem_of_getElem? (i := 23) rfl)
theorem kw_32_0 : Cond.instanceMethod yX12_plan ∈ wsL_law := kr_32 _ (List.mem_of_getElem? (i := 0) rfl)
theorem kw_32_1 : Cond.selects RX12 yX12_plan yX12_plan ∈ wsL_law := kr_32 _ (List.mem_of_getElem? (i := 1) rfl)
theorem kw_32_2 : Cond.code yX12_plan cX12_plan 8 (some .int) ∈ wsL_law := kr_32 _ (List.mem_of_getElem? (i := 2) rfl)
theorem kw_33_10 : Cond.instanceMethod yX11_freeze ∈ wsL_law := kr_33 _ (List.mem_of_getElem? (i := 10) rfl)
theorem kw_33_11 : Cond.selects RX11 yX11_freeze yX11_freeze ∈ wsL_law := kr_33 _ (List.mem_of_getElem? (i := 11) rfl)
theorem kw_33_12 : Cond.code yX11_freeze cX11_freeze 4 (some .int) ∈ wsL_law := kr_33 _ (List.mem_of_getElem? (i := 12) rfl)
theorem kw_33_23 : Cond.methodLink RL 78 yX12_freeze ∈ wsL_law := kr_33 _ (List.mem_of_getElem? (i := 23) rfl)
theorem kw_33_9 : Cond.methodLink RL 75 yX11_freeze ∈ wsL_law := kr_33 _ (List.mem_of_getElem? (i := 9) rfl)
theorem kw_34_0 : Cond.instanceMethod yX12_freeze ∈ wsL_law := kr_34 _ (List.mem_of_getElem? (i := 0) rfl)
theorem kw_34_1 : Cond.selects RX12 yX12_freeze yX12_freeze ∈ wsL_law := kr_34 _ (List.mem_of_getElem? (i := 1) rfl)
theorem kw_34_2 : Cond.code yX12_freeze cX12_freeze 7 (some .int) ∈ wsL_law := kr_34 _ (List.mem_of_getElem? (i := 2) rfl)
theorem kw_34_3 : Cond.methodLink RL 79 yX11_lie ∈ wsL_law := kr_34 _ (List.mem_of_getElem? (i := 3) rfl)
theorem kw_34_4 : Cond.instanceMethod yX11_lie ∈ wsL_law := kr_34 _ (List.mem_of_getElem? (i := 4) rfl)
theorem kw_34_5 : Cond.selects RX11 yX11_lie yX11_lie ∈ wsL_law := kr_34 _ (List.mem_of_getElem? (i := 5) rfl)
theorem kw_34_6 : Cond.code yX11_lie cX11_lie 4 (some .int) ∈ wsL_law := kr_34 _ (List.mem_of_getElem? (i := 6) rfl)
theorem kw_35_17 : Cond.methodLink RL 83 yX12_lie ∈ wsL_law := kr_35 _ (List.mem_of_getElem? (i := 17) rfl)
theorem kw_35_18 : Cond.instanceMethod yX12_lie ∈ wsL_law := kr_35 _ (List.mem_of_getElem? (i := 18) rfl)
theorem kw_35_19 : Cond.selects RX12 yX12_lie yX12_lie ∈ wsL_law := kr_35 _ (List.mem_of_getElem? (i := 19) rfl)
theorem kw_35_20 : Cond.code yX12_lie cX12_lie 9 (some .int) ∈ wsL_law := kr_35 _ (List.mem_of_getElem? (i := 20) rfl)
theorem kw_36_20 : Cond.methodLink RL 87 yX12_expect ∈ wsL_law := kr_36 _ (List.mem_of_getElem? (i := 20) rfl)
theorem kw_36_21 : Cond.instanceMethod yX12_expect ∈ wsL_law := kr_36 _ (List.mem_of_getElem? (i := 21) rfl)
theorem kw_36_22 : Cond.selects RX12 yX12_expect yX12_expect ∈ wsL_law := kr_36 _ (List.mem_of_getElem? (i := 22) rfl)
theorem kw_36_23 : Cond.code yX12_expect cX12_expect 2 (some .int) ∈ wsL_law := kr_36 _ (List.mem_of_getElem? (i := 23) rfl)
theorem kw_36_5 : Cond.methodLink RL 84 yX11_expect ∈ wsL_law := kr_36 _ (List.mem_of_getElem? (i := 5) rfl)
theorem kw_36_6 : Cond.instanceMethod yX11_expect ∈ wsL_law := kr_36 _ (List.mem_of_getElem? (i := 6) rfl)
theorem kw_36_7 : Cond.selects RX11 yX11_expect yX11_expect ∈ wsL_law := kr_36 _ (List.mem_of_getElem? (i := 7) rfl)
theorem kw_36_8 : Cond.code yX11_expect cX11_expect 2 (some .int) ∈ wsL_law := kr_36 _ (List.mem_of_getElem? (i := 8) rfl)
theorem kw_37_14 : Cond.methodLink RL 91 yX12_buy ∈ wsL_law := kr_37 _ (List.mem_of_getElem? (i := 14) rfl)
theorem kw_37_15 : Cond.instanceMethod yX12_buy ∈ wsL_law := kr_37 _ (List.mem_of_getElem? (i := 15) rfl)
theorem kw_37_16 : Cond.selects RX12 yX12_buy yX12_buy ∈ wsL_law := kr_37 _ (List.mem_of_getElem? (i := 16) rfl)
theorem kw_37_17 : Cond.code yX12_buy cX12_buy 3 (some .int) ∈ wsL_law := kr_37 _ (List.mem_of_getElem? (i := 17) rfl)
theorem kw_37_18 : Cond.methodLink RL 92 yX11_print ∈ wsL_law := kr_37 _ (List.mem_of_getElem? (i := 18) rfl)
theorem kw_37_19 : Cond.instanceMethod yX11_print ∈ wsL_law := kr_37 _ (List.mem_of_getElem? (i := 19) rfl)
theorem kw_37_20 : Cond.selects RX11 yX11_print yX11_print ∈ wsL_law := kr_37 _ (List.mem_of_getElem? (i := 20) rfl)
theorem kw_37_21 : Cond.code yX11_print cX11_print 2 (some .int) ∈ wsL_law := kr_37 _ (List.mem_of_getElem? (i := 21) rfl)
theorem kw_37_5 : Cond.methodLink RL 88 yX11_buy ∈ wsL_law := kr_37 _ (List.mem_of_getElem? (i := 5) rfl)
theorem kw_37_6 : Cond.instanceMethod yX11_buy ∈ wsL_law := kr_37 _ (List.mem_of_getElem? (i := 6) rfl)
theorem kw_37_7 : Cond.selects RX11 yX11_buy yX11_buy ∈ wsL_law := kr_37 _ (List.mem_of_getElem? (i := 7) rfl)
theorem kw_37_8 : Cond.code yX11_buy cX11_buy 1 (some .int) ∈ wsL_law := kr_37 _ (List.mem_of_getElem? (i := 8) rfl)
theorem kw_38_10 : Cond.methodLink RL 96 yX11_smell ∈ wsL_law := kr_38 _ (List.mem_of_getElem? (i := 10) rfl)
theorem kw_38_11 : Cond.instanceMethod yX11_smell ∈ wsL_law := kr_38 _ (List.mem_of_getElem? (i := 11) rfl)
theorem kw_38_12 : Cond.selects RX11 yX11_smell yX11_smell ∈ wsL_law := kr_38 _ (List.mem_of_getElem? (i := 12) rfl)
theorem kw_38_13 : Cond.code yX11_smell cX11_smell 2 (some .int) ∈ wsL_law := kr_38 _ (List.mem_of_getElem? (i := 13) rfl)
theorem kw_38_18 : Cond.methodLink RL 99 yX12_smell ∈ wsL_law := kr_38 _ (List.mem_of_getElem? (i := 18) rfl)
theorem kw_38_19 : Cond.instanceMethod yX12_smell ∈ wsL_law := kr_38 _ (List.mem_of_getElem? (i := 19) rfl)
theorem kw_38_20 : Cond.selects RX12 yX12_smell yX12_smell ∈ wsL_law := kr_38 _ (List.mem_of_getElem? (i := 20) rfl)
theorem kw_38_21 : Cond.code yX12_smell cX12_smell 2 (some .int) ∈ wsL_law := kr_38 _ (List.mem_of_getElem? (i := 21) rfl)
theorem kw_38_6 : Cond.methodLink RL 95 yX12_print ∈ wsL_law := kr_38 _ (List.mem_of_getElem? (i := 6) rfl)
theorem kw_38_7 : Cond.instanceMethod yX12_print ∈ wsL_law := kr_38 _ (List.mem_of_getElem? (i := 7) rfl)
theorem kw_38_8 : Cond.selects RX12 yX12_print yX12_print ∈ wsL_law := kr_38 _ (List.mem_of_getElem? (i := 8) rfl)
theorem kw_38_9 : Cond.code yX12_print cX12_print 5 (some .int) ∈ wsL_law := kr_38 _ (List.mem_of_getElem? (i := 9) rfl)
theorem kw_39_12 : Cond.methodLink RL 103 yX12_line ∈ wsL_law := kr_39 _ (List.mem_of_getElem? (i := 12) rfl)
theorem kw_39_13 : Cond.instanceMethod yX12_line ∈ wsL_law := kr_39 _ (List.mem_of_getElem? (i := 13) rfl)
theorem kw_39_14 : Cond.selects RX12 yX12_line yX12_line ∈ wsL_law := kr_39 _ (List.mem_of_getElem? (i := 14) rfl)
theorem kw_39_15 : Cond.code yX12_line cX12_line 3 (some .int) ∈ wsL_law := kr_39 _ (List.mem_of_getElem? (i := 15) rfl)
theorem kw_39_16 : Cond.methodLink RL 104 yX11_cut ∈ wsL_law := kr_39 _ (List.mem_of_getElem? (i := 16) rfl)
theorem kw_39_17 : Cond.instanceMethod yX11_cut ∈ wsL_law := kr_39 _ (List.mem_of_getElem? (i := 17) rfl)
theorem kw_39_18 : Cond.selects RX11 yX11_cut yX11_cut ∈ wsL_law := kr_39 _ (List.mem_of_getElem? (i := 18) rfl)
theorem kw_39_19 : Cond.code yX11_cut cX11_cut 3 (some .int) ∈ wsL_law := kr_39 _ (List.mem_of_getElem? (i := 19) rfl)
theorem kw_39_3 : Cond.methodLink RL 100 yX11_line ∈ wsL_law := kr_39 _ (List.mem_of_getElem? (i := 3) rfl)
theorem kw_39_4 : Cond.instanceMethod yX11_line ∈ wsL_law := kr_39 _ (List.mem_of_getElem? (i := 4) rfl)
theorem kw_39_5 : Cond.selects RX11 yX11_line yX11_line ∈ wsL_law := kr_39 _ (List.mem_of_getElem? (i := 5) rfl)
theorem kw_39_6 : Cond.code yX11_line cX11_line 1 (some .int) ∈ wsL_law := kr_39 _ (List.mem_of_getElem? (i := 6) rfl)
theorem kw_40_10 : Cond.selects RX11 yX11_ill yX11_ill ∈ wsL_law := kr_40 _ (List.mem_of_getElem? (i := 10) rfl)
theorem kw_40_11 : Cond.code yX11_ill cX11_ill 6 (some .int) ∈ wsL_law := kr_40 _ (List.mem_of_getElem? (i := 11) rfl)
theorem kw_40_4 : Cond.methodLink RL 108 yX12_cut ∈ wsL_law := kr_40 _ (List.mem_of_getElem? (i := 4) rfl)
theorem kw_40_5 : Cond.instanceMethod yX12_cut ∈ wsL_law := kr_40 _ (List.mem_of_getElem? (i := 5) rfl)
theorem kw_40_6 : Cond.selects RX12 yX12_cut yX12_cut ∈ wsL_law := kr_40 _ (List.mem_of_getElem? (i := 6) rfl)
theorem kw_40_7 : Cond.code yX12_cut cX12_cut 7 (some .int) ∈ wsL_law := kr_40 _ (List.mem_of_getElem? (i := 7) rfl)
theorem kw_40_8 : Cond.methodLink RL 109 yX11_ill ∈ wsL_law := kr_40 _ (List.mem_of_getElem? (i := 8) rfl)
theorem kw_40_9 : Cond.instanceMethod yX11_ill ∈ wsL_law := kr_40 _ (List.mem_of_getElem? (i := 9) rfl)
theorem kw_41_0 : Cond.methodLink RL 112 yX12_ill ∈ wsL_law := kr_41 _ (List.mem_of_getElem? (i := 0) rfl)
theorem kw_41_1 : Cond.instanceMethod yX12_ill ∈ wsL_law := kr_41 _ (List.mem_of_getElem? (i := 1) rfl)
theorem kw_41_10 : Cond.instanceMethod yX11_span ∈ wsL_law := kr_41 _ (List.mem_of_getElem? (i := 10) rfl)
theorem kw_41_11 : Cond.selects RX11 yX11_span yX11_span ∈ wsL_law := kr_41 _ (List.mem_of_getElem? (i := 11) rfl)
theorem kw_41_12 : Cond.code yX11_span cX11_span 3 (some .int) ∈ wsL_law := kr_41 _ (List.mem_of_getElem? (i := 12) rfl)
theorem kw_41_18 : Cond.methodLink RL 116 yX12_span ∈ wsL_law := kr_41 _ (List.mem_of_getElem? (i := 18) rfl)
theorem kw_41_19 : Cond.instanceMethod yX12_span ∈ wsL_law := kr_41 _ (List.mem_of_getElem? (i := 19) rfl)
theorem kw_41_2 : Cond.selects RX12 yX12_ill yX12_ill ∈ wsL_law := kr_41 _ (List.mem_of_getElem? (i := 2) rfl)
theorem kw_41_20 : Cond.selects RX12 yX12_span yX12_span ∈ wsL_law := kr_41 _ (List.mem_of_getElem? (i := 20) rfl)
theorem kw_41_21 : Cond.code yX12_span cX12_span 3 (some .int) ∈ wsL_law := kr_41 _ (List.mem_of_getElem? (i := 21) rfl)
theorem kw_41_23 : Cond.methodLink RL 117 yX11_noSpans ∈ wsL_law := kr_41 _ (List.mem_of_getElem? (i := 23) rfl)
theorem kw_41_3 : Cond.code yX12_ill cX12_ill 7 (some .int) ∈ wsL_law := kr_41 _ (List.mem_of_getElem? (i := 3) rfl)
theorem kw_41_9 : Cond.methodLink RL 113 yX11_span ∈ wsL_law := kr_41 _ (List.mem_of_getElem? (i := 9) rfl)
theorem kw_42_0 : Cond.instanceMethod yX11_noSpans ∈ wsL_law := kr_42 _ (List.mem_of_getElem? (i := 0) rfl)
theorem kw_42_1 : Cond.selects RX11 yX11_noSpans yX11_noSpans ∈ wsL_law := kr_42 _ (List.mem_of_getElem? (i := 1) rfl)
theorem kw_42_10 : Cond.code yX11_law cX11_law 3 (some .int) ∈ wsL_law := kr_42 _ (List.mem_of_getElem? (i := 10) rfl)
theorem kw_42_2 : Cond.code yX11_noSpans cX11_noSpans 2 (some .int) ∈ wsL_law := kr_42 _ (List.mem_of_getElem? (i := 2) rfl)
theorem kw_42_20 : Cond.methodLink RL 124 yX12_law ∈ wsL_law := kr_42 _ (List.mem_of_getElem? (i := 20) rfl)
theorem kw_42_21 : Cond.instanceMethod yX12_law ∈ wsL_law := kr_42 _ (List.mem_of_getElem? (i := 21) rfl)
theorem kw_42_22 : Cond.selects RX12 yX12_law yX12_law ∈ wsL_law := kr_42 _ (List.mem_of_getElem? (i := 22) rfl)
theorem kw_42_23 : Cond.code yX12_law cX12_law 4 (some .int) ∈ wsL_law := kr_42 _ (List.mem_of_getElem? (i := 23) rfl)
theorem kw_42_3 : Cond.methodLink RL 120 yX12_noSpans ∈ wsL_law := kr_42 _ (List.mem_of_getElem? (i := 3) rfl)
theorem kw_42_4 : Cond.instanceMethod yX12_noSpans ∈ wsL_law := kr_42 _ (List.mem_of_getElem? (i := 4) rfl)
theorem kw_42_5 : Cond.selects RX12 yX12_noSpans yX12_noSpans ∈ wsL_law := kr_42 _ (List.mem_of_getElem? (i := 5) rfl)
theorem kw_42_6 : Cond.code yX12_noSpans cX12_noSpans 2 (some .int) ∈ wsL_law := kr_42 _ (List.mem_of_getElem? (i := 6) rfl)
theorem kw_42_7 : Cond.methodLink RL 121 yX11_law ∈ wsL_law := kr_42 _ (List.mem_of_getElem? (i := 7) rfl)
theorem kw_42_8 : Cond.instanceMethod yX11_law ∈ wsL_law := kr_42 _ (List.mem_of_getElem? (i := 8) rfl)
theorem kw_42_9 : Cond.selects RX11 yX11_law yX11_law ∈ wsL_law := kr_42 _ (List.mem_of_getElem? (i := 9) rfl)
theorem kw_43_4 : Cond.methodLink RL 125 yX11_habit ∈ wsL_law := kr_43 _ (List.mem_of_getElem? (i := 4) rfl)
theorem kw_43_5 : Cond.instanceMethod yX11_habit ∈ wsL_law := kr_43 _ (List.mem_of_getElem? (i := 5) rfl)
theorem kw_43_6 : Cond.selects RX11 yX11_habit yX11_habit ∈ wsL_law := kr_43 _ (List.mem_of_getElem? (i := 6) rfl)
theorem kw_43_7 : Cond.code yX11_habit cX11_habit 4 (some .int) ∈ wsL_law := kr_43 _ (List.mem_of_getElem? (i := 7) rfl)
theorem kw_44_15 : Cond.methodLink RL 129 yX11_keep ∈ wsL_law := kr_44 _ (List.mem_of_getElem? (i := 15) rfl)
theorem kw_44_16 : Cond.instanceMethod yX11_keep ∈ wsL_law := kr_44 _ (List.mem_of_getElem? (i := 16) rfl)
theorem kw_44_17 : Cond.selects RX11 yX11_keep yX11_keep ∈ wsL_law := kr_44 _ (List.mem_of_getElem? (i := 17) rfl)
theorem kw_44_18 : Cond.code yX11_keep cX11_keep 1 (some .int) ∈ wsL_law := kr_44 _ (List.mem_of_getElem? (i := 18) rfl)
theorem kw_44_23 : Cond.methodLink RL 132 yX12_keep ∈ wsL_law := kr_44 _ (List.mem_of_getElem? (i := 23) rfl)
theorem kw_44_3 : Cond.methodLink RL 128 yX12_habit ∈ wsL_law := kr_44 _ (List.mem_of_getElem? (i := 3) rfl)
theorem kw_44_4 : Cond.instanceMethod yX12_habit ∈ wsL_law := kr_44 _ (List.mem_of_getElem? (i := 4) rfl)
theorem kw_44_5 : Cond.selects RX12 yX12_habit yX12_habit ∈ wsL_law := kr_44 _ (List.mem_of_getElem? (i := 5) rfl)
theorem kw_44_6 : Cond.code yX12_habit cX12_habit 9 (some .int) ∈ wsL_law := kr_44 _ (List.mem_of_getElem? (i := 6) rfl)
theorem kw_45_0 : Cond.instanceMethod yX12_keep ∈ wsL_law := kr_45 _ (List.mem_of_getElem? (i := 0) rfl)
theorem kw_45_1 : Cond.selects RX12 yX12_keep yX12_keep ∈ wsL_law := kr_45 _ (List.mem_of_getElem? (i := 1) rfl)
theorem kw_45_10 : Cond.code yX12_back cX12_back 1 (some .int) ∈ wsL_law := kr_45 _ (List.mem_of_getElem? (i := 10) rfl)
theorem kw_45_11 : Cond.methodLink RL 137 yX11_count ∈ wsL_law := kr_45 _ (List.mem_of_getElem? (i := 11) rfl)
theorem kw_45_12 : Cond.instanceMethod yX11_count ∈ wsL_law := kr_45 _ (List.mem_of_getElem? (i := 12) rfl)
theorem kw_45_13 : Cond.selects RX11 yX11_count yX11_count ∈ wsL_law := kr_45 _ (List.mem_of_getElem? (i := 13) rfl)
theorem kw_45_14 : Cond.code yX11_count cX11_count 2 (some .int) ∈ wsL_law := kr_45 _ (List.mem_of_getElem? (i := 14) rfl)
theorem kw_45_15 : Cond.methodLink RL 140 yX12_count ∈ wsL_law := kr_45 _ (List.mem_of_getElem? (i := 15) rfl)
theorem kw_45_16 : Cond.instanceMethod yX12_count ∈ wsL_law := kr_45 _ (List.mem_of_getElem? (i := 16) rfl)
theorem kw_45_17 : Cond.selects RX12 yX12_count yX12_count ∈ wsL_law := kr_45 _ (List.mem_of_getElem? (i := 17) rfl)
theorem kw_45_18 : Cond.code yX12_count cX12_count 2 (some .int) ∈ wsL_law := kr_45 _ (List.mem_of_getElem? (i := 18) rfl)
theorem kw_45_2 : Cond.code yX12_keep cX12_keep 1 (some .int) ∈ wsL_law := kr_45 _ (List.mem_of_getElem? (i := 2) rfl)
theorem kw_45_3 : Cond.methodLink RL 133 yX11_back ∈ wsL_law := kr_45 _ (List.mem_of_getElem? (i := 3) rfl)
theorem kw_45_4 : Cond.instanceMethod yX11_back ∈ wsL_law := kr_45 _ (List.mem_of_getElem? (i := 4) rfl)
theorem kw_45_5 : Cond.selects RX11 yX11_back yX11_back ∈ wsL_law := kr_45 _ (List.mem_of_getElem? (i := 5) rfl)
theorem kw_45_6 : Cond.code yX11_back cX11_back 1 (some .int) ∈ wsL_law := kr_45 _ (List.mem_of_getElem? (i := 6) rfl)
theorem kw_45_7 : Cond.methodLink RL 136 yX12_back ∈ wsL_law := kr_45 _ (List.mem_of_getElem? (i := 7) rfl)
theorem kw_45_8 : Cond.instanceMethod yX12_back ∈ wsL_law := kr_45 _ (List.mem_of_getElem? (i := 8) rfl)
theorem kw_45_9 : Cond.selects RX12 yX12_back yX12_back ∈ wsL_law := kr_45 _ (List.mem_of_getElem? (i := 9) rfl)
theorem kw_7_23 : Cond.methodLink RL 12 yX12_init ∈ wsL_law := kr_7 _ (List.mem_of_getElem? (i := 23) rfl)
theorem kw_8_0 : Cond.instanceMethod yX12_init ∈ wsL_law := kr_8 _ (List.mem_of_getElem? (i := 0) rfl)
theorem kw_8_1 : Cond.code yX12_init cX12_init 1 none ∈ wsL_law := kr_8 _ (List.mem_of_getElem? (i := 1) rfl)
theorem kw_9_18 : Cond.methodLink RL 15 yX11_write ∈ wsL_law := kr_9 _ (List.mem_of_getElem? (i := 18) rfl)
theorem kw_9_19 : Cond.instanceMethod yX11_write ∈ wsL_law := kr_9 _ (List.mem_of_getElem? (i := 19) rfl)
theorem kw_9_20 : Cond.selects RX11 yX11_write yX11_write ∈ wsL_law := kr_9 _ (List.mem_of_getElem? (i := 20) rfl)
theorem kw_9_21 : Cond.code yX11_write cX11_write 4 (some .int) ∈ wsL_law := kr_9 _ (List.mem_of_getElem? (i := 21) rfl)
theorem md_X11_init : yX11_init.cls ≠ "java/lang/invoke/MethodHandle" ∧ yX11_init.cls ≠ "java/lang/invoke/VarHandle" ∧ (parseMethodDescriptor yX11_init.desc).map (fun d => d.parameters.length) = some 0 := by decide +kernel
theorem md_X12_init : yX12_init.cls ≠ "java/lang/invoke/MethodHandle" ∧ yX12_init.cls ≠ "java/lang/invoke/VarHandle" ∧ (parseMethodDescriptor yX12_init.desc).map (fun d => d.parameters.length) = some 0 := by decide +kernel
set_option maxHeartbeats 8000000 in
set_option maxRecDepth 100000 in
/-- THE LAW'S LOOP -/
theorem law_loop (Rel : Mm → Mm → Prop) (N : Nat) (hops : OpsOk Rel N) {p : Program} {l : Launch} {e : Env} {s : State} {m : MethodId} {below : List Frame} {meth : Method} {c : Code} {D : va_G} {cI : ClassId} {b L : Nat} {xs : Nat → Int32} (hL : L ≤ 256) (C : Cx p s m #[Value.ref b] meth c RL cL_law 4 ret D cI (fun q => s.heap.size ≤ q)) (hX : va_X b L xs s s.heap) (hbl : b < s.heap.size) (h g : Nat → Nat) :
    ∀ (n i : Nat) (x3 : Int32), i ≤ L → L + 1 ≤ i + n → x3 = nI i → ∀ (MX MR : Mm), Rel MX MR → ∀ (H : Heap) (locs : List Loc), Hw D (wX h cI MX ++ wR g cI MR) (fun q => s.heap.size ≤ q) s.heap H locs → ∀ (ls : Array Slot), lv_has ls 4 [(0, .ref b), (1, .ref (h 0)), (2, .ref (g 0)), (3, .int x3)] → W p l e room_1 s m #[Value.ref b] below meth c H locs 104 2041 (lw_Z below #[Value.ref b] s) (F0 m 18 ls []) := by
  have zhx := C.1
  have zhb := C.2.1
  have zhown := C.2.2.2.2.1
  have zhtB := C.2.2.2.2.2.2.1
  have hbA : ¬ (fun q : Nat => s.heap.size ≤ q) b := Nat.not_le.mpr hbl
  obtain ⟨ho_write, ho_wipe, ho_fault, ho_lay, ho_food, ho_warmth, ho_hours, ho_move, ho_make, ho_eat, ho_throwOut, ho_offIn, ho_lost, ho_plan, ho_freeze, ho_lie, ho_expect, ho_buy, ho_print, ho_smell, ho_line, ho_cut, ho_ill, ho_span, ho_noSpans, ho_law, ho_habit, ho_keep, ho_back, ho_count⟩ := hops
  intro n
  induction n with
  | zero => intro i x3 h1 h2; exact absurd h2 (by omega)
  | succ n ih =>
    intro i x3 hi hin ex MX MR hrel zH zlocs zhw zls zhl
    refine lv_iload_n zhx zhb dL_law_18 rfl (lv_at zhl 3 rfl) ?_
    refine lv_aload_n zhx zhb dL_law_19 rfl (lv_at zhl 0 rfl) ?_
    refine va_slen zhx zhb hX hbl hbA zhw.2.2 dL_law_20 ?_
    refine lv_iconst (v := 4) zhx zhb dL_law_21 (by decide) ?_
    refine lv_isub zhx zhb dL_law_22 ?_
    refine lv_icmp_gt (tgt := 980) zhx zhb dL_law_23 (by decide) (fun zc9 => ?_) (fun zc9 => ?_)
    · refine lv_iconst (v := 1) zhx zhb dL_law_980 (by decide) ?_
      refine va_forget (fun q hq => zhw.2.2.2.2 q hq) ?_
      refine W.widen (k := 600000) (n := 7302250) (Nat.le_of_ble_eq_true rfl) (Nat.le_of_ble_eq_true rfl) ?_
      exact lw_ret zhx zhb C.2.2.1 C.2.2.2.2.2.1 dL_law_981
    · have h4 : i + 4 ≤ L := law_bound hL hi (by rw [ex] at zc9; exact zc9)
      have hin0 : vp_in x3 L := by rw [ex]; exact vp_in_nI (by omega) (by omega)
      have hin1 : vp_in (x3 + 1) L := by rw [ex, show nI i + 1 = nI (i + 1) from nI_1 i]; exact vp_in_nI (by omega) (by omega)
      have hin2 : vp_in (x3 + 2) L := by rw [ex, show nI i + 2 = nI (i + 2) from nI_add i 2]; exact vp_in_nI (by omega) (by omega)
      have hin3 : vp_in (x3 + 3) L := by rw [ex, show nI i + 3 = nI (i + 3) from nI_add i 3]; exact vp_in_nI (by omega) (by omega)
      have tail : ∀ (MX MR : Mm) (H : Heap) (locs : List Loc) (ls : Array Slot), Rel MX MR → Hw D (wX h cI MX ++ wR g cI MR) (fun q => s.heap.size ≤ q) s.heap H locs → lv_has ls 4 [(0, .ref b), (1, .ref (h 0)), (2, .ref (g 0)), (3, .int x3)] → W p l e room_1 s m #[Value.ref b] below meth c H locs 104 2041 (lw_Z below #[Value.ref b] s) (F0 m 974 ls []) := by
        intro MX MR H locs ls hrel hw hl
        obtain ⟨y3, ey⟩ : ∃ y : Int32, y = x3 + 4 := ⟨_, rfl⟩
        refine lv_iinc (v := y3) (lv' := [(3, .int y3), (0, .ref b), (1, .ref (h 0)), (2, .ref (g 0))]) zhx zhb dL_law_974 hl (k := 3) rfl (by rw [ey]; rfl) (by decide) rfl (fun ls hl => ?_)
        refine lv_goto (tgt := 18) zhx zhb dL_law_977 (by decide) ?_
        exact ih (i + 4) y3 h4 (by omega) (by rw [ey, ex]; exact nI_add i 4) MX MR hrel H locs hw ls (lv_sub hl [1, 2, 3, 0] rfl)
      refine lv_aload_n zhx zhb dL_law_26 rfl (lv_at zhl 0 rfl) ?_
      refine lv_iload_n zhx zhb dL_law_27 rfl (lv_at zhl 3 rfl) ?_
      refine va_sld zhx zhb hX hbl hbA zhw.2.2 hin0 dL_law_28 ?_
      refine lv_bipush (v := 31) zhx zhb dL_law_29 (by decide) ?_
      refine lv_iand zhx zhb dL_law_31 ?_
      refine lv_topi (fun zk zek => ?_)
      rcases Decidable.em (zk = 0) with zc9 | c1000
      · refine lv_tableIn (tgt := 168) (off := 136) zhx zhb dL_law_32 (by rw [zc9]; decide) (by rw [zc9]; decide) (by rw [zc9]; decide) (by decide) ?_
        refine lv_aload_n zhx zhb dL_law_168 rfl (lv_at zhl 1 rfl) ?_
        refine lv_aload_n zhx zhb dL_law_169 rfl (lv_at zhl 0 rfl) ?_
        refine lv_iload_n zhx zhb dL_law_170 rfl (lv_at zhl 3 rfl) ?_
        refine lv_iconst (v := 1) zhx zhb dL_law_171 (by decide) ?_
        refine lv_iadd zhx zhb dL_law_172 ?_
        refine va_sld zhx zhb hX hbl hbA zhw.2.2 hin1 dL_law_173 ?_
        refine lv_aload_n zhx zhb dL_law_174 rfl (lv_at zhl 0 rfl) ?_
        refine lv_iload_n zhx zhb dL_law_175 rfl (lv_at zhl 3 rfl) ?_
        refine lv_iconst (v := 2) zhx zhb dL_law_176 (by decide) ?_
        refine lv_iadd zhx zhb dL_law_177 ?_
        refine va_sld zhx zhb hX hbl hbA zhw.2.2 hin2 dL_law_178 ?_
        refine lv_i2l zhx zhb dL_law_179 rfl ?_
        refine lv_bipush (v := 32) zhx zhb dL_law_180 (by decide) ?_
        refine lv_lshl zhx zhb dL_law_182 rfl ?_
        refine lv_aload_n zhx zhb dL_law_183 rfl (lv_at zhl 0 rfl) ?_
        refine lv_iload_n zhx zhb dL_law_184 rfl (lv_at zhl 3 rfl) ?_
        refine lv_iconst (v := 3) zhx zhb dL_law_185 (by decide) ?_
        refine lv_iadd zhx zhb dL_law_186 ?_
        refine va_sld zhx zhb hX hbl hbA zhw.2.2 hin3 dL_law_187 ?_
        refine lv_i2l zhx zhb dL_law_188 rfl ?_
        refine lv_ldc2 zhx zhb zhown (zhtB _ kw_1_6) dL_law_189 ?_
        refine lv_land zhx zhb dL_law_192 ?_
        refine lv_lor zhx zhb dL_law_193 ?_
        obtain ⟨zr, MX1, MR1, hsX, hsR, hrel1⟩ := ho_write (xs (Int32.toNatClampNeg (x3 + 1))) ((shlL (Int32.toInt64 (xs (Int32.toNatClampNeg (x3 + 2)))) 32) ||| ((Int32.toInt64 (xs (Int32.toNatClampNeg (x3 + 3)))) &&& 4294967295)) MX MR hrel
        refine l_cL (wx := wX h cI MX) (wx' := wX h cI MX1) (wr := wR g cI MR) (As := [.int (xs (Int32.toNatClampNeg (x3 + 1))), .long ((shlL (Int32.toInt64 (xs (Int32.toNatClampNeg (x3 + 2)))) 32) ||| ((Int32.toInt64 (xs (Int32.toNatClampNeg (x3 + 3)))) &&& 4294967295))]) (rest := []) C zhw zhl (cOff_write l D cI h N (xs (Int32.toNatClampNeg (x3 + 1))) ((shlL (Int32.toInt64 (xs (Int32.toNatClampNeg (x3 + 2)))) 32) ||| ((Int32.toInt64 (xs (Int32.toNatClampNeg (x3 + 3)))) &&& 4294967295)) MX zr MX1 hsX) ⟨(Nat.le_of_ble_eq_true rfl), (Nat.le_of_ble_eq_true rfl)⟩ ⟨(Nat.le_of_ble_eq_true rfl), (Nat.le_of_ble_eq_true rfl)⟩ kw_9_18 kw_9_19 kw_9_20 kw_1_2 kw_9_21 md_X11_write rfl (wX_c0 h cI MX) rfl rfl rfl rfl (Nat.le_of_ble_eq_true rfl) dL_law_194 (fun zH zlocs zhw => ?_)
        refine lv_aload_n zhx zhb dL_law_197 rfl (lv_at zhl 2 rfl) ?_
        refine lv_aload_n zhx zhb dL_law_198 rfl (lv_at zhl 0 rfl) ?_
        refine lv_iload_n zhx zhb dL_law_199 rfl (lv_at zhl 3 rfl) ?_
        refine lv_iconst (v := 1) zhx zhb dL_law_200 (by decide) ?_
        refine lv_iadd zhx zhb dL_law_201 ?_
        refine va_sld zhx zhb hX hbl hbA zhw.2.2 hin1 dL_law_202 ?_
        refine lv_aload_n zhx zhb dL_law_203 rfl (lv_at zhl 0 rfl) ?_
        refine lv_iload_n zhx zhb dL_law_204 rfl (lv_at zhl 3 rfl) ?_
        refine lv_iconst (v := 2) zhx zhb dL_law_205 (by decide) ?_
        refine lv_iadd zhx zhb dL_law_206 ?_
        refine va_sld zhx zhb hX hbl hbA zhw.2.2 hin2 dL_law_207 ?_
        refine lv_i2l zhx zhb dL_law_208 rfl ?_
        refine lv_bipush (v := 32) zhx zhb dL_law_209 (by decide) ?_
        refine lv_lshl zhx zhb dL_law_211 rfl ?_
        refine lv_aload_n zhx zhb dL_law_212 rfl (lv_at zhl 0 rfl) ?_
        refine lv_iload_n zhx zhb dL_law_213 rfl (lv_at zhl 3 rfl) ?_
        refine lv_iconst (v := 3) zhx zhb dL_law_214 (by decide) ?_
        refine lv_iadd zhx zhb dL_law_215 ?_
        refine va_sld zhx zhb hX hbl hbA zhw.2.2 hin3 dL_law_216 ?_
        refine lv_i2l zhx zhb dL_law_217 rfl ?_
        refine lv_ldc2 zhx zhb zhown (zhtB _ kw_1_6) dL_law_218 ?_
        refine lv_land zhx zhb dL_law_221 ?_
        refine lv_lor zhx zhb dL_law_222 ?_
        refine l_cR (wx := wX h cI MX1) (wr := wR g cI MR) (wr' := wR g cI MR1) (As := [.int (xs (Int32.toNatClampNeg (x3 + 1))), .long ((shlL (Int32.toInt64 (xs (Int32.toNatClampNeg (x3 + 2)))) 32) ||| ((Int32.toInt64 (xs (Int32.toNatClampNeg (x3 + 3)))) &&& 4294967295))]) (rest := [.int zr]) C zhw zhl (cRef_write l D cI g N (xs (Int32.toNatClampNeg (x3 + 1))) ((shlL (Int32.toInt64 (xs (Int32.toNatClampNeg (x3 + 2)))) 32) ||| ((Int32.toInt64 (xs (Int32.toNatClampNeg (x3 + 3)))) &&& 4294967295)) MR zr MR1 hsR) ⟨(Nat.le_of_ble_eq_true rfl), (Nat.le_of_ble_eq_true rfl)⟩ ⟨(Nat.le_of_ble_eq_true rfl), (Nat.le_of_ble_eq_true rfl)⟩ kw_10_7 kw_10_8 kw_10_9 kw_1_5 kw_10_10 md_X12_write rfl (wR_c0 g cI MR) rfl rfl rfl rfl (Nat.le_of_ble_eq_true rfl) dL_law_223 (fun zH zlocs zhw => ?_)
        refine lv_icmp_eq (tgt := 974) zhx zhb dL_law_226 (by decide) (fun _ => ?_) (fun zc9 => absurd rfl zc9)
        exact tail MX1 MR1 _ _ _ hrel1 zhw zhl
      rcases Decidable.em (zk = 1) with zc9 | c1001
      · refine lv_tableIn (tgt := 231) (off := 199) zhx zhb dL_law_32 (by rw [zc9]; decide) (by rw [zc9]; decide) (by rw [zc9]; decide) (by decide) ?_
        refine lv_aload_n zhx zhb dL_law_231 rfl (lv_at zhl 1 rfl) ?_
        obtain ⟨zr, MX1, MR1, hsX, hsR, hrel1⟩ := ho_wipe MX MR hrel
        refine l_cL (wx := wX h cI MX) (wx' := wX h cI MX1) (wr := wR g cI MR) (As := []) (rest := []) C zhw zhl (cOff_wipe l D cI h MX zr MX1 hsX) ⟨(Nat.le_of_ble_eq_true rfl), (Nat.le_of_ble_eq_true rfl)⟩ ⟨(Nat.le_of_ble_eq_true rfl), (Nat.le_of_ble_eq_true rfl)⟩ kw_10_17 kw_10_18 kw_10_19 kw_1_2 kw_10_20 md_X11_wipe rfl (wX_c0 h cI MX) rfl rfl rfl rfl (Nat.le_of_ble_eq_true rfl) dL_law_232 (fun zH zlocs zhw => ?_)
        refine lv_aload_n zhx zhb dL_law_235 rfl (lv_at zhl 2 rfl) ?_
        refine l_cR (wx := wX h cI MX1) (wr := wR g cI MR) (wr' := wR g cI MR1) (As := []) (rest := [.int zr]) C zhw zhl (cRef_wipe l D cI g MR zr MR1 hsR) ⟨(Nat.le_of_ble_eq_true rfl), (Nat.le_of_ble_eq_true rfl)⟩ ⟨(Nat.le_of_ble_eq_true rfl), (Nat.le_of_ble_eq_true rfl)⟩ kw_10_21 kw_10_22 kw_10_23 kw_1_5 kw_11_0 md_X12_wipe rfl (wR_c0 g cI MR) rfl rfl rfl rfl (Nat.le_of_ble_eq_true rfl) dL_law_236 (fun zH zlocs zhw => ?_)
        refine lv_icmp_eq (tgt := 974) zhx zhb dL_law_239 (by decide) (fun _ => ?_) (fun zc9 => absurd rfl zc9)
        exact tail MX1 MR1 _ _ _ hrel1 zhw zhl
      rcases Decidable.em (zk = 2) with zc9 | c1002
      · refine lv_tableIn (tgt := 244) (off := 212) zhx zhb dL_law_32 (by rw [zc9]; decide) (by rw [zc9]; decide) (by rw [zc9]; decide) (by decide) ?_
        refine lv_aload_n zhx zhb dL_law_244 rfl (lv_at zhl 1 rfl) ?_
        obtain ⟨zr, MX1, MR1, hsX, hsR, hrel1⟩ := ho_fault MX MR hrel
        refine l_cL (wx := wX h cI MX) (wx' := wX h cI MX1) (wr := wR g cI MR) (As := []) (rest := []) C zhw zhl (cOff_fault l D cI h N MX zr MX1 hsX) ⟨(Nat.le_of_ble_eq_true rfl), (Nat.le_of_ble_eq_true rfl)⟩ ⟨(Nat.le_of_ble_eq_true rfl), (Nat.le_of_ble_eq_true rfl)⟩ kw_11_1 kw_11_2 kw_11_3 kw_1_2 kw_11_4 md_X11_fault rfl (wX_c0 h cI MX) rfl rfl rfl rfl (Nat.le_of_ble_eq_true rfl) dL_law_245 (fun zH zlocs zhw => ?_)
        refine lv_aload_n zhx zhb dL_law_248 rfl (lv_at zhl 2 rfl) ?_
        refine l_cR (wx := wX h cI MX1) (wr := wR g cI MR) (wr' := wR g cI MR1) (As := []) (rest := [.int zr]) C zhw zhl (cRef_fault l D cI g N MR zr MR1 hsR) ⟨(Nat.le_of_ble_eq_true rfl), (Nat.le_of_ble_eq_true rfl)⟩ ⟨(Nat.le_of_ble_eq_true rfl), (Nat.le_of_ble_eq_true rfl)⟩ kw_15_9 kw_15_10 kw_15_11 kw_1_5 kw_15_12 md_X12_fault rfl (wR_c0 g cI MR) rfl rfl rfl rfl (Nat.le_of_ble_eq_true rfl) dL_law_249 (fun zH zlocs zhw => ?_)
        refine lv_icmp_eq (tgt := 974) zhx zhb dL_law_252 (by decide) (fun _ => ?_) (fun zc9 => absurd rfl zc9)
        exact tail MX1 MR1 _ _ _ hrel1 zhw zhl
      rcases Decidable.em (zk = 3) with zc9 | c1003
      · refine lv_tableIn (tgt := 257) (off := 225) zhx zhb dL_law_32 (by rw [zc9]; decide) (by rw [zc9]; decide) (by rw [zc9]; decide) (by decide) ?_
        refine lv_aload_n zhx zhb dL_law_257 rfl (lv_at zhl 1 rfl) ?_
        obtain ⟨zr, MX1, MR1, hsX, hsR, hrel1⟩ := ho_lay MX MR hrel
        refine l_cL (wx := wX h cI MX) (wx' := wX h cI MX1) (wr := wR g cI MR) (As := []) (rest := []) C zhw zhl (cOff_lay l D cI h N MX zr MX1 hsX) ⟨(Nat.le_of_ble_eq_true rfl), (Nat.le_of_ble_eq_true rfl)⟩ ⟨(Nat.le_of_ble_eq_true rfl), (Nat.le_of_ble_eq_true rfl)⟩ kw_16_22 kw_16_23 kw_17_0 kw_1_2 kw_17_1 md_X11_lay rfl (wX_c0 h cI MX) rfl rfl rfl rfl (Nat.le_of_ble_eq_true rfl) dL_law_258 (fun zH zlocs zhw => ?_)
        refine lv_aload_n zhx zhb dL_law_261 rfl (lv_at zhl 2 rfl) ?_
        refine l_cR (wx := wX h cI MX1) (wr := wR g cI MR) (wr' := wR g cI MR1) (As := []) (rest := [.int zr]) C zhw zhl (cRef_lay l D cI g N MR zr MR1 hsR) ⟨(Nat.le_of_ble_eq_true rfl), (Nat.le_of_ble_eq_true rfl)⟩ ⟨(Nat.le_of_ble_eq_true rfl), (Nat.le_of_ble_eq_true rfl)⟩ kw_17_15 kw_17_16 kw_17_17 kw_1_5 kw_17_18 md_X12_lay rfl (wR_c0 g cI MR) rfl rfl rfl rfl (Nat.le_of_ble_eq_true rfl) dL_law_262 (fun zH zlocs zhw => ?_)
        refine lv_icmp_eq (tgt := 974) zhx zhb dL_law_265 (by decide) (fun _ => ?_) (fun zc9 => absurd rfl zc9)
        exact tail MX1 MR1 _ _ _ hrel1 zhw zhl
      rcases Decidable.em (zk = 4) with zc9 | c1004
      · refine lv_tableIn (tgt := 270) (off := 238) zhx zhb dL_law_32 (by rw [zc9]; decide) (by rw [zc9]; decide) (by rw [zc9]; decide) (by decide) ?_
        refine lv_aload_n zhx zhb dL_law_270 rfl (lv_at zhl 1 rfl) ?_
        refine lv_aload_n zhx zhb dL_law_271 rfl (lv_at zhl 0 rfl) ?_
        refine lv_iload_n zhx zhb dL_law_272 rfl (lv_at zhl 3 rfl) ?_
        refine lv_iconst (v := 1) zhx zhb dL_law_273 (by decide) ?_
        refine lv_iadd zhx zhb dL_law_274 ?_
        refine va_sld zhx zhb hX hbl hbA zhw.2.2 hin1 dL_law_275 ?_
        refine lv_aload_n zhx zhb dL_law_276 rfl (lv_at zhl 0 rfl) ?_
        refine lv_iload_n zhx zhb dL_law_277 rfl (lv_at zhl 3 rfl) ?_
        refine lv_iconst (v := 2) zhx zhb dL_law_278 (by decide) ?_
        refine lv_iadd zhx zhb dL_law_279 ?_
        refine va_sld zhx zhb hX hbl hbA zhw.2.2 hin2 dL_law_280 ?_
        obtain ⟨zr, hsX, hsR, hrel1⟩ := ho_food (xs (Int32.toNatClampNeg (x3 + 1))) (xs (Int32.toNatClampNeg (x3 + 2))) MX MR hrel
        refine l_cL (wx := wX h cI MX) (wx' := wX h cI MX) (wr := wR g cI MR) (As := [.int (xs (Int32.toNatClampNeg (x3 + 1))), .int (xs (Int32.toNatClampNeg (x3 + 2)))]) (rest := []) C zhw zhl (cOff_food l D cI h (xs (Int32.toNatClampNeg (x3 + 1))) (xs (Int32.toNatClampNeg (x3 + 2))) MX zr hsX) ⟨(Nat.le_of_ble_eq_true rfl), (Nat.le_of_ble_eq_true rfl)⟩ ⟨(Nat.le_of_ble_eq_true rfl), (Nat.le_of_ble_eq_true rfl)⟩ kw_17_23 kw_18_0 kw_18_1 kw_1_2 kw_18_2 md_X11_food rfl (wX_c0 h cI MX) rfl rfl rfl rfl (Nat.le_of_ble_eq_true rfl) dL_law_281 (fun zH zlocs zhw => ?_)
        refine lv_aload_n zhx zhb dL_law_284 rfl (lv_at zhl 2 rfl) ?_
        refine lv_aload_n zhx zhb dL_law_285 rfl (lv_at zhl 0 rfl) ?_
        refine lv_iload_n zhx zhb dL_law_286 rfl (lv_at zhl 3 rfl) ?_
        refine lv_iconst (v := 1) zhx zhb dL_law_287 (by decide) ?_
        refine lv_iadd zhx zhb dL_law_288 ?_
        refine va_sld zhx zhb hX hbl hbA zhw.2.2 hin1 dL_law_289 ?_
        refine lv_aload_n zhx zhb dL_law_290 rfl (lv_at zhl 0 rfl) ?_
        refine lv_iload_n zhx zhb dL_law_291 rfl (lv_at zhl 3 rfl) ?_
        refine lv_iconst (v := 2) zhx zhb dL_law_292 (by decide) ?_
        refine lv_iadd zhx zhb dL_law_293 ?_
        refine va_sld zhx zhb hX hbl hbA zhw.2.2 hin2 dL_law_294 ?_
        refine l_cR (wx := wX h cI MX) (wr := wR g cI MR) (wr' := wR g cI MR) (As := [.int (xs (Int32.toNatClampNeg (x3 + 1))), .int (xs (Int32.toNatClampNeg (x3 + 2)))]) (rest := [.int zr]) C zhw zhl (cRef_food l D cI g (xs (Int32.toNatClampNeg (x3 + 1))) (xs (Int32.toNatClampNeg (x3 + 2))) MR zr hsR) ⟨(Nat.le_of_ble_eq_true rfl), (Nat.le_of_ble_eq_true rfl)⟩ ⟨(Nat.le_of_ble_eq_true rfl), (Nat.le_of_ble_eq_true rfl)⟩ kw_19_18 kw_19_19 kw_19_20 kw_1_5 kw_19_21 md_X12_food rfl (wR_c0 g cI MR) rfl rfl rfl rfl (Nat.le_of_ble_eq_true rfl) dL_law_295 (fun zH zlocs zhw => ?_)
        refine lv_icmp_eq (tgt := 974) zhx zhb dL_law_298 (by decide) (fun _ => ?_) (fun zc9 => absurd rfl zc9)
        exact tail MX MR _ _ _ hrel1 zhw zhl
      rcases Decidable.em (zk = 5) with zc9 | c1005
      · refine lv_tableIn (tgt := 303) (off := 271) zhx zhb dL_law_32 (by rw [zc9]; decide) (by rw [zc9]; decide) (by rw [zc9]; decide) (by decide) ?_
        refine lv_aload_n zhx zhb dL_law_303 rfl (lv_at zhl 1 rfl) ?_
        refine lv_aload_n zhx zhb dL_law_304 rfl (lv_at zhl 0 rfl) ?_
        refine lv_iload_n zhx zhb dL_law_305 rfl (lv_at zhl 3 rfl) ?_
        refine lv_iconst (v := 1) zhx zhb dL_law_306 (by decide) ?_
        refine lv_iadd zhx zhb dL_law_307 ?_
        refine va_sld zhx zhb hX hbl hbA zhw.2.2 hin1 dL_law_308 ?_
        refine lv_aload_n zhx zhb dL_law_309 rfl (lv_at zhl 0 rfl) ?_
        refine lv_iload_n zhx zhb dL_law_310 rfl (lv_at zhl 3 rfl) ?_
        refine lv_iconst (v := 2) zhx zhb dL_law_311 (by decide) ?_
        refine lv_iadd zhx zhb dL_law_312 ?_
        refine va_sld zhx zhb hX hbl hbA zhw.2.2 hin2 dL_law_313 ?_
        obtain ⟨zr, hsX, hsR, hrel1⟩ := ho_warmth (xs (Int32.toNatClampNeg (x3 + 1))) (xs (Int32.toNatClampNeg (x3 + 2))) MX MR hrel
        refine l_cL (wx := wX h cI MX) (wx' := wX h cI MX) (wr := wR g cI MR) (As := [.int (xs (Int32.toNatClampNeg (x3 + 1))), .int (xs (Int32.toNatClampNeg (x3 + 2)))]) (rest := []) C zhw zhl (cOff_warmth l D cI h (xs (Int32.toNatClampNeg (x3 + 1))) (xs (Int32.toNatClampNeg (x3 + 2))) MX zr hsX) ⟨(Nat.le_of_ble_eq_true rfl), (Nat.le_of_ble_eq_true rfl)⟩ ⟨(Nat.le_of_ble_eq_true rfl), (Nat.le_of_ble_eq_true rfl)⟩ kw_20_11 kw_20_12 kw_20_13 kw_1_2 kw_20_14 md_X11_warmth rfl (wX_c0 h cI MX) rfl rfl rfl rfl (Nat.le_of_ble_eq_true rfl) dL_law_314 (fun zH zlocs zhw => ?_)
        refine lv_aload_n zhx zhb dL_law_317 rfl (lv_at zhl 2 rfl) ?_
        refine lv_aload_n zhx zhb dL_law_318 rfl (lv_at zhl 0 rfl) ?_
        refine lv_iload_n zhx zhb dL_law_319 rfl (lv_at zhl 3 rfl) ?_
        refine lv_iconst (v := 1) zhx zhb dL_law_320 (by decide) ?_
        refine lv_iadd zhx zhb dL_law_321 ?_
        refine va_sld zhx zhb hX hbl hbA zhw.2.2 hin1 dL_law_322 ?_
        refine lv_aload_n zhx zhb dL_law_323 rfl (lv_at zhl 0 rfl) ?_
        refine lv_iload_n zhx zhb dL_law_324 rfl (lv_at zhl 3 rfl) ?_
        refine lv_iconst (v := 2) zhx zhb dL_law_325 (by decide) ?_
        refine lv_iadd zhx zhb dL_law_326 ?_
        refine va_sld zhx zhb hX hbl hbA zhw.2.2 hin2 dL_law_327 ?_
        refine l_cR (wx := wX h cI MX) (wr := wR g cI MR) (wr' := wR g cI MR) (As := [.int (xs (Int32.toNatClampNeg (x3 + 1))), .int (xs (Int32.toNatClampNeg (x3 + 2)))]) (rest := [.int zr]) C zhw zhl (cRef_warmth l D cI g (xs (Int32.toNatClampNeg (x3 + 1))) (xs (Int32.toNatClampNeg (x3 + 2))) MR zr hsR) ⟨(Nat.le_of_ble_eq_true rfl), (Nat.le_of_ble_eq_true rfl)⟩ ⟨(Nat.le_of_ble_eq_true rfl), (Nat.le_of_ble_eq_true rfl)⟩ kw_21_1 kw_21_2 kw_21_3 kw_1_5 kw_21_4 md_X12_warmth rfl (wR_c0 g cI MR) rfl rfl rfl rfl (Nat.le_of_ble_eq_true rfl) dL_law_328 (fun zH zlocs zhw => ?_)
        refine lv_icmp_eq (tgt := 974) zhx zhb dL_law_331 (by decide) (fun _ => ?_) (fun zc9 => absurd rfl zc9)
        exact tail MX MR _ _ _ hrel1 zhw zhl
      rcases Decidable.em (zk = 6) with zc9 | c1006
      · refine lv_tableIn (tgt := 336) (off := 304) zhx zhb dL_law_32 (by rw [zc9]; decide) (by rw [zc9]; decide) (by rw [zc9]; decide) (by decide) ?_
        refine lv_aload_n zhx zhb dL_law_336 rfl (lv_at zhl 1 rfl) ?_
        refine lv_aload_n zhx zhb dL_law_337 rfl (lv_at zhl 0 rfl) ?_
        refine lv_iload_n zhx zhb dL_law_338 rfl (lv_at zhl 3 rfl) ?_
        refine lv_iconst (v := 1) zhx zhb dL_law_339 (by decide) ?_
        refine lv_iadd zhx zhb dL_law_340 ?_
        refine va_sld zhx zhb hX hbl hbA zhw.2.2 hin1 dL_law_341 ?_
        obtain ⟨zr, MX1, MR1, hsX, hsR, hrel1⟩ := ho_hours (xs (Int32.toNatClampNeg (x3 + 1))) MX MR hrel
        refine l_cL (wx := wX h cI MX) (wx' := wX h cI MX1) (wr := wR g cI MR) (As := [.int (xs (Int32.toNatClampNeg (x3 + 1)))]) (rest := []) C zhw zhl (cOff_hours l D cI h N (xs (Int32.toNatClampNeg (x3 + 1))) MX zr MX1 hsX) ⟨(Nat.le_of_ble_eq_true rfl), (Nat.le_of_ble_eq_true rfl)⟩ ⟨(Nat.le_of_ble_eq_true rfl), (Nat.le_of_ble_eq_true rfl)⟩ kw_21_17 kw_21_18 kw_21_19 kw_1_2 kw_21_20 md_X11_hours rfl (wX_c0 h cI MX) rfl rfl rfl rfl (Nat.le_of_ble_eq_true rfl) dL_law_342 (fun zH zlocs zhw => ?_)
        refine lv_aload_n zhx zhb dL_law_345 rfl (lv_at zhl 2 rfl) ?_
        refine lv_aload_n zhx zhb dL_law_346 rfl (lv_at zhl 0 rfl) ?_
        refine lv_iload_n zhx zhb dL_law_347 rfl (lv_at zhl 3 rfl) ?_
        refine lv_iconst (v := 1) zhx zhb dL_law_348 (by decide) ?_
        refine lv_iadd zhx zhb dL_law_349 ?_
        refine va_sld zhx zhb hX hbl hbA zhw.2.2 hin1 dL_law_350 ?_
        refine l_cR (wx := wX h cI MX1) (wr := wR g cI MR) (wr' := wR g cI MR1) (As := [.int (xs (Int32.toNatClampNeg (x3 + 1)))]) (rest := [.int zr]) C zhw zhl (cRef_hours l D cI g N (xs (Int32.toNatClampNeg (x3 + 1))) MR zr MR1 hsR) ⟨(Nat.le_of_ble_eq_true rfl), (Nat.le_of_ble_eq_true rfl)⟩ ⟨(Nat.le_of_ble_eq_true rfl), (Nat.le_of_ble_eq_true rfl)⟩ kw_23_13 kw_23_14 kw_23_15 kw_1_5 kw_23_16 md_X12_hours rfl (wR_c0 g cI MR) rfl rfl rfl rfl (Nat.le_of_ble_eq_true rfl) dL_law_351 (fun zH zlocs zhw => ?_)
        refine lv_icmp_eq (tgt := 974) zhx zhb dL_law_354 (by decide) (fun _ => ?_) (fun zc9 => absurd rfl zc9)
        exact tail MX1 MR1 _ _ _ hrel1 zhw zhl
      rcases Decidable.em (zk = 7) with zc9 | c1007
      · refine lv_tableIn (tgt := 359) (off := 327) zhx zhb dL_law_32 (by rw [zc9]; decide) (by rw [zc9]; decide) (by rw [zc9]; decide) (by decide) ?_
        refine lv_aload_n zhx zhb dL_law_359 rfl (lv_at zhl 1 rfl) ?_
        refine lv_aload_n zhx zhb dL_law_360 rfl (lv_at zhl 0 rfl) ?_
        refine lv_iload_n zhx zhb dL_law_361 rfl (lv_at zhl 3 rfl) ?_
        refine lv_iconst (v := 1) zhx zhb dL_law_362 (by decide) ?_
        refine lv_iadd zhx zhb dL_law_363 ?_
        refine va_sld zhx zhb hX hbl hbA zhw.2.2 hin1 dL_law_364 ?_
        refine lv_aload_n zhx zhb dL_law_365 rfl (lv_at zhl 0 rfl) ?_
        refine lv_iload_n zhx zhb dL_law_366 rfl (lv_at zhl 3 rfl) ?_
        refine lv_iconst (v := 2) zhx zhb dL_law_367 (by decide) ?_
        refine lv_iadd zhx zhb dL_law_368 ?_
        refine va_sld zhx zhb hX hbl hbA zhw.2.2 hin2 dL_law_369 ?_
        obtain ⟨zr, MX1, MR1, hsX, hsR, hrel1⟩ := ho_move (xs (Int32.toNatClampNeg (x3 + 1))) (xs (Int32.toNatClampNeg (x3 + 2))) MX MR hrel
        refine l_cL (wx := wX h cI MX) (wx' := wX h cI MX1) (wr := wR g cI MR) (As := [.int (xs (Int32.toNatClampNeg (x3 + 1))), .int (xs (Int32.toNatClampNeg (x3 + 2)))]) (rest := []) C zhw zhl (cOff_move l D cI h N (xs (Int32.toNatClampNeg (x3 + 1))) (xs (Int32.toNatClampNeg (x3 + 2))) MX zr MX1 hsX) ⟨(Nat.le_of_ble_eq_true rfl), (Nat.le_of_ble_eq_true rfl)⟩ ⟨(Nat.le_of_ble_eq_true rfl), (Nat.le_of_ble_eq_true rfl)⟩ kw_24_2 kw_24_3 kw_24_4 kw_1_2 kw_24_5 md_X11_move rfl (wX_c0 h cI MX) rfl rfl rfl rfl (Nat.le_of_ble_eq_true rfl) dL_law_370 (fun zH zlocs zhw => ?_)
        refine lv_aload_n zhx zhb dL_law_373 rfl (lv_at zhl 2 rfl) ?_
        refine lv_aload_n zhx zhb dL_law_374 rfl (lv_at zhl 0 rfl) ?_
        refine lv_iload_n zhx zhb dL_law_375 rfl (lv_at zhl 3 rfl) ?_
        refine lv_iconst (v := 1) zhx zhb dL_law_376 (by decide) ?_
        refine lv_iadd zhx zhb dL_law_377 ?_
        refine va_sld zhx zhb hX hbl hbA zhw.2.2 hin1 dL_law_378 ?_
        refine lv_aload_n zhx zhb dL_law_379 rfl (lv_at zhl 0 rfl) ?_
        refine lv_iload_n zhx zhb dL_law_380 rfl (lv_at zhl 3 rfl) ?_
        refine lv_iconst (v := 2) zhx zhb dL_law_381 (by decide) ?_
        refine lv_iadd zhx zhb dL_law_382 ?_
        refine va_sld zhx zhb hX hbl hbA zhw.2.2 hin2 dL_law_383 ?_
        refine l_cR (wx := wX h cI MX1) (wr := wR g cI MR) (wr' := wR g cI MR1) (As := [.int (xs (Int32.toNatClampNeg (x3 + 1))), .int (xs (Int32.toNatClampNeg (x3 + 2)))]) (rest := [.int zr]) C zhw zhl (cRef_move l D cI g N (xs (Int32.toNatClampNeg (x3 + 1))) (xs (Int32.toNatClampNeg (x3 + 2))) MR zr MR1 hsR) ⟨(Nat.le_of_ble_eq_true rfl), (Nat.le_of_ble_eq_true rfl)⟩ ⟨(Nat.le_of_ble_eq_true rfl), (Nat.le_of_ble_eq_true rfl)⟩ kw_24_17 kw_24_18 kw_24_19 kw_1_5 kw_24_20 md_X12_move rfl (wR_c0 g cI MR) rfl rfl rfl rfl (Nat.le_of_ble_eq_true rfl) dL_law_384 (fun zH zlocs zhw => ?_)
        refine lv_icmp_eq (tgt := 974) zhx zhb dL_law_387 (by decide) (fun _ => ?_) (fun zc9 => absurd rfl zc9)
        exact tail MX1 MR1 _ _ _ hrel1 zhw zhl
      rcases Decidable.em (zk = 8) with zc9 | c1008
      · refine lv_tableIn (tgt := 392) (off := 360) zhx zhb dL_law_32 (by rw [zc9]; decide) (by rw [zc9]; decide) (by rw [zc9]; decide) (by decide) ?_
        refine lv_aload_n zhx zhb dL_law_392 rfl (lv_at zhl 1 rfl) ?_
        refine lv_aload_n zhx zhb dL_law_393 rfl (lv_at zhl 0 rfl) ?_
        refine lv_iload_n zhx zhb dL_law_394 rfl (lv_at zhl 3 rfl) ?_
        refine lv_iconst (v := 1) zhx zhb dL_law_395 (by decide) ?_
        refine lv_iadd zhx zhb dL_law_396 ?_
        refine va_sld zhx zhb hX hbl hbA zhw.2.2 hin1 dL_law_397 ?_
        refine lv_aload_n zhx zhb dL_law_398 rfl (lv_at zhl 0 rfl) ?_
        refine lv_iload_n zhx zhb dL_law_399 rfl (lv_at zhl 3 rfl) ?_
        refine lv_iconst (v := 2) zhx zhb dL_law_400 (by decide) ?_
        refine lv_iadd zhx zhb dL_law_401 ?_
        refine va_sld zhx zhb hX hbl hbA zhw.2.2 hin2 dL_law_402 ?_
        obtain ⟨zr, MX1, MR1, hsX, hsR, hrel1⟩ := ho_make (xs (Int32.toNatClampNeg (x3 + 1))) (xs (Int32.toNatClampNeg (x3 + 2))) MX MR hrel
        refine l_cL (wx := wX h cI MX) (wx' := wX h cI MX1) (wr := wR g cI MR) (As := [.int (xs (Int32.toNatClampNeg (x3 + 1))), .int (xs (Int32.toNatClampNeg (x3 + 2)))]) (rest := []) C zhw zhl (cOff_make l D cI h (xs (Int32.toNatClampNeg (x3 + 1))) (xs (Int32.toNatClampNeg (x3 + 2))) MX zr MX1 hsX) ⟨(Nat.le_of_ble_eq_true rfl), (Nat.le_of_ble_eq_true rfl)⟩ ⟨(Nat.le_of_ble_eq_true rfl), (Nat.le_of_ble_eq_true rfl)⟩ kw_25_1 kw_25_2 kw_25_3 kw_1_2 kw_25_4 md_X11_make rfl (wX_c0 h cI MX) rfl rfl rfl rfl (Nat.le_of_ble_eq_true rfl) dL_law_403 (fun zH zlocs zhw => ?_)
        refine lv_aload_n zhx zhb dL_law_406 rfl (lv_at zhl 2 rfl) ?_
        refine lv_aload_n zhx zhb dL_law_407 rfl (lv_at zhl 0 rfl) ?_
        refine lv_iload_n zhx zhb dL_law_408 rfl (lv_at zhl 3 rfl) ?_
        refine lv_iconst (v := 1) zhx zhb dL_law_409 (by decide) ?_
        refine lv_iadd zhx zhb dL_law_410 ?_
        refine va_sld zhx zhb hX hbl hbA zhw.2.2 hin1 dL_law_411 ?_
        refine lv_aload_n zhx zhb dL_law_412 rfl (lv_at zhl 0 rfl) ?_
        refine lv_iload_n zhx zhb dL_law_413 rfl (lv_at zhl 3 rfl) ?_
        refine lv_iconst (v := 2) zhx zhb dL_law_414 (by decide) ?_
        refine lv_iadd zhx zhb dL_law_415 ?_
        refine va_sld zhx zhb hX hbl hbA zhw.2.2 hin2 dL_law_416 ?_
        refine l_cR (wx := wX h cI MX1) (wr := wR g cI MR) (wr' := wR g cI MR1) (As := [.int (xs (Int32.toNatClampNeg (x3 + 1))), .int (xs (Int32.toNatClampNeg (x3 + 2)))]) (rest := [.int zr]) C zhw zhl (cRef_make l D cI g (xs (Int32.toNatClampNeg (x3 + 1))) (xs (Int32.toNatClampNeg (x3 + 2))) MR zr MR1 hsR) ⟨(Nat.le_of_ble_eq_true rfl), (Nat.le_of_ble_eq_true rfl)⟩ ⟨(Nat.le_of_ble_eq_true rfl), (Nat.le_of_ble_eq_true rfl)⟩ kw_25_12 kw_25_13 kw_25_14 kw_1_5 kw_25_15 md_X12_make rfl (wR_c0 g cI MR) rfl rfl rfl rfl (Nat.le_of_ble_eq_true rfl) dL_law_417 (fun zH zlocs zhw => ?_)
        refine lv_icmp_eq (tgt := 974) zhx zhb dL_law_420 (by decide) (fun _ => ?_) (fun zc9 => absurd rfl zc9)
        exact tail MX1 MR1 _ _ _ hrel1 zhw zhl
      rcases Decidable.em (zk = 9) with zc9 | c1009
      · refine lv_tableIn (tgt := 425) (off := 393) zhx zhb dL_law_32 (by rw [zc9]; decide) (by rw [zc9]; decide) (by rw [zc9]; decide) (by decide) ?_
        refine lv_aload_n zhx zhb dL_law_425 rfl (lv_at zhl 1 rfl) ?_
        refine lv_aload_n zhx zhb dL_law_426 rfl (lv_at zhl 0 rfl) ?_
        refine lv_iload_n zhx zhb dL_law_427 rfl (lv_at zhl 3 rfl) ?_
        refine lv_iconst (v := 1) zhx zhb dL_law_428 (by decide) ?_
        refine lv_iadd zhx zhb dL_law_429 ?_
        refine va_sld zhx zhb hX hbl hbA zhw.2.2 hin1 dL_law_430 ?_
        obtain ⟨zr, MX1, MR1, hsX, hsR, hrel1⟩ := ho_eat (xs (Int32.toNatClampNeg (x3 + 1))) MX MR hrel
        refine l_cL (wx := wX h cI MX) (wx' := wX h cI MX1) (wr := wR g cI MR) (As := [.int (xs (Int32.toNatClampNeg (x3 + 1)))]) (rest := []) C zhw zhl (cOff_eat l D cI h (xs (Int32.toNatClampNeg (x3 + 1))) MX zr MX1 hsX) ⟨(Nat.le_of_ble_eq_true rfl), (Nat.le_of_ble_eq_true rfl)⟩ ⟨(Nat.le_of_ble_eq_true rfl), (Nat.le_of_ble_eq_true rfl)⟩ kw_25_16 kw_25_17 kw_25_18 kw_1_2 kw_25_19 md_X11_eat rfl (wX_c0 h cI MX) rfl rfl rfl rfl (Nat.le_of_ble_eq_true rfl) dL_law_431 (fun zH zlocs zhw => ?_)
        refine lv_aload_n zhx zhb dL_law_434 rfl (lv_at zhl 2 rfl) ?_
        refine lv_aload_n zhx zhb dL_law_435 rfl (lv_at zhl 0 rfl) ?_
        refine lv_iload_n zhx zhb dL_law_436 rfl (lv_at zhl 3 rfl) ?_
        refine lv_iconst (v := 1) zhx zhb dL_law_437 (by decide) ?_
        refine lv_iadd zhx zhb dL_law_438 ?_
        refine va_sld zhx zhb hX hbl hbA zhw.2.2 hin1 dL_law_439 ?_
        refine l_cR (wx := wX h cI MX1) (wr := wR g cI MR) (wr' := wR g cI MR1) (As := [.int (xs (Int32.toNatClampNeg (x3 + 1)))]) (rest := [.int zr]) C zhw zhl (cRef_eat l D cI g (xs (Int32.toNatClampNeg (x3 + 1))) MR zr MR1 hsR) ⟨(Nat.le_of_ble_eq_true rfl), (Nat.le_of_ble_eq_true rfl)⟩ ⟨(Nat.le_of_ble_eq_true rfl), (Nat.le_of_ble_eq_true rfl)⟩ kw_26_4 kw_26_5 kw_26_6 kw_1_5 kw_26_7 md_X12_eat rfl (wR_c0 g cI MR) rfl rfl rfl rfl (Nat.le_of_ble_eq_true rfl) dL_law_440 (fun zH zlocs zhw => ?_)
        refine lv_icmp_eq (tgt := 974) zhx zhb dL_law_443 (by decide) (fun _ => ?_) (fun zc9 => absurd rfl zc9)
        exact tail MX1 MR1 _ _ _ hrel1 zhw zhl
      rcases Decidable.em (zk = 10) with zc9 | c1010
      · refine lv_tableIn (tgt := 448) (off := 416) zhx zhb dL_law_32 (by rw [zc9]; decide) (by rw [zc9]; decide) (by rw [zc9]; decide) (by decide) ?_
        refine lv_aload_n zhx zhb dL_law_448 rfl (lv_at zhl 1 rfl) ?_
        refine lv_aload_n zhx zhb dL_law_449 rfl (lv_at zhl 0 rfl) ?_
        refine lv_iload_n zhx zhb dL_law_450 rfl (lv_at zhl 3 rfl) ?_
        refine lv_iconst (v := 1) zhx zhb dL_law_451 (by decide) ?_
        refine lv_iadd zhx zhb dL_law_452 ?_
        refine va_sld zhx zhb hX hbl hbA zhw.2.2 hin1 dL_law_453 ?_
        obtain ⟨zr, MX1, MR1, hsX, hsR, hrel1⟩ := ho_throwOut (xs (Int32.toNatClampNeg (x3 + 1))) MX MR hrel
        refine l_cL (wx := wX h cI MX) (wx' := wX h cI MX1) (wr := wR g cI MR) (As := [.int (xs (Int32.toNatClampNeg (x3 + 1)))]) (rest := []) C zhw zhl (cOff_throwOut l D cI h (xs (Int32.toNatClampNeg (x3 + 1))) MX zr MX1 hsX) ⟨(Nat.le_of_ble_eq_true rfl), (Nat.le_of_ble_eq_true rfl)⟩ ⟨(Nat.le_of_ble_eq_true rfl), (Nat.le_of_ble_eq_true rfl)⟩ kw_26_12 kw_26_13 kw_26_14 kw_1_2 kw_26_15 md_X11_throwOut rfl (wX_c0 h cI MX) rfl rfl rfl rfl (Nat.le_of_ble_eq_true rfl) dL_law_454 (fun zH zlocs zhw => ?_)
        refine lv_aload_n zhx zhb dL_law_457 rfl (lv_at zhl 2 rfl) ?_
        refine lv_aload_n zhx zhb dL_law_458 rfl (lv_at zhl 0 rfl) ?_
        refine lv_iload_n zhx zhb dL_law_459 rfl (lv_at zhl 3 rfl) ?_
        refine lv_iconst (v := 1) zhx zhb dL_law_460 (by decide) ?_
        refine lv_iadd zhx zhb dL_law_461 ?_
        refine va_sld zhx zhb hX hbl hbA zhw.2.2 hin1 dL_law_462 ?_
        refine l_cR (wx := wX h cI MX1) (wr := wR g cI MR) (wr' := wR g cI MR1) (As := [.int (xs (Int32.toNatClampNeg (x3 + 1)))]) (rest := [.int zr]) C zhw zhl (cRef_throwOut l D cI g (xs (Int32.toNatClampNeg (x3 + 1))) MR zr MR1 hsR) ⟨(Nat.le_of_ble_eq_true rfl), (Nat.le_of_ble_eq_true rfl)⟩ ⟨(Nat.le_of_ble_eq_true rfl), (Nat.le_of_ble_eq_true rfl)⟩ kw_26_16 kw_26_17 kw_26_18 kw_1_5 kw_26_19 md_X12_throwOut rfl (wR_c0 g cI MR) rfl rfl rfl rfl (Nat.le_of_ble_eq_true rfl) dL_law_463 (fun zH zlocs zhw => ?_)
        refine lv_icmp_eq (tgt := 974) zhx zhb dL_law_466 (by decide) (fun _ => ?_) (fun zc9 => absurd rfl zc9)
        exact tail MX1 MR1 _ _ _ hrel1 zhw zhl
      rcases Decidable.em (zk = 11) with zc9 | c1011
      · refine lv_tableIn (tgt := 471) (off := 439) zhx zhb dL_law_32 (by rw [zc9]; decide) (by rw [zc9]; decide) (by rw [zc9]; decide) (by decide) ?_
        refine lv_aload_n zhx zhb dL_law_471 rfl (lv_at zhl 1 rfl) ?_
        refine lv_aload_n zhx zhb dL_law_472 rfl (lv_at zhl 0 rfl) ?_
        refine lv_iload_n zhx zhb dL_law_473 rfl (lv_at zhl 3 rfl) ?_
        refine lv_iconst (v := 1) zhx zhb dL_law_474 (by decide) ?_
        refine lv_iadd zhx zhb dL_law_475 ?_
        refine va_sld zhx zhb hX hbl hbA zhw.2.2 hin1 dL_law_476 ?_
        refine lv_aload_n zhx zhb dL_law_477 rfl (lv_at zhl 0 rfl) ?_
        refine lv_iload_n zhx zhb dL_law_478 rfl (lv_at zhl 3 rfl) ?_
        refine lv_iconst (v := 2) zhx zhb dL_law_479 (by decide) ?_
        refine lv_iadd zhx zhb dL_law_480 ?_
        refine va_sld zhx zhb hX hbl hbA zhw.2.2 hin2 dL_law_481 ?_
        obtain ⟨zr, hsX, hsR, hrel1⟩ := ho_offIn (xs (Int32.toNatClampNeg (x3 + 1))) (xs (Int32.toNatClampNeg (x3 + 2))) MX MR hrel
        refine l_cL (wx := wX h cI MX) (wx' := wX h cI MX) (wr := wR g cI MR) (As := [.int (xs (Int32.toNatClampNeg (x3 + 1))), .int (xs (Int32.toNatClampNeg (x3 + 2)))]) (rest := []) C zhw zhl (cOff_offIn l D cI h N (xs (Int32.toNatClampNeg (x3 + 1))) (xs (Int32.toNatClampNeg (x3 + 2))) MX zr hsX) ⟨(Nat.le_of_ble_eq_true rfl), (Nat.le_of_ble_eq_true rfl)⟩ ⟨(Nat.le_of_ble_eq_true rfl), (Nat.le_of_ble_eq_true rfl)⟩ kw_26_20 kw_26_21 kw_26_22 kw_1_2 kw_26_23 md_X11_offIn rfl (wX_c0 h cI MX) rfl rfl rfl rfl (Nat.le_of_ble_eq_true rfl) dL_law_482 (fun zH zlocs zhw => ?_)
        refine lv_aload_n zhx zhb dL_law_485 rfl (lv_at zhl 2 rfl) ?_
        refine lv_aload_n zhx zhb dL_law_486 rfl (lv_at zhl 0 rfl) ?_
        refine lv_iload_n zhx zhb dL_law_487 rfl (lv_at zhl 3 rfl) ?_
        refine lv_iconst (v := 1) zhx zhb dL_law_488 (by decide) ?_
        refine lv_iadd zhx zhb dL_law_489 ?_
        refine va_sld zhx zhb hX hbl hbA zhw.2.2 hin1 dL_law_490 ?_
        refine lv_aload_n zhx zhb dL_law_491 rfl (lv_at zhl 0 rfl) ?_
        refine lv_iload_n zhx zhb dL_law_492 rfl (lv_at zhl 3 rfl) ?_
        refine lv_iconst (v := 2) zhx zhb dL_law_493 (by decide) ?_
        refine lv_iadd zhx zhb dL_law_494 ?_
        refine va_sld zhx zhb hX hbl hbA zhw.2.2 hin2 dL_law_495 ?_
        refine l_cR (wx := wX h cI MX) (wr := wR g cI MR) (wr' := wR g cI MR) (As := [.int (xs (Int32.toNatClampNeg (x3 + 1))), .int (xs (Int32.toNatClampNeg (x3 + 2)))]) (rest := [.int zr]) C zhw zhl (cRef_offIn l D cI g N (xs (Int32.toNatClampNeg (x3 + 1))) (xs (Int32.toNatClampNeg (x3 + 2))) MR zr hsR) ⟨(Nat.le_of_ble_eq_true rfl), (Nat.le_of_ble_eq_true rfl)⟩ ⟨(Nat.le_of_ble_eq_true rfl), (Nat.le_of_ble_eq_true rfl)⟩ kw_27_5 kw_27_6 kw_27_7 kw_1_5 kw_27_8 md_X12_offIn rfl (wR_c0 g cI MR) rfl rfl rfl rfl (Nat.le_of_ble_eq_true rfl) dL_law_496 (fun zH zlocs zhw => ?_)
        refine lv_icmp_eq (tgt := 974) zhx zhb dL_law_499 (by decide) (fun _ => ?_) (fun zc9 => absurd rfl zc9)
        exact tail MX MR _ _ _ hrel1 zhw zhl
      rcases Decidable.em (zk = 12) with zc9 | c1012
      · refine lv_tableIn (tgt := 504) (off := 472) zhx zhb dL_law_32 (by rw [zc9]; decide) (by rw [zc9]; decide) (by rw [zc9]; decide) (by decide) ?_
        refine lv_aload_n zhx zhb dL_law_504 rfl (lv_at zhl 1 rfl) ?_
        refine lv_aload_n zhx zhb dL_law_505 rfl (lv_at zhl 0 rfl) ?_
        refine lv_iload_n zhx zhb dL_law_506 rfl (lv_at zhl 3 rfl) ?_
        refine lv_iconst (v := 1) zhx zhb dL_law_507 (by decide) ?_
        refine lv_iadd zhx zhb dL_law_508 ?_
        refine va_sld zhx zhb hX hbl hbA zhw.2.2 hin1 dL_law_509 ?_
        obtain ⟨zr, MR1, hsX, hsR, hrel1⟩ := ho_lost (xs (Int32.toNatClampNeg (x3 + 1))) MX MR hrel
        refine l_cL (wx := wX h cI MX) (wx' := wX h cI MX) (wr := wR g cI MR) (As := [.int (xs (Int32.toNatClampNeg (x3 + 1)))]) (rest := []) C zhw zhl (cOff_lost l D cI h N (xs (Int32.toNatClampNeg (x3 + 1))) MX zr hsX) ⟨(Nat.le_of_ble_eq_true rfl), (Nat.le_of_ble_eq_true rfl)⟩ ⟨(Nat.le_of_ble_eq_true rfl), (Nat.le_of_ble_eq_true rfl)⟩ kw_27_9 kw_27_10 kw_27_11 kw_1_2 kw_27_12 md_X11_lost rfl (wX_c0 h cI MX) rfl rfl rfl rfl (Nat.le_of_ble_eq_true rfl) dL_law_510 (fun zH zlocs zhw => ?_)
        refine lv_aload_n zhx zhb dL_law_513 rfl (lv_at zhl 2 rfl) ?_
        refine lv_aload_n zhx zhb dL_law_514 rfl (lv_at zhl 0 rfl) ?_
        refine lv_iload_n zhx zhb dL_law_515 rfl (lv_at zhl 3 rfl) ?_
        refine lv_iconst (v := 1) zhx zhb dL_law_516 (by decide) ?_
        refine lv_iadd zhx zhb dL_law_517 ?_
        refine va_sld zhx zhb hX hbl hbA zhw.2.2 hin1 dL_law_518 ?_
        refine l_cR (wx := wX h cI MX) (wr := wR g cI MR) (wr' := wR g cI MR1) (As := [.int (xs (Int32.toNatClampNeg (x3 + 1)))]) (rest := [.int zr]) C zhw zhl (cRef_lost l D cI g N (xs (Int32.toNatClampNeg (x3 + 1))) MR zr MR1 hsR) ⟨(Nat.le_of_ble_eq_true rfl), (Nat.le_of_ble_eq_true rfl)⟩ ⟨(Nat.le_of_ble_eq_true rfl), (Nat.le_of_ble_eq_true rfl)⟩ kw_28_1 kw_28_2 kw_28_3 kw_1_5 kw_28_4 md_X12_lost rfl (wR_c0 g cI MR) rfl rfl rfl rfl (Nat.le_of_ble_eq_true rfl) dL_law_519 (fun zH zlocs zhw => ?_)
        refine lv_icmp_eq (tgt := 974) zhx zhb dL_law_522 (by decide) (fun _ => ?_) (fun zc9 => absurd rfl zc9)
        exact tail MX MR1 _ _ _ hrel1 zhw zhl
      rcases Decidable.em (zk = 13) with zc9 | c1013
      · refine lv_tableIn (tgt := 527) (off := 495) zhx zhb dL_law_32 (by rw [zc9]; decide) (by rw [zc9]; decide) (by rw [zc9]; decide) (by decide) ?_
        refine lv_aload_n zhx zhb dL_law_527 rfl (lv_at zhl 1 rfl) ?_
        refine lv_aload_n zhx zhb dL_law_528 rfl (lv_at zhl 0 rfl) ?_
        refine lv_iload_n zhx zhb dL_law_529 rfl (lv_at zhl 3 rfl) ?_
        refine lv_iconst (v := 1) zhx zhb dL_law_530 (by decide) ?_
        refine lv_iadd zhx zhb dL_law_531 ?_
        refine va_sld zhx zhb hX hbl hbA zhw.2.2 hin1 dL_law_532 ?_
        refine lv_aload_n zhx zhb dL_law_533 rfl (lv_at zhl 0 rfl) ?_
        refine lv_iload_n zhx zhb dL_law_534 rfl (lv_at zhl 3 rfl) ?_
        refine lv_iconst (v := 2) zhx zhb dL_law_535 (by decide) ?_
        refine lv_iadd zhx zhb dL_law_536 ?_
        refine va_sld zhx zhb hX hbl hbA zhw.2.2 hin2 dL_law_537 ?_
        obtain ⟨zr, MX1, MR1, hsX, hsR, hrel1⟩ := ho_plan (xs (Int32.toNatClampNeg (x3 + 1))) (xs (Int32.toNatClampNeg (x3 + 2))) MX MR hrel
        refine l_cL (wx := wX h cI MX) (wx' := wX h cI MX1) (wr := wR g cI MR) (As := [.int (xs (Int32.toNatClampNeg (x3 + 1))), .int (xs (Int32.toNatClampNeg (x3 + 2)))]) (rest := []) C zhw zhl (cOff_plan l D cI h N (xs (Int32.toNatClampNeg (x3 + 1))) (xs (Int32.toNatClampNeg (x3 + 2))) MX zr MX1 hsX) ⟨(Nat.le_of_ble_eq_true rfl), (Nat.le_of_ble_eq_true rfl)⟩ ⟨(Nat.le_of_ble_eq_true rfl), (Nat.le_of_ble_eq_true rfl)⟩ kw_28_21 kw_28_22 kw_28_23 kw_1_2 kw_29_0 md_X11_plan rfl (wX_c0 h cI MX) rfl rfl rfl rfl (Nat.le_of_ble_eq_true rfl) dL_law_538 (fun zH zlocs zhw => ?_)
        refine lv_aload_n zhx zhb dL_law_541 rfl (lv_at zhl 2 rfl) ?_
        refine lv_aload_n zhx zhb dL_law_542 rfl (lv_at zhl 0 rfl) ?_
        refine lv_iload_n zhx zhb dL_law_543 rfl (lv_at zhl 3 rfl) ?_
        refine lv_iconst (v := 1) zhx zhb dL_law_544 (by decide) ?_
        refine lv_iadd zhx zhb dL_law_545 ?_
        refine va_sld zhx zhb hX hbl hbA zhw.2.2 hin1 dL_law_546 ?_
        refine lv_aload_n zhx zhb dL_law_547 rfl (lv_at zhl 0 rfl) ?_
        refine lv_iload_n zhx zhb dL_law_548 rfl (lv_at zhl 3 rfl) ?_
        refine lv_iconst (v := 2) zhx zhb dL_law_549 (by decide) ?_
        refine lv_iadd zhx zhb dL_law_550 ?_
        refine va_sld zhx zhb hX hbl hbA zhw.2.2 hin2 dL_law_551 ?_
        refine l_cR (wx := wX h cI MX1) (wr := wR g cI MR) (wr' := wR g cI MR1) (As := [.int (xs (Int32.toNatClampNeg (x3 + 1))), .int (xs (Int32.toNatClampNeg (x3 + 2)))]) (rest := [.int zr]) C zhw zhl (cRef_plan l D cI g N (xs (Int32.toNatClampNeg (x3 + 1))) (xs (Int32.toNatClampNeg (x3 + 2))) MR zr MR1 hsR) ⟨(Nat.le_of_ble_eq_true rfl), (Nat.le_of_ble_eq_true rfl)⟩ ⟨(Nat.le_of_ble_eq_true rfl), (Nat.le_of_ble_eq_true rfl)⟩ kw_31_23 kw_32_0 kw_32_1 kw_1_5 kw_32_2 md_X12_plan rfl (wR_c0 g cI MR) rfl rfl rfl rfl (Nat.le_of_ble_eq_true rfl) dL_law_552 (fun zH zlocs zhw => ?_)
        refine lv_icmp_eq (tgt := 974) zhx zhb dL_law_555 (by decide) (fun _ => ?_) (fun zc9 => absurd rfl zc9)
        exact tail MX1 MR1 _ _ _ hrel1 zhw zhl
      rcases Decidable.em (zk = 14) with zc9 | c1014
      · refine lv_tableIn (tgt := 560) (off := 528) zhx zhb dL_law_32 (by rw [zc9]; decide) (by rw [zc9]; decide) (by rw [zc9]; decide) (by decide) ?_
        refine lv_aload_n zhx zhb dL_law_560 rfl (lv_at zhl 1 rfl) ?_
        refine lv_aload_n zhx zhb dL_law_561 rfl (lv_at zhl 0 rfl) ?_
        refine lv_iload_n zhx zhb dL_law_562 rfl (lv_at zhl 3 rfl) ?_
        refine lv_iconst (v := 1) zhx zhb dL_law_563 (by decide) ?_
        refine lv_iadd zhx zhb dL_law_564 ?_
        refine va_sld zhx zhb hX hbl hbA zhw.2.2 hin1 dL_law_565 ?_
        refine lv_aload_n zhx zhb dL_law_566 rfl (lv_at zhl 0 rfl) ?_
        refine lv_iload_n zhx zhb dL_law_567 rfl (lv_at zhl 3 rfl) ?_
        refine lv_iconst (v := 2) zhx zhb dL_law_568 (by decide) ?_
        refine lv_iadd zhx zhb dL_law_569 ?_
        refine va_sld zhx zhb hX hbl hbA zhw.2.2 hin2 dL_law_570 ?_
        obtain ⟨zr, MR1, hsX, hsR, hrel1⟩ := ho_freeze (xs (Int32.toNatClampNeg (x3 + 1))) (xs (Int32.toNatClampNeg (x3 + 2))) MX MR hrel
        refine l_cL (wx := wX h cI MX) (wx' := wX h cI MX) (wr := wR g cI MR) (As := [.int (xs (Int32.toNatClampNeg (x3 + 1))), .int (xs (Int32.toNatClampNeg (x3 + 2)))]) (rest := []) C zhw zhl (cOff_freeze l D cI h N (xs (Int32.toNatClampNeg (x3 + 1))) (xs (Int32.toNatClampNeg (x3 + 2))) MX zr hsX) ⟨(Nat.le_of_ble_eq_true rfl), (Nat.le_of_ble_eq_true rfl)⟩ ⟨(Nat.le_of_ble_eq_true rfl), (Nat.le_of_ble_eq_true rfl)⟩ kw_33_9 kw_33_10 kw_33_11 kw_1_2 kw_33_12 md_X11_freeze rfl (wX_c0 h cI MX) rfl rfl rfl rfl (Nat.le_of_ble_eq_true rfl) dL_law_571 (fun zH zlocs zhw => ?_)
        refine lv_aload_n zhx zhb dL_law_574 rfl (lv_at zhl 2 rfl) ?_
        refine lv_aload_n zhx zhb dL_law_575 rfl (lv_at zhl 0 rfl) ?_
        refine lv_iload_n zhx zhb dL_law_576 rfl (lv_at zhl 3 rfl) ?_
        refine lv_iconst (v := 1) zhx zhb dL_law_577 (by decide) ?_
        refine lv_iadd zhx zhb dL_law_578 ?_
        refine va_sld zhx zhb hX hbl hbA zhw.2.2 hin1 dL_law_579 ?_
        refine lv_aload_n zhx zhb dL_law_580 rfl (lv_at zhl 0 rfl) ?_
        refine lv_iload_n zhx zhb dL_law_581 rfl (lv_at zhl 3 rfl) ?_
        refine lv_iconst (v := 2) zhx zhb dL_law_582 (by decide) ?_
        refine lv_iadd zhx zhb dL_law_583 ?_
        refine va_sld zhx zhb hX hbl hbA zhw.2.2 hin2 dL_law_584 ?_
        refine l_cR (wx := wX h cI MX) (wr := wR g cI MR) (wr' := wR g cI MR1) (As := [.int (xs (Int32.toNatClampNeg (x3 + 1))), .int (xs (Int32.toNatClampNeg (x3 + 2)))]) (rest := [.int zr]) C zhw zhl (cRef_freeze l D cI g N (xs (Int32.toNatClampNeg (x3 + 1))) (xs (Int32.toNatClampNeg (x3 + 2))) MR zr MR1 hsR) ⟨(Nat.le_of_ble_eq_true rfl), (Nat.le_of_ble_eq_true rfl)⟩ ⟨(Nat.le_of_ble_eq_true rfl), (Nat.le_of_ble_eq_true rfl)⟩ kw_33_23 kw_34_0 kw_34_1 kw_1_5 kw_34_2 md_X12_freeze rfl (wR_c0 g cI MR) rfl rfl rfl rfl (Nat.le_of_ble_eq_true rfl) dL_law_585 (fun zH zlocs zhw => ?_)
        refine lv_icmp_eq (tgt := 974) zhx zhb dL_law_588 (by decide) (fun _ => ?_) (fun zc9 => absurd rfl zc9)
        exact tail MX MR1 _ _ _ hrel1 zhw zhl
      rcases Decidable.em (zk = 15) with zc9 | c1015
      · refine lv_tableIn (tgt := 593) (off := 561) zhx zhb dL_law_32 (by rw [zc9]; decide) (by rw [zc9]; decide) (by rw [zc9]; decide) (by decide) ?_
        refine lv_aload_n zhx zhb dL_law_593 rfl (lv_at zhl 1 rfl) ?_
        refine lv_aload_n zhx zhb dL_law_594 rfl (lv_at zhl 0 rfl) ?_
        refine lv_iload_n zhx zhb dL_law_595 rfl (lv_at zhl 3 rfl) ?_
        refine lv_iconst (v := 1) zhx zhb dL_law_596 (by decide) ?_
        refine lv_iadd zhx zhb dL_law_597 ?_
        refine va_sld zhx zhb hX hbl hbA zhw.2.2 hin1 dL_law_598 ?_
        refine lv_aload_n zhx zhb dL_law_599 rfl (lv_at zhl 0 rfl) ?_
        refine lv_iload_n zhx zhb dL_law_600 rfl (lv_at zhl 3 rfl) ?_
        refine lv_iconst (v := 2) zhx zhb dL_law_601 (by decide) ?_
        refine lv_iadd zhx zhb dL_law_602 ?_
        refine va_sld zhx zhb hX hbl hbA zhw.2.2 hin2 dL_law_603 ?_
        refine lv_aload_n zhx zhb dL_law_604 rfl (lv_at zhl 0 rfl) ?_
        refine lv_iload_n zhx zhb dL_law_605 rfl (lv_at zhl 3 rfl) ?_
        refine lv_iconst (v := 3) zhx zhb dL_law_606 (by decide) ?_
        refine lv_iadd zhx zhb dL_law_607 ?_
        refine va_sld zhx zhb hX hbl hbA zhw.2.2 hin3 dL_law_608 ?_
        obtain ⟨zr, MX1, MR1, hsX, hsR, hrel1⟩ := ho_lie (xs (Int32.toNatClampNeg (x3 + 1))) (xs (Int32.toNatClampNeg (x3 + 2))) (xs (Int32.toNatClampNeg (x3 + 3))) MX MR hrel
        refine l_cL (wx := wX h cI MX) (wx' := wX h cI MX1) (wr := wR g cI MR) (As := [.int (xs (Int32.toNatClampNeg (x3 + 1))), .int (xs (Int32.toNatClampNeg (x3 + 2))), .int (xs (Int32.toNatClampNeg (x3 + 3)))]) (rest := []) C zhw zhl (cOff_lie l D cI h N (xs (Int32.toNatClampNeg (x3 + 1))) (xs (Int32.toNatClampNeg (x3 + 2))) (xs (Int32.toNatClampNeg (x3 + 3))) MX zr MX1 hsX) ⟨(Nat.le_of_ble_eq_true rfl), (Nat.le_of_ble_eq_true rfl)⟩ ⟨(Nat.le_of_ble_eq_true rfl), (Nat.le_of_ble_eq_true rfl)⟩ kw_34_3 kw_34_4 kw_34_5 kw_1_2 kw_34_6 md_X11_lie rfl (wX_c0 h cI MX) rfl rfl rfl rfl (Nat.le_of_ble_eq_true rfl) dL_law_609 (fun zH zlocs zhw => ?_)
        refine lv_aload_n zhx zhb dL_law_612 rfl (lv_at zhl 2 rfl) ?_
        refine lv_aload_n zhx zhb dL_law_613 rfl (lv_at zhl 0 rfl) ?_
        refine lv_iload_n zhx zhb dL_law_614 rfl (lv_at zhl 3 rfl) ?_
        refine lv_iconst (v := 1) zhx zhb dL_law_615 (by decide) ?_
        refine lv_iadd zhx zhb dL_law_616 ?_
        refine va_sld zhx zhb hX hbl hbA zhw.2.2 hin1 dL_law_617 ?_
        refine lv_aload_n zhx zhb dL_law_618 rfl (lv_at zhl 0 rfl) ?_
        refine lv_iload_n zhx zhb dL_law_619 rfl (lv_at zhl 3 rfl) ?_
        refine lv_iconst (v := 2) zhx zhb dL_law_620 (by decide) ?_
        refine lv_iadd zhx zhb dL_law_621 ?_
        refine va_sld zhx zhb hX hbl hbA zhw.2.2 hin2 dL_law_622 ?_
        refine lv_aload_n zhx zhb dL_law_623 rfl (lv_at zhl 0 rfl) ?_
        refine lv_iload_n zhx zhb dL_law_624 rfl (lv_at zhl 3 rfl) ?_
        refine lv_iconst (v := 3) zhx zhb dL_law_625 (by decide) ?_
        refine lv_iadd zhx zhb dL_law_626 ?_
        refine va_sld zhx zhb hX hbl hbA zhw.2.2 hin3 dL_law_627 ?_
        refine l_cR (wx := wX h cI MX1) (wr := wR g cI MR) (wr' := wR g cI MR1) (As := [.int (xs (Int32.toNatClampNeg (x3 + 1))), .int (xs (Int32.toNatClampNeg (x3 + 2))), .int (xs (Int32.toNatClampNeg (x3 + 3)))]) (rest := [.int zr]) C zhw zhl (cRef_lie l D cI g N (xs (Int32.toNatClampNeg (x3 + 1))) (xs (Int32.toNatClampNeg (x3 + 2))) (xs (Int32.toNatClampNeg (x3 + 3))) MR zr MR1 hsR) ⟨(Nat.le_of_ble_eq_true rfl), (Nat.le_of_ble_eq_true rfl)⟩ ⟨(Nat.le_of_ble_eq_true rfl), (Nat.le_of_ble_eq_true rfl)⟩ kw_35_17 kw_35_18 kw_35_19 kw_1_5 kw_35_20 md_X12_lie rfl (wR_c0 g cI MR) rfl rfl rfl rfl (Nat.le_of_ble_eq_true rfl) dL_law_628 (fun zH zlocs zhw => ?_)
        refine lv_icmp_eq (tgt := 974) zhx zhb dL_law_631 (by decide) (fun _ => ?_) (fun zc9 => absurd rfl zc9)
        exact tail MX1 MR1 _ _ _ hrel1 zhw zhl
      rcases Decidable.em (zk = 16) with zc9 | c1016
      · refine lv_tableIn (tgt := 636) (off := 604) zhx zhb dL_law_32 (by rw [zc9]; decide) (by rw [zc9]; decide) (by rw [zc9]; decide) (by decide) ?_
        refine lv_aload_n zhx zhb dL_law_636 rfl (lv_at zhl 1 rfl) ?_
        refine lv_aload_n zhx zhb dL_law_637 rfl (lv_at zhl 0 rfl) ?_
        refine lv_iload_n zhx zhb dL_law_638 rfl (lv_at zhl 3 rfl) ?_
        refine lv_iconst (v := 1) zhx zhb dL_law_639 (by decide) ?_
        refine lv_iadd zhx zhb dL_law_640 ?_
        refine va_sld zhx zhb hX hbl hbA zhw.2.2 hin1 dL_law_641 ?_
        obtain ⟨zr, hsX, hsR, hrel1⟩ := ho_expect (xs (Int32.toNatClampNeg (x3 + 1))) MX MR hrel
        refine l_cL (wx := wX h cI MX) (wx' := wX h cI MX) (wr := wR g cI MR) (As := [.int (xs (Int32.toNatClampNeg (x3 + 1)))]) (rest := []) C zhw zhl (cOff_expect l D cI h N (xs (Int32.toNatClampNeg (x3 + 1))) MX zr hsX) ⟨(Nat.le_of_ble_eq_true rfl), (Nat.le_of_ble_eq_true rfl)⟩ ⟨(Nat.le_of_ble_eq_true rfl), (Nat.le_of_ble_eq_true rfl)⟩ kw_36_5 kw_36_6 kw_36_7 kw_1_2 kw_36_8 md_X11_expect rfl (wX_c0 h cI MX) rfl rfl rfl rfl (Nat.le_of_ble_eq_true rfl) dL_law_642 (fun zH zlocs zhw => ?_)
        refine lv_aload_n zhx zhb dL_law_645 rfl (lv_at zhl 2 rfl) ?_
        refine lv_aload_n zhx zhb dL_law_646 rfl (lv_at zhl 0 rfl) ?_
        refine lv_iload_n zhx zhb dL_law_647 rfl (lv_at zhl 3 rfl) ?_
        refine lv_iconst (v := 1) zhx zhb dL_law_648 (by decide) ?_
        refine lv_iadd zhx zhb dL_law_649 ?_
        refine va_sld zhx zhb hX hbl hbA zhw.2.2 hin1 dL_law_650 ?_
        refine l_cR (wx := wX h cI MX) (wr := wR g cI MR) (wr' := wR g cI MR) (As := [.int (xs (Int32.toNatClampNeg (x3 + 1)))]) (rest := [.int zr]) C zhw zhl (cRef_expect l D cI g N (xs (Int32.toNatClampNeg (x3 + 1))) MR zr hsR) ⟨(Nat.le_of_ble_eq_true rfl), (Nat.le_of_ble_eq_true rfl)⟩ ⟨(Nat.le_of_ble_eq_true rfl), (Nat.le_of_ble_eq_true rfl)⟩ kw_36_20 kw_36_21 kw_36_22 kw_1_5 kw_36_23 md_X12_expect rfl (wR_c0 g cI MR) rfl rfl rfl rfl (Nat.le_of_ble_eq_true rfl) dL_law_651 (fun zH zlocs zhw => ?_)
        refine lv_icmp_eq (tgt := 974) zhx zhb dL_law_654 (by decide) (fun _ => ?_) (fun zc9 => absurd rfl zc9)
        exact tail MX MR _ _ _ hrel1 zhw zhl
      rcases Decidable.em (zk = 17) with zc9 | c1017
      · refine lv_tableIn (tgt := 659) (off := 627) zhx zhb dL_law_32 (by rw [zc9]; decide) (by rw [zc9]; decide) (by rw [zc9]; decide) (by decide) ?_
        refine lv_aload_n zhx zhb dL_law_659 rfl (lv_at zhl 1 rfl) ?_
        obtain ⟨zr, hsX, hsR, hrel1⟩ := ho_buy MX MR hrel
        refine l_cL (wx := wX h cI MX) (wx' := wX h cI MX) (wr := wR g cI MR) (As := []) (rest := []) C zhw zhl (cOff_buy l D cI h N MX zr hsX) ⟨(Nat.le_of_ble_eq_true rfl), (Nat.le_of_ble_eq_true rfl)⟩ ⟨(Nat.le_of_ble_eq_true rfl), (Nat.le_of_ble_eq_true rfl)⟩ kw_37_5 kw_37_6 kw_37_7 kw_1_2 kw_37_8 md_X11_buy rfl (wX_c0 h cI MX) rfl rfl rfl rfl (Nat.le_of_ble_eq_true rfl) dL_law_660 (fun zH zlocs zhw => ?_)
        refine lv_aload_n zhx zhb dL_law_663 rfl (lv_at zhl 2 rfl) ?_
        refine l_cR (wx := wX h cI MX) (wr := wR g cI MR) (wr' := wR g cI MR) (As := []) (rest := [.int zr]) C zhw zhl (cRef_buy l D cI g N MR zr hsR) ⟨(Nat.le_of_ble_eq_true rfl), (Nat.le_of_ble_eq_true rfl)⟩ ⟨(Nat.le_of_ble_eq_true rfl), (Nat.le_of_ble_eq_true rfl)⟩ kw_37_14 kw_37_15 kw_37_16 kw_1_5 kw_37_17 md_X12_buy rfl (wR_c0 g cI MR) rfl rfl rfl rfl (Nat.le_of_ble_eq_true rfl) dL_law_664 (fun zH zlocs zhw => ?_)
        refine lv_icmp_eq (tgt := 974) zhx zhb dL_law_667 (by decide) (fun _ => ?_) (fun zc9 => absurd rfl zc9)
        exact tail MX MR _ _ _ hrel1 zhw zhl
      rcases Decidable.em (zk = 18) with zc9 | c1018
      · refine lv_tableIn (tgt := 672) (off := 640) zhx zhb dL_law_32 (by rw [zc9]; decide) (by rw [zc9]; decide) (by rw [zc9]; decide) (by decide) ?_
        refine lv_aload_n zhx zhb dL_law_672 rfl (lv_at zhl 1 rfl) ?_
        refine lv_aload_n zhx zhb dL_law_673 rfl (lv_at zhl 0 rfl) ?_
        refine lv_iload_n zhx zhb dL_law_674 rfl (lv_at zhl 3 rfl) ?_
        refine lv_iconst (v := 1) zhx zhb dL_law_675 (by decide) ?_
        refine lv_iadd zhx zhb dL_law_676 ?_
        refine va_sld zhx zhb hX hbl hbA zhw.2.2 hin1 dL_law_677 ?_
        obtain ⟨zr, hsX, hsR, hrel1⟩ := ho_print (xs (Int32.toNatClampNeg (x3 + 1))) MX MR hrel
        refine l_cL (wx := wX h cI MX) (wx' := wX h cI MX) (wr := wR g cI MR) (As := [.int (xs (Int32.toNatClampNeg (x3 + 1)))]) (rest := []) C zhw zhl (cOff_print l D cI h N (xs (Int32.toNatClampNeg (x3 + 1))) MX zr hsX) ⟨(Nat.le_of_ble_eq_true rfl), (Nat.le_of_ble_eq_true rfl)⟩ ⟨(Nat.le_of_ble_eq_true rfl), (Nat.le_of_ble_eq_true rfl)⟩ kw_37_18 kw_37_19 kw_37_20 kw_1_2 kw_37_21 md_X11_print rfl (wX_c0 h cI MX) rfl rfl rfl rfl (Nat.le_of_ble_eq_true rfl) dL_law_678 (fun zH zlocs zhw => ?_)
        refine lv_aload_n zhx zhb dL_law_681 rfl (lv_at zhl 2 rfl) ?_
        refine lv_aload_n zhx zhb dL_law_682 rfl (lv_at zhl 0 rfl) ?_
        refine lv_iload_n zhx zhb dL_law_683 rfl (lv_at zhl 3 rfl) ?_
        refine lv_iconst (v := 1) zhx zhb dL_law_684 (by decide) ?_
        refine lv_iadd zhx zhb dL_law_685 ?_
        refine va_sld zhx zhb hX hbl hbA zhw.2.2 hin1 dL_law_686 ?_
        refine l_cR (wx := wX h cI MX) (wr := wR g cI MR) (wr' := wR g cI MR) (As := [.int (xs (Int32.toNatClampNeg (x3 + 1)))]) (rest := [.int zr]) C zhw zhl (cRef_print l D cI g N (xs (Int32.toNatClampNeg (x3 + 1))) MR zr hsR) ⟨(Nat.le_of_ble_eq_true rfl), (Nat.le_of_ble_eq_true rfl)⟩ ⟨(Nat.le_of_ble_eq_true rfl), (Nat.le_of_ble_eq_true rfl)⟩ kw_38_6 kw_38_7 kw_38_8 kw_1_5 kw_38_9 md_X12_print rfl (wR_c0 g cI MR) rfl rfl rfl rfl (Nat.le_of_ble_eq_true rfl) dL_law_687 (fun zH zlocs zhw => ?_)
        refine lv_icmp_eq (tgt := 974) zhx zhb dL_law_690 (by decide) (fun _ => ?_) (fun zc9 => absurd rfl zc9)
        exact tail MX MR _ _ _ hrel1 zhw zhl
      rcases Decidable.em (zk = 19) with zc9 | c1019
      · refine lv_tableIn (tgt := 695) (off := 663) zhx zhb dL_law_32 (by rw [zc9]; decide) (by rw [zc9]; decide) (by rw [zc9]; decide) (by decide) ?_
        refine lv_aload_n zhx zhb dL_law_695 rfl (lv_at zhl 1 rfl) ?_
        refine lv_aload_n zhx zhb dL_law_696 rfl (lv_at zhl 0 rfl) ?_
        refine lv_iload_n zhx zhb dL_law_697 rfl (lv_at zhl 3 rfl) ?_
        refine lv_iconst (v := 1) zhx zhb dL_law_698 (by decide) ?_
        refine lv_iadd zhx zhb dL_law_699 ?_
        refine va_sld zhx zhb hX hbl hbA zhw.2.2 hin1 dL_law_700 ?_
        obtain ⟨zr, hsX, hsR, hrel1⟩ := ho_smell (xs (Int32.toNatClampNeg (x3 + 1))) MX MR hrel
        refine l_cL (wx := wX h cI MX) (wx' := wX h cI MX) (wr := wR g cI MR) (As := [.int (xs (Int32.toNatClampNeg (x3 + 1)))]) (rest := []) C zhw zhl (cOff_smell l D cI h N (xs (Int32.toNatClampNeg (x3 + 1))) MX zr hsX) ⟨(Nat.le_of_ble_eq_true rfl), (Nat.le_of_ble_eq_true rfl)⟩ ⟨(Nat.le_of_ble_eq_true rfl), (Nat.le_of_ble_eq_true rfl)⟩ kw_38_10 kw_38_11 kw_38_12 kw_1_2 kw_38_13 md_X11_smell rfl (wX_c0 h cI MX) rfl rfl rfl rfl (Nat.le_of_ble_eq_true rfl) dL_law_701 (fun zH zlocs zhw => ?_)
        refine lv_aload_n zhx zhb dL_law_704 rfl (lv_at zhl 2 rfl) ?_
        refine lv_aload_n zhx zhb dL_law_705 rfl (lv_at zhl 0 rfl) ?_
        refine lv_iload_n zhx zhb dL_law_706 rfl (lv_at zhl 3 rfl) ?_
        refine lv_iconst (v := 1) zhx zhb dL_law_707 (by decide) ?_
        refine lv_iadd zhx zhb dL_law_708 ?_
        refine va_sld zhx zhb hX hbl hbA zhw.2.2 hin1 dL_law_709 ?_
        refine l_cR (wx := wX h cI MX) (wr := wR g cI MR) (wr' := wR g cI MR) (As := [.int (xs (Int32.toNatClampNeg (x3 + 1)))]) (rest := [.int zr]) C zhw zhl (cRef_smell l D cI g N (xs (Int32.toNatClampNeg (x3 + 1))) MR zr hsR) ⟨(Nat.le_of_ble_eq_true rfl), (Nat.le_of_ble_eq_true rfl)⟩ ⟨(Nat.le_of_ble_eq_true rfl), (Nat.le_of_ble_eq_true rfl)⟩ kw_38_18 kw_38_19 kw_38_20 kw_1_5 kw_38_21 md_X12_smell rfl (wR_c0 g cI MR) rfl rfl rfl rfl (Nat.le_of_ble_eq_true rfl) dL_law_710 (fun zH zlocs zhw => ?_)
        refine lv_icmp_eq (tgt := 974) zhx zhb dL_law_713 (by decide) (fun _ => ?_) (fun zc9 => absurd rfl zc9)
        exact tail MX MR _ _ _ hrel1 zhw zhl
      rcases Decidable.em (zk = 20) with zc9 | c1020
      · refine lv_tableIn (tgt := 718) (off := 686) zhx zhb dL_law_32 (by rw [zc9]; decide) (by rw [zc9]; decide) (by rw [zc9]; decide) (by decide) ?_
        refine lv_aload_n zhx zhb dL_law_718 rfl (lv_at zhl 1 rfl) ?_
        obtain ⟨zr, hsX, hsR, hrel1⟩ := ho_line MX MR hrel
        refine l_cL (wx := wX h cI MX) (wx' := wX h cI MX) (wr := wR g cI MR) (As := []) (rest := []) C zhw zhl (cOff_line l D cI h N MX zr hsX) ⟨(Nat.le_of_ble_eq_true rfl), (Nat.le_of_ble_eq_true rfl)⟩ ⟨(Nat.le_of_ble_eq_true rfl), (Nat.le_of_ble_eq_true rfl)⟩ kw_39_3 kw_39_4 kw_39_5 kw_1_2 kw_39_6 md_X11_line rfl (wX_c0 h cI MX) rfl rfl rfl rfl (Nat.le_of_ble_eq_true rfl) dL_law_719 (fun zH zlocs zhw => ?_)
        refine lv_aload_n zhx zhb dL_law_722 rfl (lv_at zhl 2 rfl) ?_
        refine l_cR (wx := wX h cI MX) (wr := wR g cI MR) (wr' := wR g cI MR) (As := []) (rest := [.int zr]) C zhw zhl (cRef_line l D cI g N MR zr hsR) ⟨(Nat.le_of_ble_eq_true rfl), (Nat.le_of_ble_eq_true rfl)⟩ ⟨(Nat.le_of_ble_eq_true rfl), (Nat.le_of_ble_eq_true rfl)⟩ kw_39_12 kw_39_13 kw_39_14 kw_1_5 kw_39_15 md_X12_line rfl (wR_c0 g cI MR) rfl rfl rfl rfl (Nat.le_of_ble_eq_true rfl) dL_law_723 (fun zH zlocs zhw => ?_)
        refine lv_icmp_eq (tgt := 974) zhx zhb dL_law_726 (by decide) (fun _ => ?_) (fun zc9 => absurd rfl zc9)
        exact tail MX MR _ _ _ hrel1 zhw zhl
      rcases Decidable.em (zk = 21) with zc9 | c1021
      · refine lv_tableIn (tgt := 731) (off := 699) zhx zhb dL_law_32 (by rw [zc9]; decide) (by rw [zc9]; decide) (by rw [zc9]; decide) (by decide) ?_
        refine lv_aload_n zhx zhb dL_law_731 rfl (lv_at zhl 1 rfl) ?_
        refine lv_aload_n zhx zhb dL_law_732 rfl (lv_at zhl 0 rfl) ?_
        refine lv_iload_n zhx zhb dL_law_733 rfl (lv_at zhl 3 rfl) ?_
        refine lv_iconst (v := 1) zhx zhb dL_law_734 (by decide) ?_
        refine lv_iadd zhx zhb dL_law_735 ?_
        refine va_sld zhx zhb hX hbl hbA zhw.2.2 hin1 dL_law_736 ?_
        refine lv_aload_n zhx zhb dL_law_737 rfl (lv_at zhl 0 rfl) ?_
        refine lv_iload_n zhx zhb dL_law_738 rfl (lv_at zhl 3 rfl) ?_
        refine lv_iconst (v := 2) zhx zhb dL_law_739 (by decide) ?_
        refine lv_iadd zhx zhb dL_law_740 ?_
        refine va_sld zhx zhb hX hbl hbA zhw.2.2 hin2 dL_law_741 ?_
        refine lv_if_eq (tgt := 749) zhx zhb dL_law_742 (by decide) (fun zc9 => ?_) (fun zc9 => ?_)
        · have zc8 := zc9
          refine lv_iconst (v := 0) zhx zhb dL_law_749 (by decide) ?_
          obtain ⟨zr, MR1, hsX, hsR, hrel1⟩ := ho_cut (xs (Int32.toNatClampNeg (x3 + 1))) 0 MX MR (Or.inl rfl) hrel
          refine l_cL (wx := wX h cI MX) (wx' := wX h cI MX) (wr := wR g cI MR) (As := [.int (xs (Int32.toNatClampNeg (x3 + 1))), .int 0]) (rest := []) C zhw zhl (cOff_cut l D cI h N (xs (Int32.toNatClampNeg (x3 + 1))) 0 MX zr hsX) ⟨(Nat.le_of_ble_eq_true rfl), (Nat.le_of_ble_eq_true rfl)⟩ ⟨(Nat.le_of_ble_eq_true rfl), (Nat.le_of_ble_eq_true rfl)⟩ kw_39_16 kw_39_17 kw_39_18 kw_1_2 kw_39_19 md_X11_cut rfl (wX_c0 h cI MX) rfl rfl rfl rfl (Nat.le_of_ble_eq_true rfl) dL_law_750 (fun zH zlocs zhw => ?_)
          refine lv_aload_n zhx zhb dL_law_753 rfl (lv_at zhl 2 rfl) ?_
          refine lv_aload_n zhx zhb dL_law_754 rfl (lv_at zhl 0 rfl) ?_
          refine lv_iload_n zhx zhb dL_law_755 rfl (lv_at zhl 3 rfl) ?_
          refine lv_iconst (v := 1) zhx zhb dL_law_756 (by decide) ?_
          refine lv_iadd zhx zhb dL_law_757 ?_
          refine va_sld zhx zhb hX hbl hbA zhw.2.2 hin1 dL_law_758 ?_
          refine lv_aload_n zhx zhb dL_law_759 rfl (lv_at zhl 0 rfl) ?_
          refine lv_iload_n zhx zhb dL_law_760 rfl (lv_at zhl 3 rfl) ?_
          refine lv_iconst (v := 2) zhx zhb dL_law_761 (by decide) ?_
          refine lv_iadd zhx zhb dL_law_762 ?_
          refine va_sld zhx zhb hX hbl hbA zhw.2.2 hin2 dL_law_763 ?_
          refine lv_if_eq (tgt := 771) zhx zhb dL_law_764 (by decide) (fun zc9 => ?_) (fun zc9 => ?_)
          · have zc8 := zc9
            refine lv_iconst (v := 0) zhx zhb dL_law_771 (by decide) ?_
            refine l_cR (wx := wX h cI MX) (wr := wR g cI MR) (wr' := wR g cI MR1) (As := [.int (xs (Int32.toNatClampNeg (x3 + 1))), .int 0]) (rest := [.int zr]) C zhw zhl (cRef_cut l D cI g N (xs (Int32.toNatClampNeg (x3 + 1))) 0 MR zr MR1 hsR) ⟨(Nat.le_of_ble_eq_true rfl), (Nat.le_of_ble_eq_true rfl)⟩ ⟨(Nat.le_of_ble_eq_true rfl), (Nat.le_of_ble_eq_true rfl)⟩ kw_40_4 kw_40_5 kw_40_6 kw_1_5 kw_40_7 md_X12_cut rfl (wR_c0 g cI MR) rfl rfl rfl rfl (Nat.le_of_ble_eq_true rfl) dL_law_772 (fun zH zlocs zhw => ?_)
            refine lv_icmp_eq (tgt := 974) zhx zhb dL_law_775 (by decide) (fun _ => ?_) (fun zc9 => absurd rfl zc9)
            exact tail MX MR1 _ _ _ hrel1 zhw zhl
          · exact absurd zc8 zc9
        · have zc8 := zc9
          refine lv_iconst (v := 1) zhx zhb dL_law_745 (by decide) ?_
          refine lv_goto (tgt := 750) zhx zhb dL_law_746 (by decide) ?_
          obtain ⟨zr, MR1, hsX, hsR, hrel1⟩ := ho_cut (xs (Int32.toNatClampNeg (x3 + 1))) 1 MX MR (Or.inr rfl) hrel
          refine l_cL (wx := wX h cI MX) (wx' := wX h cI MX) (wr := wR g cI MR) (As := [.int (xs (Int32.toNatClampNeg (x3 + 1))), .int 1]) (rest := []) C zhw zhl (cOff_cut l D cI h N (xs (Int32.toNatClampNeg (x3 + 1))) 1 MX zr hsX) ⟨(Nat.le_of_ble_eq_true rfl), (Nat.le_of_ble_eq_true rfl)⟩ ⟨(Nat.le_of_ble_eq_true rfl), (Nat.le_of_ble_eq_true rfl)⟩ kw_39_16 kw_39_17 kw_39_18 kw_1_2 kw_39_19 md_X11_cut rfl (wX_c0 h cI MX) rfl rfl rfl rfl (Nat.le_of_ble_eq_true rfl) dL_law_750 (fun zH zlocs zhw => ?_)
          refine lv_aload_n zhx zhb dL_law_753 rfl (lv_at zhl 2 rfl) ?_
          refine lv_aload_n zhx zhb dL_law_754 rfl (lv_at zhl 0 rfl) ?_
          refine lv_iload_n zhx zhb dL_law_755 rfl (lv_at zhl 3 rfl) ?_
          refine lv_iconst (v := 1) zhx zhb dL_law_756 (by decide) ?_
          refine lv_iadd zhx zhb dL_law_757 ?_
          refine va_sld zhx zhb hX hbl hbA zhw.2.2 hin1 dL_law_758 ?_
          refine lv_aload_n zhx zhb dL_law_759 rfl (lv_at zhl 0 rfl) ?_
          refine lv_iload_n zhx zhb dL_law_760 rfl (lv_at zhl 3 rfl) ?_
          refine lv_iconst (v := 2) zhx zhb dL_law_761 (by decide) ?_
          refine lv_iadd zhx zhb dL_law_762 ?_
          refine va_sld zhx zhb hX hbl hbA zhw.2.2 hin2 dL_law_763 ?_
          refine lv_if_eq (tgt := 771) zhx zhb dL_law_764 (by decide) (fun zc9 => ?_) (fun zc9 => ?_)
          · exact absurd zc9 zc8
          · have zc8 := zc9
            refine lv_iconst (v := 1) zhx zhb dL_law_767 (by decide) ?_
            refine lv_goto (tgt := 772) zhx zhb dL_law_768 (by decide) ?_
            refine l_cR (wx := wX h cI MX) (wr := wR g cI MR) (wr' := wR g cI MR1) (As := [.int (xs (Int32.toNatClampNeg (x3 + 1))), .int 1]) (rest := [.int zr]) C zhw zhl (cRef_cut l D cI g N (xs (Int32.toNatClampNeg (x3 + 1))) 1 MR zr MR1 hsR) ⟨(Nat.le_of_ble_eq_true rfl), (Nat.le_of_ble_eq_true rfl)⟩ ⟨(Nat.le_of_ble_eq_true rfl), (Nat.le_of_ble_eq_true rfl)⟩ kw_40_4 kw_40_5 kw_40_6 kw_1_5 kw_40_7 md_X12_cut rfl (wR_c0 g cI MR) rfl rfl rfl rfl (Nat.le_of_ble_eq_true rfl) dL_law_772 (fun zH zlocs zhw => ?_)
            refine lv_icmp_eq (tgt := 974) zhx zhb dL_law_775 (by decide) (fun _ => ?_) (fun zc9 => absurd rfl zc9)
            exact tail MX MR1 _ _ _ hrel1 zhw zhl
      rcases Decidable.em (zk = 22) with zc9 | c1022
      · refine lv_tableIn (tgt := 780) (off := 748) zhx zhb dL_law_32 (by rw [zc9]; decide) (by rw [zc9]; decide) (by rw [zc9]; decide) (by decide) ?_
        refine lv_aload_n zhx zhb dL_law_780 rfl (lv_at zhl 1 rfl) ?_
        refine lv_aload_n zhx zhb dL_law_781 rfl (lv_at zhl 0 rfl) ?_
        refine lv_iload_n zhx zhb dL_law_782 rfl (lv_at zhl 3 rfl) ?_
        refine lv_iconst (v := 1) zhx zhb dL_law_783 (by decide) ?_
        refine lv_iadd zhx zhb dL_law_784 ?_
        refine va_sld zhx zhb hX hbl hbA zhw.2.2 hin1 dL_law_785 ?_
        refine lv_aload_n zhx zhb dL_law_786 rfl (lv_at zhl 0 rfl) ?_
        refine lv_iload_n zhx zhb dL_law_787 rfl (lv_at zhl 3 rfl) ?_
        refine lv_iconst (v := 2) zhx zhb dL_law_788 (by decide) ?_
        refine lv_iadd zhx zhb dL_law_789 ?_
        refine va_sld zhx zhb hX hbl hbA zhw.2.2 hin2 dL_law_790 ?_
        obtain ⟨zr, hsX, hsR, hrel1⟩ := ho_ill (xs (Int32.toNatClampNeg (x3 + 1))) (xs (Int32.toNatClampNeg (x3 + 2))) MX MR hrel
        refine l_cL (wx := wX h cI MX) (wx' := wX h cI MX) (wr := wR g cI MR) (As := [.int (xs (Int32.toNatClampNeg (x3 + 1))), .int (xs (Int32.toNatClampNeg (x3 + 2)))]) (rest := []) C zhw zhl (cOff_ill l D cI h N (xs (Int32.toNatClampNeg (x3 + 1))) (xs (Int32.toNatClampNeg (x3 + 2))) MX zr hsX) ⟨(Nat.le_of_ble_eq_true rfl), (Nat.le_of_ble_eq_true rfl)⟩ ⟨(Nat.le_of_ble_eq_true rfl), (Nat.le_of_ble_eq_true rfl)⟩ kw_40_8 kw_40_9 kw_40_10 kw_1_2 kw_40_11 md_X11_ill rfl (wX_c0 h cI MX) rfl rfl rfl rfl (Nat.le_of_ble_eq_true rfl) dL_law_791 (fun zH zlocs zhw => ?_)
        refine lv_aload_n zhx zhb dL_law_794 rfl (lv_at zhl 2 rfl) ?_
        refine lv_aload_n zhx zhb dL_law_795 rfl (lv_at zhl 0 rfl) ?_
        refine lv_iload_n zhx zhb dL_law_796 rfl (lv_at zhl 3 rfl) ?_
        refine lv_iconst (v := 1) zhx zhb dL_law_797 (by decide) ?_
        refine lv_iadd zhx zhb dL_law_798 ?_
        refine va_sld zhx zhb hX hbl hbA zhw.2.2 hin1 dL_law_799 ?_
        refine lv_aload_n zhx zhb dL_law_800 rfl (lv_at zhl 0 rfl) ?_
        refine lv_iload_n zhx zhb dL_law_801 rfl (lv_at zhl 3 rfl) ?_
        refine lv_iconst (v := 2) zhx zhb dL_law_802 (by decide) ?_
        refine lv_iadd zhx zhb dL_law_803 ?_
        refine va_sld zhx zhb hX hbl hbA zhw.2.2 hin2 dL_law_804 ?_
        refine l_cR (wx := wX h cI MX) (wr := wR g cI MR) (wr' := wR g cI MR) (As := [.int (xs (Int32.toNatClampNeg (x3 + 1))), .int (xs (Int32.toNatClampNeg (x3 + 2)))]) (rest := [.int zr]) C zhw zhl (cRef_ill l D cI g N (xs (Int32.toNatClampNeg (x3 + 1))) (xs (Int32.toNatClampNeg (x3 + 2))) MR zr hsR) ⟨(Nat.le_of_ble_eq_true rfl), (Nat.le_of_ble_eq_true rfl)⟩ ⟨(Nat.le_of_ble_eq_true rfl), (Nat.le_of_ble_eq_true rfl)⟩ kw_41_0 kw_41_1 kw_41_2 kw_1_5 kw_41_3 md_X12_ill rfl (wR_c0 g cI MR) rfl rfl rfl rfl (Nat.le_of_ble_eq_true rfl) dL_law_805 (fun zH zlocs zhw => ?_)
        refine lv_icmp_eq (tgt := 974) zhx zhb dL_law_808 (by decide) (fun _ => ?_) (fun zc9 => absurd rfl zc9)
        exact tail MX MR _ _ _ hrel1 zhw zhl
      rcases Decidable.em (zk = 23) with zc9 | c1023
      · refine lv_tableIn (tgt := 813) (off := 781) zhx zhb dL_law_32 (by rw [zc9]; decide) (by rw [zc9]; decide) (by rw [zc9]; decide) (by decide) ?_
        refine lv_aload_n zhx zhb dL_law_813 rfl (lv_at zhl 1 rfl) ?_
        refine lv_aload_n zhx zhb dL_law_814 rfl (lv_at zhl 0 rfl) ?_
        refine lv_iload_n zhx zhb dL_law_815 rfl (lv_at zhl 3 rfl) ?_
        refine lv_iconst (v := 1) zhx zhb dL_law_816 (by decide) ?_
        refine lv_iadd zhx zhb dL_law_817 ?_
        refine va_sld zhx zhb hX hbl hbA zhw.2.2 hin1 dL_law_818 ?_
        refine lv_aload_n zhx zhb dL_law_819 rfl (lv_at zhl 0 rfl) ?_
        refine lv_iload_n zhx zhb dL_law_820 rfl (lv_at zhl 3 rfl) ?_
        refine lv_iconst (v := 2) zhx zhb dL_law_821 (by decide) ?_
        refine lv_iadd zhx zhb dL_law_822 ?_
        refine va_sld zhx zhb hX hbl hbA zhw.2.2 hin2 dL_law_823 ?_
        obtain ⟨zr, MX1, MR1, hsX, hsR, hrel1⟩ := ho_span (xs (Int32.toNatClampNeg (x3 + 1))) (xs (Int32.toNatClampNeg (x3 + 2))) MX MR hrel
        refine l_cL (wx := wX h cI MX) (wx' := wX h cI MX1) (wr := wR g cI MR) (As := [.int (xs (Int32.toNatClampNeg (x3 + 1))), .int (xs (Int32.toNatClampNeg (x3 + 2)))]) (rest := []) C zhw zhl (cOff_span l D cI h (xs (Int32.toNatClampNeg (x3 + 1))) (xs (Int32.toNatClampNeg (x3 + 2))) MX zr MX1 hsX) ⟨(Nat.le_of_ble_eq_true rfl), (Nat.le_of_ble_eq_true rfl)⟩ ⟨(Nat.le_of_ble_eq_true rfl), (Nat.le_of_ble_eq_true rfl)⟩ kw_41_9 kw_41_10 kw_41_11 kw_1_2 kw_41_12 md_X11_span rfl (wX_c0 h cI MX) rfl rfl rfl rfl (Nat.le_of_ble_eq_true rfl) dL_law_824 (fun zH zlocs zhw => ?_)
        refine lv_aload_n zhx zhb dL_law_827 rfl (lv_at zhl 2 rfl) ?_
        refine lv_aload_n zhx zhb dL_law_828 rfl (lv_at zhl 0 rfl) ?_
        refine lv_iload_n zhx zhb dL_law_829 rfl (lv_at zhl 3 rfl) ?_
        refine lv_iconst (v := 1) zhx zhb dL_law_830 (by decide) ?_
        refine lv_iadd zhx zhb dL_law_831 ?_
        refine va_sld zhx zhb hX hbl hbA zhw.2.2 hin1 dL_law_832 ?_
        refine lv_aload_n zhx zhb dL_law_833 rfl (lv_at zhl 0 rfl) ?_
        refine lv_iload_n zhx zhb dL_law_834 rfl (lv_at zhl 3 rfl) ?_
        refine lv_iconst (v := 2) zhx zhb dL_law_835 (by decide) ?_
        refine lv_iadd zhx zhb dL_law_836 ?_
        refine va_sld zhx zhb hX hbl hbA zhw.2.2 hin2 dL_law_837 ?_
        refine l_cR (wx := wX h cI MX1) (wr := wR g cI MR) (wr' := wR g cI MR1) (As := [.int (xs (Int32.toNatClampNeg (x3 + 1))), .int (xs (Int32.toNatClampNeg (x3 + 2)))]) (rest := [.int zr]) C zhw zhl (cRef_span l D cI g (xs (Int32.toNatClampNeg (x3 + 1))) (xs (Int32.toNatClampNeg (x3 + 2))) MR zr MR1 hsR) ⟨(Nat.le_of_ble_eq_true rfl), (Nat.le_of_ble_eq_true rfl)⟩ ⟨(Nat.le_of_ble_eq_true rfl), (Nat.le_of_ble_eq_true rfl)⟩ kw_41_18 kw_41_19 kw_41_20 kw_1_5 kw_41_21 md_X12_span rfl (wR_c0 g cI MR) rfl rfl rfl rfl (Nat.le_of_ble_eq_true rfl) dL_law_838 (fun zH zlocs zhw => ?_)
        refine lv_icmp_eq (tgt := 974) zhx zhb dL_law_841 (by decide) (fun _ => ?_) (fun zc9 => absurd rfl zc9)
        exact tail MX1 MR1 _ _ _ hrel1 zhw zhl
      rcases Decidable.em (zk = 24) with zc9 | c1024
      · refine lv_tableIn (tgt := 846) (off := 814) zhx zhb dL_law_32 (by rw [zc9]; decide) (by rw [zc9]; decide) (by rw [zc9]; decide) (by decide) ?_
        refine lv_aload_n zhx zhb dL_law_846 rfl (lv_at zhl 1 rfl) ?_
        obtain ⟨zr, MX1, MR1, hsX, hsR, hrel1⟩ := ho_noSpans MX MR hrel
        refine l_cL (wx := wX h cI MX) (wx' := wX h cI MX1) (wr := wR g cI MR) (As := []) (rest := []) C zhw zhl (cOff_noSpans l D cI h MX zr MX1 hsX) ⟨(Nat.le_of_ble_eq_true rfl), (Nat.le_of_ble_eq_true rfl)⟩ ⟨(Nat.le_of_ble_eq_true rfl), (Nat.le_of_ble_eq_true rfl)⟩ kw_41_23 kw_42_0 kw_42_1 kw_1_2 kw_42_2 md_X11_noSpans rfl (wX_c0 h cI MX) rfl rfl rfl rfl (Nat.le_of_ble_eq_true rfl) dL_law_847 (fun zH zlocs zhw => ?_)
        refine lv_aload_n zhx zhb dL_law_850 rfl (lv_at zhl 2 rfl) ?_
        refine l_cR (wx := wX h cI MX1) (wr := wR g cI MR) (wr' := wR g cI MR1) (As := []) (rest := [.int zr]) C zhw zhl (cRef_noSpans l D cI g MR zr MR1 hsR) ⟨(Nat.le_of_ble_eq_true rfl), (Nat.le_of_ble_eq_true rfl)⟩ ⟨(Nat.le_of_ble_eq_true rfl), (Nat.le_of_ble_eq_true rfl)⟩ kw_42_3 kw_42_4 kw_42_5 kw_1_5 kw_42_6 md_X12_noSpans rfl (wR_c0 g cI MR) rfl rfl rfl rfl (Nat.le_of_ble_eq_true rfl) dL_law_851 (fun zH zlocs zhw => ?_)
        refine lv_icmp_eq (tgt := 974) zhx zhb dL_law_854 (by decide) (fun _ => ?_) (fun zc9 => absurd rfl zc9)
        exact tail MX1 MR1 _ _ _ hrel1 zhw zhl
      rcases Decidable.em (zk = 25) with zc9 | c1025
      · refine lv_tableIn (tgt := 859) (off := 827) zhx zhb dL_law_32 (by rw [zc9]; decide) (by rw [zc9]; decide) (by rw [zc9]; decide) (by decide) ?_
        refine lv_aload_n zhx zhb dL_law_859 rfl (lv_at zhl 1 rfl) ?_
        refine lv_aload_n zhx zhb dL_law_860 rfl (lv_at zhl 0 rfl) ?_
        refine lv_iload_n zhx zhb dL_law_861 rfl (lv_at zhl 3 rfl) ?_
        refine lv_iconst (v := 1) zhx zhb dL_law_862 (by decide) ?_
        refine lv_iadd zhx zhb dL_law_863 ?_
        refine va_sld zhx zhb hX hbl hbA zhw.2.2 hin1 dL_law_864 ?_
        obtain ⟨zr, hsX, hsR, hrel1⟩ := ho_law (xs (Int32.toNatClampNeg (x3 + 1))) MX MR hrel
        refine l_cL (wx := wX h cI MX) (wx' := wX h cI MX) (wr := wR g cI MR) (As := [.int (xs (Int32.toNatClampNeg (x3 + 1)))]) (rest := []) C zhw zhl (cOff_law l D cI h N (xs (Int32.toNatClampNeg (x3 + 1))) MX zr hsX) ⟨(Nat.le_of_ble_eq_true rfl), (Nat.le_of_ble_eq_true rfl)⟩ ⟨(Nat.le_of_ble_eq_true rfl), (Nat.le_of_ble_eq_true rfl)⟩ kw_42_7 kw_42_8 kw_42_9 kw_1_2 kw_42_10 md_X11_law rfl (wX_c0 h cI MX) rfl rfl rfl rfl (Nat.le_of_ble_eq_true rfl) dL_law_865 (fun zH zlocs zhw => ?_)
        refine lv_aload_n zhx zhb dL_law_868 rfl (lv_at zhl 2 rfl) ?_
        refine lv_aload_n zhx zhb dL_law_869 rfl (lv_at zhl 0 rfl) ?_
        refine lv_iload_n zhx zhb dL_law_870 rfl (lv_at zhl 3 rfl) ?_
        refine lv_iconst (v := 1) zhx zhb dL_law_871 (by decide) ?_
        refine lv_iadd zhx zhb dL_law_872 ?_
        refine va_sld zhx zhb hX hbl hbA zhw.2.2 hin1 dL_law_873 ?_
        refine l_cR (wx := wX h cI MX) (wr := wR g cI MR) (wr' := wR g cI MR) (As := [.int (xs (Int32.toNatClampNeg (x3 + 1)))]) (rest := [.int zr]) C zhw zhl (cRef_law l D cI g N (xs (Int32.toNatClampNeg (x3 + 1))) MR zr hsR) ⟨(Nat.le_of_ble_eq_true rfl), (Nat.le_of_ble_eq_true rfl)⟩ ⟨(Nat.le_of_ble_eq_true rfl), (Nat.le_of_ble_eq_true rfl)⟩ kw_42_20 kw_42_21 kw_42_22 kw_1_5 kw_42_23 md_X12_law rfl (wR_c0 g cI MR) rfl rfl rfl rfl (Nat.le_of_ble_eq_true rfl) dL_law_874 (fun zH zlocs zhw => ?_)
        refine lv_icmp_eq (tgt := 974) zhx zhb dL_law_877 (by decide) (fun _ => ?_) (fun zc9 => absurd rfl zc9)
        exact tail MX MR _ _ _ hrel1 zhw zhl
      rcases Decidable.em (zk = 26) with zc9 | c1026
      · refine lv_tableIn (tgt := 882) (off := 850) zhx zhb dL_law_32 (by rw [zc9]; decide) (by rw [zc9]; decide) (by rw [zc9]; decide) (by decide) ?_
        refine lv_aload_n zhx zhb dL_law_882 rfl (lv_at zhl 1 rfl) ?_
        refine lv_aload_n zhx zhb dL_law_883 rfl (lv_at zhl 0 rfl) ?_
        refine lv_iload_n zhx zhb dL_law_884 rfl (lv_at zhl 3 rfl) ?_
        refine lv_iconst (v := 1) zhx zhb dL_law_885 (by decide) ?_
        refine lv_iadd zhx zhb dL_law_886 ?_
        refine va_sld zhx zhb hX hbl hbA zhw.2.2 hin1 dL_law_887 ?_
        refine lv_aload_n zhx zhb dL_law_888 rfl (lv_at zhl 0 rfl) ?_
        refine lv_iload_n zhx zhb dL_law_889 rfl (lv_at zhl 3 rfl) ?_
        refine lv_iconst (v := 2) zhx zhb dL_law_890 (by decide) ?_
        refine lv_iadd zhx zhb dL_law_891 ?_
        refine va_sld zhx zhb hX hbl hbA zhw.2.2 hin2 dL_law_892 ?_
        refine lv_aload_n zhx zhb dL_law_893 rfl (lv_at zhl 0 rfl) ?_
        refine lv_iload_n zhx zhb dL_law_894 rfl (lv_at zhl 3 rfl) ?_
        refine lv_iconst (v := 3) zhx zhb dL_law_895 (by decide) ?_
        refine lv_iadd zhx zhb dL_law_896 ?_
        refine va_sld zhx zhb hX hbl hbA zhw.2.2 hin3 dL_law_897 ?_
        obtain ⟨zr, MX1, MR1, hsX, hsR, hrel1⟩ := ho_habit (xs (Int32.toNatClampNeg (x3 + 1))) (xs (Int32.toNatClampNeg (x3 + 2))) (xs (Int32.toNatClampNeg (x3 + 3))) MX MR hrel
        refine l_cL (wx := wX h cI MX) (wx' := wX h cI MX1) (wr := wR g cI MR) (As := [.int (xs (Int32.toNatClampNeg (x3 + 1))), .int (xs (Int32.toNatClampNeg (x3 + 2))), .int (xs (Int32.toNatClampNeg (x3 + 3)))]) (rest := []) C zhw zhl (cOff_habit l D cI h N (xs (Int32.toNatClampNeg (x3 + 1))) (xs (Int32.toNatClampNeg (x3 + 2))) (xs (Int32.toNatClampNeg (x3 + 3))) MX zr MX1 hsX) ⟨(Nat.le_of_ble_eq_true rfl), (Nat.le_of_ble_eq_true rfl)⟩ ⟨(Nat.le_of_ble_eq_true rfl), (Nat.le_of_ble_eq_true rfl)⟩ kw_43_4 kw_43_5 kw_43_6 kw_1_2 kw_43_7 md_X11_habit rfl (wX_c0 h cI MX) rfl rfl rfl rfl (Nat.le_of_ble_eq_true rfl) dL_law_898 (fun zH zlocs zhw => ?_)
        refine lv_aload_n zhx zhb dL_law_901 rfl (lv_at zhl 2 rfl) ?_
        refine lv_aload_n zhx zhb dL_law_902 rfl (lv_at zhl 0 rfl) ?_
        refine lv_iload_n zhx zhb dL_law_903 rfl (lv_at zhl 3 rfl) ?_
        refine lv_iconst (v := 1) zhx zhb dL_law_904 (by decide) ?_
        refine lv_iadd zhx zhb dL_law_905 ?_
        refine va_sld zhx zhb hX hbl hbA zhw.2.2 hin1 dL_law_906 ?_
        refine lv_aload_n zhx zhb dL_law_907 rfl (lv_at zhl 0 rfl) ?_
        refine lv_iload_n zhx zhb dL_law_908 rfl (lv_at zhl 3 rfl) ?_
        refine lv_iconst (v := 2) zhx zhb dL_law_909 (by decide) ?_
        refine lv_iadd zhx zhb dL_law_910 ?_
        refine va_sld zhx zhb hX hbl hbA zhw.2.2 hin2 dL_law_911 ?_
        refine lv_aload_n zhx zhb dL_law_912 rfl (lv_at zhl 0 rfl) ?_
        refine lv_iload_n zhx zhb dL_law_913 rfl (lv_at zhl 3 rfl) ?_
        refine lv_iconst (v := 3) zhx zhb dL_law_914 (by decide) ?_
        refine lv_iadd zhx zhb dL_law_915 ?_
        refine va_sld zhx zhb hX hbl hbA zhw.2.2 hin3 dL_law_916 ?_
        refine l_cR (wx := wX h cI MX1) (wr := wR g cI MR) (wr' := wR g cI MR1) (As := [.int (xs (Int32.toNatClampNeg (x3 + 1))), .int (xs (Int32.toNatClampNeg (x3 + 2))), .int (xs (Int32.toNatClampNeg (x3 + 3)))]) (rest := [.int zr]) C zhw zhl (cRef_habit l D cI g N (xs (Int32.toNatClampNeg (x3 + 1))) (xs (Int32.toNatClampNeg (x3 + 2))) (xs (Int32.toNatClampNeg (x3 + 3))) MR zr MR1 hsR) ⟨(Nat.le_of_ble_eq_true rfl), (Nat.le_of_ble_eq_true rfl)⟩ ⟨(Nat.le_of_ble_eq_true rfl), (Nat.le_of_ble_eq_true rfl)⟩ kw_44_3 kw_44_4 kw_44_5 kw_1_5 kw_44_6 md_X12_habit rfl (wR_c0 g cI MR) rfl rfl rfl rfl (Nat.le_of_ble_eq_true rfl) dL_law_917 (fun zH zlocs zhw => ?_)
        refine lv_icmp_eq (tgt := 974) zhx zhb dL_law_920 (by decide) (fun _ => ?_) (fun zc9 => absurd rfl zc9)
        exact tail MX1 MR1 _ _ _ hrel1 zhw zhl
      rcases Decidable.em (zk = 27) with zc9 | c1027
      · refine lv_tableIn (tgt := 925) (off := 893) zhx zhb dL_law_32 (by rw [zc9]; decide) (by rw [zc9]; decide) (by rw [zc9]; decide) (by decide) ?_
        refine lv_aload_n zhx zhb dL_law_925 rfl (lv_at zhl 1 rfl) ?_
        obtain ⟨zr, MX1, MR1, hsX, hsR, hrel1⟩ := ho_keep MX MR hrel
        refine l_cL (wx := wX h cI MX) (wx' := wX h cI MX1) (wr := wR g cI MR) (As := []) (rest := []) C zhw zhl (cOff_keep l D cI h N MX zr MX1 hsX) ⟨(Nat.le_of_ble_eq_true rfl), (Nat.le_of_ble_eq_true rfl)⟩ ⟨(Nat.le_of_ble_eq_true rfl), (Nat.le_of_ble_eq_true rfl)⟩ kw_44_15 kw_44_16 kw_44_17 kw_1_2 kw_44_18 md_X11_keep rfl (wX_c0 h cI MX) rfl rfl rfl rfl (Nat.le_of_ble_eq_true rfl) dL_law_926 (fun zH zlocs zhw => ?_)
        refine lv_aload_n zhx zhb dL_law_929 rfl (lv_at zhl 2 rfl) ?_
        refine l_cR (wx := wX h cI MX1) (wr := wR g cI MR) (wr' := wR g cI MR1) (As := []) (rest := [.int zr]) C zhw zhl (cRef_keep l D cI g N MR zr MR1 hsR) ⟨(Nat.le_of_ble_eq_true rfl), (Nat.le_of_ble_eq_true rfl)⟩ ⟨(Nat.le_of_ble_eq_true rfl), (Nat.le_of_ble_eq_true rfl)⟩ kw_44_23 kw_45_0 kw_45_1 kw_1_5 kw_45_2 md_X12_keep rfl (wR_c0 g cI MR) rfl rfl rfl rfl (Nat.le_of_ble_eq_true rfl) dL_law_930 (fun zH zlocs zhw => ?_)
        refine lv_icmp_eq (tgt := 974) zhx zhb dL_law_933 (by decide) (fun _ => ?_) (fun zc9 => absurd rfl zc9)
        exact tail MX1 MR1 _ _ _ hrel1 zhw zhl
      rcases Decidable.em (zk = 28) with zc9 | c1028
      · refine lv_tableIn (tgt := 938) (off := 906) zhx zhb dL_law_32 (by rw [zc9]; decide) (by rw [zc9]; decide) (by rw [zc9]; decide) (by decide) ?_
        refine lv_aload_n zhx zhb dL_law_938 rfl (lv_at zhl 1 rfl) ?_
        obtain ⟨zr, MX1, MR1, hsX, hsR, hrel1⟩ := ho_back MX MR hrel
        refine l_cL (wx := wX h cI MX) (wx' := wX h cI MX1) (wr := wR g cI MR) (As := []) (rest := []) C zhw zhl (cOff_back l D cI h N MX zr MX1 hsX) ⟨(Nat.le_of_ble_eq_true rfl), (Nat.le_of_ble_eq_true rfl)⟩ ⟨(Nat.le_of_ble_eq_true rfl), (Nat.le_of_ble_eq_true rfl)⟩ kw_45_3 kw_45_4 kw_45_5 kw_1_2 kw_45_6 md_X11_back rfl (wX_c0 h cI MX) rfl rfl rfl rfl (Nat.le_of_ble_eq_true rfl) dL_law_939 (fun zH zlocs zhw => ?_)
        refine lv_aload_n zhx zhb dL_law_942 rfl (lv_at zhl 2 rfl) ?_
        refine l_cR (wx := wX h cI MX1) (wr := wR g cI MR) (wr' := wR g cI MR1) (As := []) (rest := [.int zr]) C zhw zhl (cRef_back l D cI g N MR zr MR1 hsR) ⟨(Nat.le_of_ble_eq_true rfl), (Nat.le_of_ble_eq_true rfl)⟩ ⟨(Nat.le_of_ble_eq_true rfl), (Nat.le_of_ble_eq_true rfl)⟩ kw_45_7 kw_45_8 kw_45_9 kw_1_5 kw_45_10 md_X12_back rfl (wR_c0 g cI MR) rfl rfl rfl rfl (Nat.le_of_ble_eq_true rfl) dL_law_943 (fun zH zlocs zhw => ?_)
        refine lv_icmp_eq (tgt := 974) zhx zhb dL_law_946 (by decide) (fun _ => ?_) (fun zc9 => absurd rfl zc9)
        exact tail MX1 MR1 _ _ _ hrel1 zhw zhl
      rcases Decidable.em (zk = 29) with zc9 | c1029
      · refine lv_tableIn (tgt := 951) (off := 919) zhx zhb dL_law_32 (by rw [zc9]; decide) (by rw [zc9]; decide) (by rw [zc9]; decide) (by decide) ?_
        refine lv_aload_n zhx zhb dL_law_951 rfl (lv_at zhl 1 rfl) ?_
        refine lv_aload_n zhx zhb dL_law_952 rfl (lv_at zhl 0 rfl) ?_
        refine lv_iload_n zhx zhb dL_law_953 rfl (lv_at zhl 3 rfl) ?_
        refine lv_iconst (v := 1) zhx zhb dL_law_954 (by decide) ?_
        refine lv_iadd zhx zhb dL_law_955 ?_
        refine va_sld zhx zhb hX hbl hbA zhw.2.2 hin1 dL_law_956 ?_
        obtain ⟨zr, hsX, hsR, hrel1⟩ := ho_count (xs (Int32.toNatClampNeg (x3 + 1))) MX MR hrel
        refine l_cL (wx := wX h cI MX) (wx' := wX h cI MX) (wr := wR g cI MR) (As := [.int (xs (Int32.toNatClampNeg (x3 + 1)))]) (rest := []) C zhw zhl (cOff_count l D cI h N (xs (Int32.toNatClampNeg (x3 + 1))) MX zr hsX) ⟨(Nat.le_of_ble_eq_true rfl), (Nat.le_of_ble_eq_true rfl)⟩ ⟨(Nat.le_of_ble_eq_true rfl), (Nat.le_of_ble_eq_true rfl)⟩ kw_45_11 kw_45_12 kw_45_13 kw_1_2 kw_45_14 md_X11_count rfl (wX_c0 h cI MX) rfl rfl rfl rfl (Nat.le_of_ble_eq_true rfl) dL_law_957 (fun zH zlocs zhw => ?_)
        refine lv_aload_n zhx zhb dL_law_960 rfl (lv_at zhl 2 rfl) ?_
        refine lv_aload_n zhx zhb dL_law_961 rfl (lv_at zhl 0 rfl) ?_
        refine lv_iload_n zhx zhb dL_law_962 rfl (lv_at zhl 3 rfl) ?_
        refine lv_iconst (v := 1) zhx zhb dL_law_963 (by decide) ?_
        refine lv_iadd zhx zhb dL_law_964 ?_
        refine va_sld zhx zhb hX hbl hbA zhw.2.2 hin1 dL_law_965 ?_
        refine l_cR (wx := wX h cI MX) (wr := wR g cI MR) (wr' := wR g cI MR) (As := [.int (xs (Int32.toNatClampNeg (x3 + 1)))]) (rest := [.int zr]) C zhw zhl (cRef_count l D cI g N (xs (Int32.toNatClampNeg (x3 + 1))) MR zr hsR) ⟨(Nat.le_of_ble_eq_true rfl), (Nat.le_of_ble_eq_true rfl)⟩ ⟨(Nat.le_of_ble_eq_true rfl), (Nat.le_of_ble_eq_true rfl)⟩ kw_45_15 kw_45_16 kw_45_17 kw_1_5 kw_45_18 md_X12_count rfl (wR_c0 g cI MR) rfl rfl rfl rfl (Nat.le_of_ble_eq_true rfl) dL_law_966 (fun zH zlocs zhw => ?_)
        refine lv_icmp_eq (tgt := 974) zhx zhb dL_law_969 (by decide) (fun _ => ?_) (fun zc9 => absurd rfl zc9)
        exact tail MX MR _ _ _ hrel1 zhw zhl
      have hout : zk.toInt < 0 ∨ 29 < zk.toInt := by
        have f0 : ¬ zk.toInt = 0 := fun q9 => c1000 (Int32.toInt_inj.mp (q9.trans rfl))
        have f1 : ¬ zk.toInt = 1 := fun q9 => c1001 (Int32.toInt_inj.mp (q9.trans rfl))
        have f2 : ¬ zk.toInt = 2 := fun q9 => c1002 (Int32.toInt_inj.mp (q9.trans rfl))
        have f3 : ¬ zk.toInt = 3 := fun q9 => c1003 (Int32.toInt_inj.mp (q9.trans rfl))
        have f4 : ¬ zk.toInt = 4 := fun q9 => c1004 (Int32.toInt_inj.mp (q9.trans rfl))
        have f5 : ¬ zk.toInt = 5 := fun q9 => c1005 (Int32.toInt_inj.mp (q9.trans rfl))
        have f6 : ¬ zk.toInt = 6 := fun q9 => c1006 (Int32.toInt_inj.mp (q9.trans rfl))
        have f7 : ¬ zk.toInt = 7 := fun q9 => c1007 (Int32.toInt_inj.mp (q9.trans rfl))
        have f8 : ¬ zk.toInt = 8 := fun q9 => c1008 (Int32.toInt_inj.mp (q9.trans rfl))
        have f9 : ¬ zk.toInt = 9 := fun q9 => c1009 (Int32.toInt_inj.mp (q9.trans rfl))
        have f10 : ¬ zk.toInt = 10 := fun q9 => c1010 (Int32.toInt_inj.mp (q9.trans rfl))
        have f11 : ¬ zk.toInt = 11 := fun q9 => c1011 (Int32.toInt_inj.mp (q9.trans rfl))
        have f12 : ¬ zk.toInt = 12 := fun q9 => c1012 (Int32.toInt_inj.mp (q9.trans rfl))
        have f13 : ¬ zk.toInt = 13 := fun q9 => c1013 (Int32.toInt_inj.mp (q9.trans rfl))
        have f14 : ¬ zk.toInt = 14 := fun q9 => c1014 (Int32.toInt_inj.mp (q9.trans rfl))
        have f15 : ¬ zk.toInt = 15 := fun q9 => c1015 (Int32.toInt_inj.mp (q9.trans rfl))
        have f16 : ¬ zk.toInt = 16 := fun q9 => c1016 (Int32.toInt_inj.mp (q9.trans rfl))
        have f17 : ¬ zk.toInt = 17 := fun q9 => c1017 (Int32.toInt_inj.mp (q9.trans rfl))
        have f18 : ¬ zk.toInt = 18 := fun q9 => c1018 (Int32.toInt_inj.mp (q9.trans rfl))
        have f19 : ¬ zk.toInt = 19 := fun q9 => c1019 (Int32.toInt_inj.mp (q9.trans rfl))
        have f20 : ¬ zk.toInt = 20 := fun q9 => c1020 (Int32.toInt_inj.mp (q9.trans rfl))
        have f21 : ¬ zk.toInt = 21 := fun q9 => c1021 (Int32.toInt_inj.mp (q9.trans rfl))
        have f22 : ¬ zk.toInt = 22 := fun q9 => c1022 (Int32.toInt_inj.mp (q9.trans rfl))
        have f23 : ¬ zk.toInt = 23 := fun q9 => c1023 (Int32.toInt_inj.mp (q9.trans rfl))
        have f24 : ¬ zk.toInt = 24 := fun q9 => c1024 (Int32.toInt_inj.mp (q9.trans rfl))
        have f25 : ¬ zk.toInt = 25 := fun q9 => c1025 (Int32.toInt_inj.mp (q9.trans rfl))
        have f26 : ¬ zk.toInt = 26 := fun q9 => c1026 (Int32.toInt_inj.mp (q9.trans rfl))
        have f27 : ¬ zk.toInt = 27 := fun q9 => c1027 (Int32.toInt_inj.mp (q9.trans rfl))
        have f28 : ¬ zk.toInt = 28 := fun q9 => c1028 (Int32.toInt_inj.mp (q9.trans rfl))
        have f29 : ¬ zk.toInt = 29 := fun q9 => c1029 (Int32.toInt_inj.mp (q9.trans rfl))
        omega
      refine lv_tableOut (tgt := 974) zhx zhb dL_law_32 hout (by decide) ?_
      exact tail MX MR _ _ _ hrel zhw zhl
