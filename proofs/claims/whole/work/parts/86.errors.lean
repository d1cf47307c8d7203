/-! PURE PART 7: expect, buy, print, smell. By hand. -/
theorem in09 (a : Int32) : sRef_in (Int32.toInt64 a) 0 9 = sOff_isWithin a 0 9 := in_eq a 0 9
theorem in0_20 (a : Int32) : sRef_in (Int32.toInt64 a) 0 20 = sOff_isWithin a 0 20 := in_eq a 0 20
theorem bst_n (p : Int32 → Int32 → Prop) [∀ a b, Decidable (p a b)] : ∀ n, ∃ q, q ≤ n ∧ bst p n = nI q
  | 0 => ⟨0, Nat.le_refl 0, rfl⟩
  | n + 1 => by
    obtain ⟨q, h1, h2⟩ := bst_n p n
    unfold bst
    by_cases c : p (bst p n) (nI (n + 1))
    · rw [if_pos c]; exact ⟨q, by omega, h2⟩
    · rw [if_neg c]; exact ⟨n + 1, Nat.le_refl _, rfl⟩
theorem par_facts {x2 : Int32} {g w : Nat → Int32} {x3 x4 x7 r : Int32} {rg rw pr : Nat → Int32} (h : RPar x2 g w x3 x4 x7 r rg rw pr) : ∃ gn, gn ≤ 6 ∧ x2 = nI gn ∧ r = nI gn ∧ (∀ j, j < gn → ∃ a, a ≤ 9 ∧ g j = nI a) ∧ (∀ j, j < gn → rg j = g j ∧ rw j = w j) ∧ pr 0 = x3 ∧ pr 1 = x4 ∧ pr 2 = x7 := by
  obtain ⟨⟨gn, h1, h2, h3, h4⟩, a, b, s, -, -, -, p1, p2, p3, p4, p5, p6⟩ := h
  refine ⟨gn, h1, h2, h3, fun j hj => ?_, fun j hj => ?_, p2.trans p1.symm, p4.trans p3.symm, p6.trans p5.symm⟩
  · obtain ⟨a, b, t1, -, t3, -⟩ := h4 j hj
    exact ⟨a, t1, t3⟩
  · obtain ⟨a, b, -, -, t3, t4, t5, t6⟩ := h4 j hj
    exact ⟨t4.trans t3.symm, t6.trans t5.symm⟩
theorem ok_expect {N : Nat} (hN : 1000 < N) : Ok_expect Rel N := by
  intro a1 MX MR h
  have hR := h
  obtain ⟨cn, fn, kp, hT, hC, hF, hD, hE, hP, hS, hk, hk1, hk2, hNn⟩ := h
  obtain ⟨gn, g1, g2, g3, g4, g5, p0, p1, p2⟩ := par_facts hP
  by_cases w : (0 : Int32).toInt ≤ a1.toInt ∧ a1.toInt ≤ (9 : Int32).toInt
  · obtain ⟨q, hq, rfl⟩ := nI_ofRange (n := 10) (a := a1) w.1 (by have t : a1.toInt ≤ 9 := w.2; omega) (by omega)
    by_cases c : gn = 0
    · subst c
      refine ⟨-4, ?_, ?_, hR⟩
      · unfold sOff_expect; rw [within_T w.1 w.2, some_bind, i10, g2, if_pos (by decide)]
      · unfold sRef_expect; rw [in09, within_T w.1 w.2, some_bind, i10, rdc_0 (by omega) (by omega), g3, if_pos (by decide)]
    · refine ⟨exF (nI q) (pkF (nI q) (MX 37 3) (MX 37 4)) (MX 38) (MX 39) gn, ?_, ?_, hR⟩
      · unfold sOff_expect
        rw [within_T w.1 w.2, some_bind, i10, g2, if_neg (by rw [show (0 : Int32) = nI 0 from rfl, nIle (by omega) (by omega)]; omega), exX g2 g1 g4 hN (by omega), some_bind]
      · unfold sRef_expect
        rw [in09, within_T w.1 w.2, some_bind, i10, rdc_0 (by omega) (by omega), g3, if_neg (by rw [show (0 : Int32) = nI 0 from rfl, nIeq (by omega) (by omega)]; omega), exR g3 g1 hN, some_bind, p0, p1]
        exact congrArg some (exF_congr g5)
  · exact ⟨-1, by unfold sOff_expect; rw [within_F w]; rfl, by unfold sRef_expect; rw [in09, within_F w]; rfl, hR⟩
theorem ok_buy {N : Nat} (hN : 1000 < N) : Ok_buy Rel N := by
  intro MX MR h
  have hR := h
  obtain ⟨cn, fn, kp, hT, hC, hF, hD, hE, hP, hS, hk, hk1, hk2, hNn⟩ := h
  obtain ⟨gn, g1, g2, g3, g4, g5, p0, p1, p2⟩ := par_facts hP
  obtain ⟨f, hf⟩ : ∃ f : Int32 → Int32, f = fun q => exF q (pkF q (MX 37 3) (MX 37 4)) (MX 38) (MX 39) gn := ⟨_, rfl⟩
  have fx : ∀ q : Nat, q ≤ 9 → sParty_expectOf_l N (nI q) MX = some (f (nI q)) := fun q hq => by rw [exX g2 g1 g4 hN hq, hf]
  have fr : ∀ q : Int32, sRef_expectOf N q MR = some (f q) := fun q => by rw [exR g3 g1 hN, p0, p1, hf]; exact congrArg some (exF_congr g5)
  obtain ⟨B, hB⟩ : ∃ B : Nat → Int32, B = bst (fun a b => f a ≤ f b) := ⟨_, rfl⟩
  have Bs : ∀ i, B (i + 1) = if f (B i) ≤ f (nI (i + 1)) then B i else nI (i + 1) := fun i => by rw [hB]; rfl
  have Bn : ∀ i, ∃ q, q ≤ i ∧ B i = nI q := fun i => by rw [hB]; exact bst_n _ i
  have B0 : B 0 = 0 := by rw [hB]; rfl
  have bx : sParty_bestPacks_l N MX = some (B 9) := by
    unfold sParty_bestPacks_l
    refine itr_b (fun i => (B i, nI (i + 1))) 9 (r := B 9) (by rw [B0]; rfl) ?_ ?_ (by omega) rfl
    · intro i hi
      show LParty_bestPacks_l_4_11 N MX (B i) (nI (i + 1)) = some (.inl (B (i + 1), nI (i + 1 + 1)))
      unfold LParty_bestPacks_l_4_11
      obtain ⟨q, hq, eq⟩ := Bn i
      rw [if_neg (by rw [show (9 : Int32) = nI 9 from rfl, nIlt (by omega) (by omega)]; omega), fx (i + 1) (by omega), some_bind, Bs, eq, fx q (by omega), some_bind]
      by_cases c : f (nI q) ≤ f (nI (i + 1))
      · rw [if_pos c, if_pos c, ltI_u, nI_s]
      · rw [if_neg c, if_neg c, ltI_u, nI_s]
    · show LParty_bestPacks_l_4_11 N MX (B 9) (nI 10) = _
      unfold LParty_bestPacks_l_4_11
      rw [if_pos (by decide)]
  have br : itr (fun z : Int32 × Int32 => LRef_buy_4_11 N MR z.1 z.2) N (0, 1) = some (B 9) := by
    refine itr_n (fun i => (B i, nI (i + 1))) 9 (r := B 9) (by rw [B0]; rfl) ?_ ?_ (by omega)
    · intro i hi
      show LRef_buy_4_11 N MR (B i) (nI (i + 1)) = some (.inl (B (i + 1), nI (i + 1 + 1)))
      unfold LRef_buy_4_11
      rw [if_neg (by rw [show (10 : Int32) = nI 10 from rfl, nIle (by omega) (by omega)]; omega), fr, some_bind, Bs, fr, some_bind]
      by_cases c : f (B i) ≤ f (nI (i + 1))
      · rw [if_pos c, if_pos c, ltI_u, nI_s]
      · rw [if_neg c, if_neg c, ltI_u, nI_s]
    · show LRef_buy_4_11 N MR (B 9) (nI 10) = _
      unfold LRef_buy_4_11
      rw [if_pos (by decide)]
  by_cases c : gn = 0
  · subst c
    refine ⟨-4, ?_, ?_, hR⟩
    · unfold sOff_buy; rw [g2, if_pos (by decide)]
    · unfold sRef_buy; rw [br, some_bind, rdc_0 (by omega) (by omega), g3, if_pos (by decide)]
  · refine ⟨B 9, ?_, ?_, hR⟩
    · unfold sOff_buy; rw [g2, if_neg (by rw [show (0 : Int32) = nI 0 from rfl, nIle (by omega) (by omega)]; omega), bx, some_bind]
    · unfold sRef_buy; rw [br, some_bind, rdc_0 (by omega) (by omega), g3, if_neg (by rw [show (0 : Int32) = nI 0 from rfl, nIeq (by omega) (by omega)]; omega)]
-- sums
def smI (e : Nat → Int32) : Nat → Int32
  | 0 => 0
  | n + 1 => smI e n + e n
theorem smI_s (e : Nat → Int32) (n : Nat) : smI e (n + 1) = smI e n + e n := rfl
theorem smI_congr {e e' : Nat → Int32} : ∀ {n : Nat}, (∀ j, j < n → e j = e' j) → smI e n = smI e' n
  | 0, _ => rfl
  | n + 1, h => by rw [smI_s, smI_s, smI_congr (fun j hj => h j (by omega)), h n (by omega)]
theorem offI_01 (a k l : Int32) : offI a k l = 0 ∨ offI a k l = 1 := by
  unfold offI
  by_cases c : a < limI k l
  · rw [if_pos c]; exact Or.inl rfl
  · rw [if_neg c]; exact Or.inr rfl
def eP (a day fate off prt : Int32) : Int32 := if fate = 0 then (if a = 0 then (if day ≤ prt then 0 else if off = 0 then 1 else 0) else (if day ≤ prt then (if off = 0 then 0 else 1) else 0)) else 0
theorem printX {M : Mm} {N fn : Nat} (h7 : M 27 7 = nI fn) (h5 : M 40 5 = nI fn) (hf : fn ≤ 10) (hN : 1000 < N) {a : Int32} (ha : a = 0 ∨ a = 1) : sFridge_errorsByPrint N a M = some (smI (fun i => eP a (M 40 6 / 24) (M 44 i) (offI (M 43 i) (M 41 i) (M 31 i)) (M 32 i)) fn) := by
  unfold sFridge_errorsByPrint
  rw [ltI_u]
  generalize hd : M 40 6 / 24 = day
  obtain ⟨e, he⟩ : ∃ e : Nat → Int32, e = fun i => eP a day (M 44 i) (offI (M 43 i) (M 41 i) (M 31 i)) (M 32 i) := ⟨_, rfl⟩
  rw [← he]
  refine itr_b (fun i => (smI e i, nI i)) fn (r := smI e fn) rfl ?_ ?_ (by omega) rfl
  · intro i hi
    show LFridge_errorsByPrint_16_32 N a M day (smI e i) (nI i) = some (.inl (smI e i + e i, nI (i + 1)))
    have hi10 : i < 10 := by omega
    generalize smI e i = g
    have hp : sFoods_printedOf_l (nI i) M = some (M 32 i) := by unfold sFoods_printedOf_l; rw [atf_n hi10 (by omega)]
    unfold LFridge_errorsByPrint_16_32
    have ei : e i = eP a day (M 44 i) (offI (M 43 i) (M 41 i) (M 31 i)) (M 32 i) := congrFun he i
    rw [h7, if_neg (by rw [nIle (by omega) (by omega)]; omega), hp, some_bind, ei]
    unfold eP
    rw [isThereX h5 hf hi, isOffX hi10]
    by_cases cf : M 44 i = 0
    · rw [if_pos cf, if_pos cf]
      rcases offI_01 (M 43 i) (M 41 i) (M 31 i) with co | co <;> rw [co] <;> rcases ha with rfl | rfl <;> by_cases cd : day ≤ M 32 i
      · rw [if_pos cd]; exact congrArg some (by rw [if_pos rfl, if_pos cd, add_z, ← nI_s])
      · rw [if_neg cd]; exact congrArg some (by rw [if_pos rfl, if_neg cd, if_pos rfl, ← nI_s])
      · rw [if_pos cd]; exact congrArg some (by rw [if_neg (by decide), if_pos cd, if_pos rfl, add_z, ← nI_s])
      · rw [if_neg cd]; exact congrArg some (by rw [if_neg (by decide), if_neg cd, add_z, ← nI_s])
      · rw [if_pos cd]; exact congrArg some (by rw [if_pos rfl, if_pos cd, add_z, ← nI_s])
      · rw [if_neg cd]; exact congrArg some (by rw [if_pos rfl, if_neg cd, if_neg (by decide), add_z, ← nI_s])
      · rw [if_pos cd]; exact congrArg some (by rw [if_neg (by decide), if_pos cd, if_neg (by decide), ← nI_s])
      · rw [if_neg cd]; exact congrArg some (by rw [if_neg (by decide), if_neg cd, add_z, ← nI_s])
    · rw [if_neg cf, if_neg cf, add_z, ← nI_s]
      by_cases cd : day ≤ M 32 i
      · rw [if_pos cd]; rfl
      · rw [if_neg cd]; rfl
  · show LFridge_errorsByPrint_16_32 N a M day (smI e fn) (nI fn) = _
    unfold LFridge_errorsByPrint_16_32
    rw [h7, if_pos (by rw [nIle (by omega) (by omega)]; omega)]
theorem printR {M : Mm} {N fn : Nat} (h7 : M 7 0 = nI fn) (hf : fn ≤ 10) (hN : 1000 < N) {a : Int32} : itr (fun z : Int32 × Int32 => LRef_print_16_32 N a M z.1 z.2) N (0, 0) = some (smI (fun i => eP a (M 27 0 / 24) (M 25 i) (offI (M 24 i) (M 22 i) (M 11 i)) (M 12 i)) fn) := by
  obtain ⟨e, he⟩ : ∃ e : Nat → Int32, e = fun i => eP a (M 27 0 / 24) (M 25 i) (offI (M 24 i) (M 22 i) (M 11 i)) (M 12 i) := ⟨_, rfl⟩
  rw [← he]
  refine itr_n (fun i => (smI e i, nI i)) fn (r := smI e fn) rfl ?_ ?_ (by omega)
  · intro i hi
    show LRef_print_16_32 N a M (smI e i) (nI i) = some (.inl (smI e i + e i, nI (i + 1)))
    have hi10 : i < 10 := by omega
    generalize smI e i = g
    unfold LRef_print_16_32
    rw [rdc_0 (by omega) (by omega), h7, if_neg (by rw [nIle (by omega) (by omega)]; omega), rdc_0 (by omega) (by omega), rdc_n (by omega) (by omega), show e i = eP a (M 27 0 / 24) (M 25 i) (offI (M 24 i) (M 22 i) (M 11 i)) (M 12 i) from congrFun he i]
    unfold eP
    rw [isOffR (by omega), Nat.mod_eq_of_lt hi10]
    by_cases cd : M 27 0 / 24 ≤ M 12 i <;> by_cases cf : M 25 i = 0 <;> by_cases ca : a = 0 <;> by_cases co : offI (M 24 i) (M 22 i) (M 11 i) = 0 <;> simp only [cd, cf, ca, co, if_true, if_false, some_bind, rdc_n (show i < 40 by omega) (show 40 ≤ 1000 by omega), i00, i10, ltI_u, nI_s, Option.bind_some, reduceIte, Int32.add_zero]
  · show LRef_print_16_32 N a M (smI e fn) (nI fn) = _
    unfold LRef_print_16_32
    rw [rdc_0 (by omega) (by omega), h7, if_pos (by rw [nIle (by omega) (by omega)]; omega)]
