/-! PURE PART 8: print, smell, line; bits. By hand. -/
theorem Rel_i {cn fn : Nat} {x7 r7 x5 x6 rh : Int32} {co li pr so os rco rli rpr rso room k c a f l rk rc ra rf rl : Nat → Int32} (hF : RFoo fn x7 co li pr so os r7 rco rli rpr rso) (hS : RStk cn fn room x5 x6 k c a f l 0 rh rk rc ra rf rl) {i : Nat} (hi : i < fn) : rk i = k i ∧ rc i = c i ∧ ra i = a i ∧ rf i = f i ∧ rl i = l i ∧ rco i = co i ∧ rli i = li i ∧ rpr i = pr i ∧ rso i = so i := by
  obtain ⟨e1, e2, e3, e4, e5⟩ := Rel_stk hS hi
  obtain ⟨f1, f2, f3, f4⟩ := Rel_food hF hi
  rw [Nat.zero_add] at e1 e2 e3 e4 e5
  exact ⟨e1.symm, e2.symm, e3.symm, e4.symm, e5.symm, f1.symm, f2.symm, f3.symm, f4.symm⟩
theorem Rel_h {cn fn : Nat} {x5 x6 rh : Int32} {room k c a f l rk rc ra rf rl : Nat → Int32} {o : Nat} (hS : RStk cn fn room x5 x6 k c a f l o rh rk rc ra rf rl) : rh = x6 := by
  obtain ⟨-, hr, -, h1, h2, -⟩ := hS
  exact h2.trans h1.symm
theorem ok_print {N : Nat} (hN : 1000 < N) : Ok_print Rel N := by
  intro a1 MX MR h
  have hR := h
  obtain ⟨cn, fn, kp, hT, hC, hF, hD, hE, hP, hS, hk, hk1, hk2, hNn⟩ := h
  by_cases w : (0 : Int32).toInt ≤ a1.toInt ∧ a1.toInt ≤ (1 : Int32).toInt
  · obtain ⟨q, hq, rfl⟩ := nI_ofRange (n := 2) (a := a1) w.1 (by have t : a1.toInt ≤ 1 := w.2; omega) (by omega)
    have hq2 : nI q = 0 ∨ nI q = 1 := by
      rcases (show q = 0 ∨ q = 1 by omega) with rfl | rfl
      · exact Or.inl rfl
      · exact Or.inr rfl
    have ev : (if nI q = 1 then some 1 else some 0 : Option Int32) = some (nI q) := by
      rcases (show q = 0 ∨ q = 1 by omega) with rfl | rfl
      · rfl
      · rfl
    refine ⟨smI (fun i => eP (nI q) (MX 40 6 / 24) (MX 44 i) (offI (MX 43 i) (MX 41 i) (MX 31 i)) (MX 32 i)) fn, ?_, ?_, hR⟩
    · unfold sOff_print
      rw [within_T w.1 w.2, some_bind, i10, ev, some_bind, printX hF.2.2.1 hS.1 hF.2.1 hN hq2, some_bind]
    · unfold sRef_print
      rw [in01, within_T w.1 w.2, some_bind, i10, printR hF.2.2.2.1 hF.2.1 hN, some_bind]
      refine congrArg some (smI_congr fun j hj => ?_)
      obtain ⟨e1, e2, e3, e4, e5, f1, f2, f3, f4⟩ := Rel_i hF hS hj
      rw [e1, e3, e4, f2, f3, Rel_h hS]
  · exact ⟨-1, by unfold sOff_print; rw [within_F w]; rfl, by unfold sRef_print; rw [in01, within_F w]; rfl, hR⟩
-- smell
def eS (sl b age lim off fate : Int32) : Int32 := if fate = 0 then (if (if 10 * age < b * lim then (0 : Int32) else 1) = off then sl else 10 - sl) else 0
theorem smellX {M : Mm} {N fn : Nat} (h7 : M 27 7 = nI fn) (h5 : M 40 5 = nI fn) (hf : fn ≤ 10) (hN : 1000 < N) (b : Int32) : sFridge_errorsBySmell N b M = some (smI (fun i => eS (M 22 7) b (M 43 i) (limI (M 41 i) (M 31 i)) (offI (M 43 i) (M 41 i) (M 31 i)) (M 44 i)) fn) := by
  unfold sFridge_errorsBySmell
  obtain ⟨e, he⟩ : ∃ e : Nat → Int32, e = fun i => eS (M 22 7) b (M 43 i) (limI (M 41 i) (M 31 i)) (offI (M 43 i) (M 41 i) (M 31 i)) (M 44 i) := ⟨_, rfl⟩
  rw [← he]
  refine itr_b (fun i => (smI e i, nI i)) fn (r := smI e fn) rfl ?_ ?_ (by omega) rfl
  · intro i hi
    show LFridge_errorsBySmell_4_39 N b M (smI e i) (nI i) = some (.inl (smI e i + e i, nI (i + 1)))
    have hi10 : i < 10 := by omega
    generalize smI e i = g
    have ei : e i = eS (M 22 7) b (M 43 i) (limI (M 41 i) (M 31 i)) (offI (M 43 i) (M 41 i) (M 31 i)) (M 44 i) := congrFun he i
    unfold LFridge_errorsBySmell_4_39
    rw [h7, if_neg (by rw [nIle (by omega) (by omega)]; omega), isThereX h5 hf hi, isOffX hi10, ageX hi10, limX hi10, ei]
    unfold eS
    by_cases cf : M 44 i = 0 <;> by_cases ca : 10 * M 43 i < b * limI (M 41 i) (M 31 i) <;> rcases offI_01 (M 43 i) (M 41 i) (M 31 i) with co | co <;> simp only [cf, ca, co, if_true, if_false, some_bind, i00, i10, ltI_u, nI_s, reduceIte, Int32.add_zero, show ¬ (0 : Int32) = 1 from by decide, show ¬ (1 : Int32) = 0 from by decide]
  · show LFridge_errorsBySmell_4_39 N b M (smI e fn) (nI fn) = _
    unfold LFridge_errorsBySmell_4_39
    rw [h7, if_pos (by rw [nIle (by omega) (by omega)]; omega)]
theorem smellR {M : Mm} {N fn : Nat} (h7 : M 7 0 = nI fn) (hf : fn ≤ 10) (hN : 1000 < N) (b : Int32) : sRef_errorsAt N b M = some (smI (fun i => eS (M 21 2) b (M 24 i) (limI (M 22 i) (M 11 i)) (offI (M 24 i) (M 22 i) (M 11 i)) (M 25 i)) fn) := by
  unfold sRef_errorsAt
  obtain ⟨e, he⟩ : ∃ e : Nat → Int32, e = fun i => eS (M 21 2) b (M 24 i) (limI (M 22 i) (M 11 i)) (offI (M 24 i) (M 22 i) (M 11 i)) (M 25 i) := ⟨_, rfl⟩
  rw [← he]
  refine itr_b (fun i => (smI e i, nI i)) fn (r := smI e fn) rfl ?_ ?_ (by omega) rfl
  · intro i hi
    show LRef_errorsAt_4_45 N b M (smI e i) (nI i) = some (.inl (smI e i + e i, nI (i + 1)))
    have hi10 : i < 10 := by omega
    generalize smI e i = g
    have ei : e i = eS (M 21 2) b (M 24 i) (limI (M 22 i) (M 11 i)) (offI (M 24 i) (M 22 i) (M 11 i)) (M 25 i) := congrFun he i
    unfold LRef_errorsAt_4_45
    rw [rdc_0 (by omega) (by omega), h7, if_neg (by rw [nIle (by omega) (by omega)]; omega), isOffR (by omega), limR (by omega), Nat.mod_eq_of_lt hi10, ei]
    unfold eS
    by_cases cf : M 25 i = 0 <;> by_cases ca : 10 * M 24 i < b * limI (M 22 i) (M 11 i) <;> rcases offI_01 (M 24 i) (M 22 i) (M 11 i) with co | co <;> simp only [cf, ca, co, if_true, if_false, some_bind, i00, i10, ltI_u, nI_s, reduceIte, Int32.add_zero, rdc_n (show i < 40 by omega) (show 40 ≤ 1000 by omega), rdc_2 (show 2 < 6 by omega) (show 6 ≤ 1000 by omega), show ¬ (0 : Int32) = 1 from by decide, show ¬ (1 : Int32) = 0 from by decide]
  · show LRef_errorsAt_4_45 N b M (smI e fn) (nI fn) = _
    unfold LRef_errorsAt_4_45
    rw [rdc_0 (by omega) (by omega), h7, if_pos (by rw [nIle (by omega) (by omega)]; omega)]
theorem smell_eq {MX MR : Mm} {cn fn : Nat} (hF : RFoo fn (MX 27 7) (MX 30) (MX 31) (MX 32) (MX 33) (MX 34) (MR 7 0) (MR 10) (MR 11) (MR 12) (MR 13)) (hP : RPar (MX 37 2) (MX 38) (MX 39) (MX 37 3) (MX 37 4) (MX 22 7) (MR 18 0) (MR 19) (MR 20) (MR 21)) (hS : RStk cn fn (MX 26) (MX 40 5) (MX 40 6) (MX 41) (MX 42) (MX 43) (MX 44) (MX 45) 0 (MR 27 0) (MR 22) (MR 23) (MR 24) (MR 25) (MR 26)) (b : Int32) : smI (fun i => eS (MR 21 2) b (MR 24 i) (limI (MR 22 i) (MR 11 i)) (offI (MR 24 i) (MR 22 i) (MR 11 i)) (MR 25 i)) fn = smI (fun i => eS (MX 22 7) b (MX 43 i) (limI (MX 41 i) (MX 31 i)) (offI (MX 43 i) (MX 41 i) (MX 31 i)) (MX 44 i)) fn := by
  obtain ⟨gn, g1, g2, g3, g4, g5, p0, p1, p2⟩ := par_facts hP
  refine smI_congr fun j hj => ?_
  obtain ⟨e1, e2, e3, e4, e5, f1, f2, f3, f4⟩ := Rel_i hF hS hj
  rw [e1, e3, e4, f2, p2]
theorem ok_smell {N : Nat} (hN : 1000 < N) : Ok_smell Rel N := by
  intro a1 MX MR h
  have hR := h
  obtain ⟨cn, fn, kp, hT, hC, hF, hD, hE, hP, hS, hk, hk1, hk2, hNn⟩ := h
  by_cases w : (0 : Int32).toInt ≤ a1.toInt ∧ a1.toInt ≤ (20 : Int32).toInt
  · refine ⟨smI (fun i => eS (MX 22 7) a1 (MX 43 i) (limI (MX 41 i) (MX 31 i)) (offI (MX 43 i) (MX 41 i) (MX 31 i)) (MX 44 i)) fn, ?_, ?_, hR⟩
    · unfold sOff_smell
      rw [within_T w.1 w.2, some_bind, i10, smellX hF.2.2.1 hS.1 hF.2.1 hN, some_bind]
    · unfold sRef_smell
      rw [in0_20, within_T w.1 w.2, some_bind, i10, smellR hF.2.2.2.1 hF.2.1 hN, some_bind, smell_eq hF hP hS]
  · exact ⟨-1, by unfold sOff_smell; rw [within_F w]; rfl, by unfold sRef_smell; rw [in0_20, within_F w]; rfl, hR⟩
-- bits
def bt (p : Nat → Bool) : Nat → Nat
  | 0 => 0
  | n + 1 => if p n then bt p n + 2 ^ n else bt p n
theorem bt_T {p : Nat → Bool} {n : Nat} (h : p n = true) : bt p (n + 1) = bt p n + 2 ^ n := if_pos h
theorem bt_F {p : Nat → Bool} {n : Nat} (h : ¬ p n = true) : bt p (n + 1) = bt p n := if_neg h
theorem bt_lt (p : Nat → Bool) : ∀ n, bt p n < 2 ^ n
  | 0 => by show 0 < 1; omega
  | n + 1 => by
    have h := bt_lt p n
    rw [Nat.pow_succ]
    by_cases c : p n = true
    · rw [bt_T c]; omega
    · rw [bt_F c]; omega
theorem bt_le (p : Nat → Bool) {n : Nat} (h : n ≤ 10) : bt p n < 1024 := Nat.lt_of_lt_of_le (bt_lt p n) (Nat.le_trans (Nat.pow_le_pow_right (by omega) h) (by decide))
theorem bt_bit (p : Nat → Bool) : ∀ (n i : Nat), (bt p n).testBit i = (decide (i < n) && p i)
  | 0, i => by
    show (0 : Nat).testBit i = _
    rw [Nat.zero_testBit]; simp
  | n + 1, i => by
    by_cases c : p n = true
    · rw [bt_T c, Nat.add_comm]
      by_cases e : i = n
      · subst e
        rw [Nat.testBit_two_pow_add_eq, bt_bit p i i]; simp [c]
      · by_cases hl : i < n
        · rw [Nat.testBit_two_pow_add_gt hl, bt_bit p n i]
          simp [hl, show i < n + 1 by omega]
        · rw [Nat.testBit_lt_two_pow]
          · simp [show ¬ i < n + 1 by omega]
          · have h := bt_lt p n
            have h2 : 2 ^ (n + 1) ≤ 2 ^ i := Nat.pow_le_pow_right (by omega) (by omega)
            rw [Nat.pow_succ] at h2
            omega
    · rw [bt_F c, bt_bit p n i]
      by_cases e : i = n
      · subst e; simp [c]
      · by_cases hl : i < n
        · simp [hl, show i < n + 1 by omega]
        · simp [hl, show ¬ i < n + 1 by omega]
theorem shOne {i : Nat} (h : i < 30) : (1 : Int32) <<< (nI i &&& 31) = nI (2 ^ i) := by
  have : ∀ i : Fin 30, (1 : Int32) <<< (nI i.val &&& 31) = nI (2 ^ i.val) := by decide +kernel
  exact this ⟨i, h⟩
theorem nI_or {a b : Nat} (ha : a < 2 ^ 31) (hb : b < 2 ^ 31) : nI a ||| nI b = nI (a ||| b) := by
  apply Int32.toBitVec_inj.mp
  apply BitVec.eq_of_toNat_eq
  rw [pk_tn (Nat.lt_trans (Nat.or_lt_two_pow ha hb) (by decide)), Int32.toBitVec_or, BitVec.toNat_or, pk_tn (by omega), pk_tn (by omega)]
theorem nI_and {a b : Nat} (ha : a < 2 ^ 31) (hb : b < 2 ^ 31) : nI a &&& nI b = nI (a &&& b) := by
  apply Int32.toBitVec_inj.mp
  apply BitVec.eq_of_toNat_eq
  rw [pk_tn (Nat.lt_of_le_of_lt Nat.and_le_left (by omega)), Int32.toBitVec_and, BitVec.toNat_and, pk_tn (by omega), pk_tn (by omega)]
theorem orBit {b i : Nat} (hi : i < 30) (hb : b < 2 ^ i) : nI b ||| ((1 : Int32) <<< (nI i &&& 31)) = nI (b + 2 ^ i) := by
  have h2 : 2 ^ i < 2 ^ 30 := Nat.pow_lt_pow_right (by omega) hi
  rw [shOne hi, nI_or (by omega) (by omega)]
  congr 1
  have := Nat.two_pow_add_eq_or_of_lt hb 1
  rw [Nat.mul_one] at this
  rw [Nat.or_comm, ← this, Nat.add_comm]
theorem shBit {q i : Nat} (hq : q < 2 ^ 31) (hi : i < 30) : ((nI q >>> (nI i &&& 31)) &&& 1) = if q.testBit i then 1 else 0 := by
  have e : ∀ i : Fin 30, ((nI i.val &&& 31).toBitVec.smod 32).toNat = i.val := by decide +kernel
  rw [pk_shrN hq _ i (e ⟨i, hi⟩)]
  have e2 : nI (q / 2 ^ i) &&& 1 = nI (q / 2 ^ i % 2 ^ 1) := pk_andN (by have := Nat.div_le_self q (2 ^ i); omega) 1 (by decide)
  rw [e2, Nat.testBit_eq_decide_div_mod_eq]
  by_cases c : q / 2 ^ i % 2 = 1
  · rw [show 2 ^ 1 = 2 from rfl, c]; rfl
  · rw [show 2 ^ 1 = 2 from rfl, show q / 2 ^ i % 2 = 0 by omega]; rfl
theorem hasBit_n {q i : Nat} (hq : q < 2 ^ 31) (hi : i < 30) : sOff_hasBit (nI q) (nI i) = some (if q.testBit i then 1 else 0) := by
  unfold sOff_hasBit
  rw [shBit hq hi]
  by_cases c : q.testBit i = true <;> simp only [c, if_true, if_false, reduceIte, Bool.false_eq_true, show ¬ (0 : Int32) = 1 from by decide]
theorem has_n {q i : Nat} (hq : q < 2 ^ 31) (hi : i < 30) : sRef_has (nI q) (nI i) = some (if q.testBit i then 1 else 0) := hasBit_n hq hi
theorem ctb_s (p : Nat → Bool) (n : Nat) : ctb p (n + 1) = ctb p n + (if p n then 1 else 0) := rfl
theorem ctb_T {p : Nat → Bool} {n : Nat} (h : p n = true) : ctb p (n + 1) = ctb p n + 1 := by rw [ctb_s, if_pos h]
theorem ctb_F {p : Nat → Bool} {n : Nat} (h : ¬ p n = true) : ctb p (n + 1) = ctb p n := by rw [ctb_s, if_neg h, Nat.add_zero]
theorem ctb_n (p : Nat → Bool) : ∀ n, ctb p n ≤ n
  | 0 => Nat.le_refl 0
  | n + 1 => by
    have := ctb_n p n
    by_cases c : p n = true
    · rw [ctb_T c]; omega
    · rw [ctb_F c]; omega
theorem bitsX {M : Mm} {N fn : Nat} (h5 : M 40 5 = nI fn) (hf : fn ≤ 10) (hN : 1000 < N) : sStock_bitsThere N M = some (nI (bt (fun i => decide (M 44 i = 0)) fn)) := by
  unfold sStock_bitsThere
  generalize hp : (fun i => decide (M 44 i = 0)) = p
  refine itr_b (fun i => (nI (bt p i), nI i)) fn (r := nI (bt p fn)) rfl ?_ ?_ (by omega) rfl
  · intro i hi
    show LStock_bitsThere_4_13 N M (nI (bt p i)) (nI i) = some (.inl (nI (bt p (i + 1)), nI (i + 1)))
    unfold LStock_bitsThere_4_13
    rw [h5, if_neg (by rw [nIle (by omega) (by omega)]; omega), isThereX h5 hf hi, some_bind]
    by_cases c : M 44 i = 0
    · rw [if_pos c, i10, ltI_u, ltI_u, nI_s, orBit (by omega) (bt_lt p i), bt_T (by rw [← hp]; exact decide_eq_true c)]
    · rw [if_neg c, i00, ltI_u, nI_s, bt_F (by rw [← hp]; simpa using c)]
  · show LStock_bitsThere_4_13 N M (nI (bt p fn)) (nI fn) = _
    unfold LStock_bitsThere_4_13
    rw [h5, if_pos (by rw [nIle (by omega) (by omega)]; omega)]
theorem bitCount10 : ∀ (p : Nat → Bool) (n : Nat), n ≤ 10 → sJint_bitCount (nI (bt p n)) = some (nI (ctb p n))
  | p, 0, _ => by
    show sJint_bitCount (nI 0) = some (nI 0)
    decide +kernel
  | p, n + 1, h => by
    have ih := bitCount10 p n (by omega)
    by_cases c : p n = true
    · rw [bt_T c, ctb_T c]
      have key : ∀ i : Fin 10, ∀ b : Fin 512, b.val < 2 ^ i.val → sJint_bitCount (nI (b.val + 2 ^ i.val)) = (sJint_bitCount (nI b.val)).map (· + 1) := by decide +kernel
      have hl := bt_lt p n
      have h2 : 2 ^ n ≤ 512 := Nat.pow_le_pow_right (n := 2) (by omega) (show n ≤ 9 by omega)
      rw [key ⟨n, by omega⟩ ⟨bt p n, by omega⟩ hl, ih]
      show some (nI (ctb p n) + 1) = _
      rw [nI_s]
    · rw [bt_F c, ctb_F c, ih]
theorem thereX {M : Mm} {N fn : Nat} (h5 : M 40 5 = nI fn) (hf : fn ≤ 10) (hN : 1000 < N) : sStock_numberThere N M = some (nI (ctb (fun i => decide (M 44 i = 0)) fn)) := by
  unfold sStock_numberThere
  rw [bitsX h5 hf hN, some_bind, bitCount10 _ _ hf, some_bind]
theorem thereR {M : Mm} {N fn : Nat} (h7 : M 7 0 = nI fn) (hf : fn ≤ 10) (hN : 1000 < N) : sRef_thereMany N M = some (nI (ctb (fun i => decide (M 25 i = 0)) fn)) := by
  unfold sRef_thereMany
  generalize hp : (fun i => decide (M 25 i = 0)) = p
  refine itr_b (fun i => (nI (ctb p i), nI i)) fn (r := nI (ctb p fn)) rfl ?_ ?_ (by omega) rfl
  · intro i hi
    show LRef_thereMany_4_15 N M (nI (ctb p i)) (nI i) = some (.inl (nI (ctb p (i + 1)), nI (i + 1)))
    unfold LRef_thereMany_4_15
    rw [rdc_0 (by omega) (by omega), h7, if_neg (by rw [nIle (by omega) (by omega)]; omega), rdc_n (by omega) (by omega)]
    by_cases c : M 25 i = 0
    · rw [if_pos c, ltI_u, ltI_u, nI_s, nI_s, ctb_T (by rw [← hp]; exact decide_eq_true c)]
    · rw [if_neg c, ltI_u, ltI_u, nI_s, add_z, ctb_F (by rw [← hp]; simpa using c)]
  · show LRef_thereMany_4_15 N M (nI (ctb p fn)) (nI fn) = _
    unfold LRef_thereMany_4_15
    rw [rdc_0 (by omega) (by omega), h7, if_pos (by rw [nIle (by omega) (by omega)]; omega)]
theorem there_eq {MX MR : Mm} {cn fn : Nat} (hS : RStk cn fn (MX 26) (MX 40 5) (MX 40 6) (MX 41) (MX 42) (MX 43) (MX 44) (MX 45) 0 (MR 27 0) (MR 22) (MR 23) (MR 24) (MR 25) (MR 26)) : ctb (fun i => decide (MR 25 i = 0)) fn = ctb (fun i => decide (MX 44 i = 0)) fn := by
  refine ctb_congr fun i hi => ?_
  have := (Rel_stk hS hi).2.2.2.1
  rw [Nat.zero_add] at this
  rw [this]
theorem ok_line {N : Nat} (hN : 1000 < N) : Ok_line Rel N := by
  intro MX MR h
  have hR := h
  obtain ⟨cn, fn, kp, hT, hC, hF, hD, hE, hP, hS, hk, hk1, hk2, hNn⟩ := h
  obtain ⟨f, hf⟩ : ∃ f : Int32 → Int32, f = fun b => smI (fun i => eS (MX 22 7) b (MX 43 i) (limI (MX 41 i) (MX 31 i)) (offI (MX 43 i) (MX 41 i) (MX 31 i)) (MX 44 i)) fn := ⟨_, rfl⟩
  have fx : ∀ b, sFridge_errorsBySmell N b MX = some (f b) := fun b => by rw [smellX hF.2.2.1 hS.1 hF.2.1 hN, hf]
  have fr : ∀ b, sRef_errorsAt N b MR = some (f b) := fun b => by rw [smellR hF.2.2.2.1 hF.2.1 hN, smell_eq hF hP hS, hf]
  obtain ⟨B, hB⟩ : ∃ B : Nat → Int32, B = bst (fun a b => f a ≤ f b) := ⟨_, rfl⟩
  have Bs : ∀ i, B (i + 1) = if f (B i) ≤ f (nI (i + 1)) then B i else nI (i + 1) := fun i => by rw [hB]; rfl
  have B0 : B 0 = 0 := by rw [hB]; rfl
  have bx : sFridge_bestLine N MX = some (B 20) := by
    unfold sFridge_bestLine
    refine itr_b (fun i => (B i, nI (i + 1))) 20 (r := B 20) (by rw [B0]; rfl) ?_ ?_ (by omega) rfl
    · intro i hi
      show LFridge_bestLine_4_11 N MX (B i) (nI (i + 1)) = some (.inl (B (i + 1), nI (i + 1 + 1)))
      unfold LFridge_bestLine_4_11
      rw [if_neg (by rw [show (20 : Int32) = nI 20 from rfl, nIlt (by omega) (by omega)]; omega), fx, some_bind, Bs, fx, some_bind]
      by_cases c : f (B i) ≤ f (nI (i + 1))
      · rw [if_pos c, if_pos c, ltI_u, nI_s]
      · rw [if_neg c, if_neg c, ltI_u, nI_s]
    · show LFridge_bestLine_4_11 N MX (B 20) (nI 21) = _
      unfold LFridge_bestLine_4_11
      rw [if_pos (by decide)]
  have br : itr (fun z : Int32 × Int32 => LRef_line_4_11 N MR z.1 z.2) N (0, 1) = some (B 20) := by
    refine itr_n (fun i => (B i, nI (i + 1))) 20 (r := B 20) (by rw [B0]; rfl) ?_ ?_ (by omega)
    · intro i hi
      show LRef_line_4_11 N MR (B i) (nI (i + 1)) = some (.inl (B (i + 1), nI (i + 1 + 1)))
      unfold LRef_line_4_11
      rw [if_neg (by rw [show (21 : Int32) = nI 21 from rfl, nIle (by omega) (by omega)]; omega), fr, some_bind, Bs, fr, some_bind]
      by_cases c : f (B i) ≤ f (nI (i + 1))
      · rw [if_pos c, if_pos c, ltI_u, nI_s]
      · rw [if_neg c, if_neg c, ltI_u, nI_s]
    · show LRef_line_4_11 N MR (B 20) (nI 21) = _
      unfold LRef_line_4_11
      rw [if_pos (by decide)]
  have hx := thereX hS.1 hF.2.1 hN
  have hr := thereR hF.2.2.2.1 hF.2.1 hN
  rw [there_eq hS] at hr
  have hc := ctb_n (fun i => decide (MX 44 i = 0)) fn
  have hf10 := hF.2.1
  generalize ctb (fun i => decide (MX 44 i = 0)) fn = n at hx hr hc
  by_cases c : n = 0
  · subst c
    refine ⟨-4, ?_, ?_, hR⟩
    · unfold sOff_line; rw [hx, some_bind, if_pos (by decide)]
    · unfold sRef_line; rw [br, some_bind, hr, some_bind, if_pos (by decide)]
  · refine ⟨B 20, ?_, ?_, hR⟩
    · unfold sOff_line; rw [hx, some_bind, if_neg (nI_nle (by omega) (by omega)), bx, some_bind]
    · unfold sRef_line; rw [br, some_bind, hr, some_bind, if_neg (nI_ne0 (by omega) (by omega))]
