/-! PURE PART 3: limits, ages, warmth of one hour; food, warmth, make, eat, throwOut. By hand. -/
def limI (kind life : Int32) : Int32 := if kind = 2 then 50 * (life + 96) else 50 * life
def offI (age kind life : Int32) : Int32 := if age < limI kind life then 0 else 1
def opnI (o t : Int32) : Int32 := if ((o >>> (remI t 24 &&& 31)) &&& 1) = 1 then 1 else 0
def wrmI (w r o t : Int32) : Int32 := if opnI o t = 0 then w else w + r
theorem kindX {M : Mm} {i : Nat} (h : i < 10) : sStock_kindOf (nI i) M = some (M 41 i) := by unfold sStock_kindOf; rw [atf_n h (by omega)]
theorem cellX {M : Mm} {i : Nat} (h : i < 10) : sStock_cellOf (nI i) M = some (M 42 i) := by unfold sStock_cellOf; rw [atf_n h (by omega)]
theorem ageX {M : Mm} {i : Nat} (h : i < 10) : sStock_ageOf (nI i) M = some (M 43 i) := by unfold sStock_ageOf; rw [atf_n h (by omega)]
theorem fateX {M : Mm} {i : Nat} (h : i < 10) : sStock_fateOf (nI i) M = some (M 44 i) := by unfold sStock_fateOf; rw [atf_n h (by omega)]
theorem coinX {M : Mm} {i : Nat} (h : i < 10) : sFoods_coinOf_l (nI i) M = some (M 30 i) := by unfold sFoods_coinOf_l; rw [atf_n h (by omega)]
theorem sortX {M : Mm} {i : Nat} (h : i < 10) : sFoods_sortOf_l (nI i) M = some (M 33 i) := by unfold sFoods_sortOf_l; rw [atf_n h (by omega)]
theorem limAsX {M : Mm} {i : Nat} (h : i < 10) (k : Int32) : sFoods_limitAs_l (nI i) k M = some (limI k (M 31 i)) := by
  unfold sFoods_limitAs_l limI
  rw [atf_n h (by omega)]
  by_cases c : k = 2
  · rw [if_pos c, if_pos c]
  · rw [if_neg c, if_neg c]
theorem limX {M : Mm} {i : Nat} (h : i < 10) : sFridge_limitOf (nI i) M = some (limI (M 41 i) (M 31 i)) := by
  unfold sFridge_limitOf
  rw [kindX h, some_bind, limAsX h, some_bind]
theorem isOffX {M : Mm} {i : Nat} (h : i < 10) : sFridge_isOff (nI i) M = some (offI (M 43 i) (M 41 i) (M 31 i)) := by
  unfold sFridge_isOff offI
  rw [ageX h, some_bind, limX h, some_bind]
  by_cases c : M 43 i < limI (M 41 i) (M 31 i)
  · rw [if_pos c, if_pos c]
  · rw [if_neg c, if_neg c]
theorem isThereX {M : Mm} {fn i : Nat} (hn : M 40 5 = nI fn) (hf : fn ≤ 10) (h : i < fn) : sStock_isThere (nI i) M = some (if M 44 i = 0 then 1 else 0) := by
  unfold sStock_isThere
  rw [if_neg (nI_pos (by omega)), hn, if_neg (by rw [nIle (by omega) (by omega)]; omega), atf_n (by omega) (by omega)]
  by_cases c : M 44 i = 0
  · rw [if_pos c, if_pos c]
  · rw [if_neg c, if_neg c]
theorem rem_n {a d : Nat} (ha : a ≤ 1000000) (h0 : 0 < d) (hd : d ≤ 1000000) : remI (nI a) (nI d) = nI (a % d) := pk_rem (by omega) h0 (by omega)
theorem div_n {a d : Nat} (ha : a ≤ 1000000) (h0 : 0 < d) (hd : d ≤ 1000000) : nI a / nI d = nI (a / d) := pk_div (by omega) h0 (by omega)
theorem limR {M : Mm} {k : Nat} (h : k < 40) : sRef_limitOf (nI k) M = some (limI (M 22 k) (M 11 (k % 10))) := by
  unfold sRef_limitOf limI
  rw [show remI (nI k) 10 = nI (k % 10) from rem_n (d := 10) (by omega) (by omega) (by omega), rdc_n (by omega) (by omega), rdc_n h (by omega)]
  by_cases c : M 22 k = 2
  · rw [if_pos c, if_pos c]
  · rw [if_neg c, if_neg c, Int32.add_zero]
theorem isOffR {M : Mm} {k : Nat} (h : k < 40) : sRef_isOff (nI k) M = some (offI (M 24 k) (M 22 k) (M 11 (k % 10))) := by
  unfold sRef_isOff offI
  rw [rdc_n h (by omega), limR h, some_bind]
  by_cases c : M 24 k < limI (M 22 k) (M 11 (k % 10))
  · rw [if_pos c, if_pos c]
  · rw [if_neg c, if_neg c]
theorem opnX (M : Mm) (t : Int32) : sCells_isOpenedIn_l t M = some (opnI (M 23 4) t) := by
  unfold sCells_isOpenedIn_l opnI
  by_cases c : ((M 23 4 >>> (remI t 24 &&& 31)) &&& 1) = 1
  · rw [if_pos c, if_pos c]
  · rw [if_neg c, if_neg c]
theorem opnR (o t : Int32) : sRef_has o (remI t 24) = some (opnI o t) := by
  unfold sRef_has opnI
  by_cases c : ((o >>> (remI t 24 &&& 31)) &&& 1) = 1
  · rw [if_pos c, if_pos c]
  · rw [if_neg c, if_neg c]
theorem warmX {M : Mm} {c : Nat} (h : c < 6) (t : Int32) : sCells_warmIn_l (nI c) t M = some (wrmI (M 24 c) (M 25 c) (M 23 4) t) := by
  unfold sCells_warmIn_l wrmI
  rw [opnX, some_bind, atf_n h (by omega), atf_n h (by omega)]
  by_cases q : opnI (M 23 4) t = 0
  · rw [if_pos q, if_pos q]
  · rw [if_neg q, if_neg q]
theorem warmR {M : Mm} {c : Nat} (h : c < 12) (t : Int32) : sRef_warmthOf (nI c) t M = some (wrmI (M 3 c) (M 4 c) (M 6 0) t) := by
  unfold sRef_warmthOf wrmI
  rw [rdc_n h (by omega), rdc_0 (by omega) (by omega), opnR, some_bind]
  by_cases q : opnI (M 6 0) t = 0
  · rw [if_pos q, if_pos q, Int32.add_zero]
  · rw [if_neg q, if_neg q, rdc_n h (by omega)]
/-- what the relation says of one FOOD and of one CELL -/
theorem Rel_cell {cn : Nat} {x3 x4 r2 r6 : Int32} {w m o rw rm ro : Nat → Int32} (h : RCel cn x3 x4 w m o r2 r6 rw rm ro) {c : Nat} (hc : c < cn) : w c = rw c ∧ m c = rm c ∧ o c = ro c := by
  obtain ⟨a, b, d, -, -, -, -, h1, h2, h3, h4, h5, h6⟩ := h.2.2.2.2.2 c hc
  exact ⟨h1.trans h2.symm, h3.trans h4.symm, h5.trans h6.symm⟩
theorem Rel_open {cn : Nat} {x3 x4 r2 r6 : Int32} {w m o rw rm ro : Nat → Int32} (h : RCel cn x3 x4 w m o r2 r6 rw rm ro) : x4 = r6 := by
  obtain ⟨q, -, h1, h2⟩ := h.2.2.2.2.1
  exact h1.trans h2.symm
theorem Rel_food {fn : Nat} {x7 r7 : Int32} {co li pr so os rco rli rpr rso : Nat → Int32} (h : RFoo fn x7 co li pr so os r7 rco rli rpr rso) {i : Nat} (hi : i < fn) : co i = rco i ∧ li i = rli i ∧ pr i = rpr i ∧ so i = rso i := by
  obtain ⟨a, b, p, s, -, -, -, -, -, h1, h2, h3, h4, h5, h6, h7, h8⟩ := h.2.2.2.2.1 i hi
  exact ⟨h1.trans h2.symm, h3.trans h4.symm, h5.trans h6.symm, h7.trans h8.symm⟩
theorem Rel_stk {cn fn o : Nat} {room k c a f l rk rc ra rf rl : Nat → Int32} {x5 x6 rh : Int32} (h : RStk cn fn room x5 x6 k c a f l o rh rk rc ra rf rl) {i : Nat} (hi : i < fn) : k i = rk (o + i) ∧ c i = rc (o + i) ∧ a i = ra (o + i) ∧ f i = rf (o + i) ∧ l i = rl (o + i) := by
  obtain ⟨-, hr, -, -, -, h, -⟩ := h
  obtain ⟨k', c', a', f', l', -, -, -, -, -, h1, h2, h3, h4, h5, h6, h7, h8, h9, h10⟩ := h i hi
  exact ⟨h1.trans h2.symm, h3.trans h4.symm, h5.trans h6.symm, h7.trans h8.symm, h9.trans h10.symm⟩
theorem in06 (a : Int32) : sRef_in (Int32.toInt64 a) 0 6 = sOff_isWithin a 0 6 := in_eq a 0 6
theorem ok_food (N : Nat) : Ok_food Rel N := by
  intro a1 a2 MX MR h
  have hR := h
  obtain ⟨cn, fn, kp, hT, hC, hF, hD, hE, hP, hS, hk, hk1, hk2, hN⟩ := h
  rcases hasFood_iff hF.2.2.1 hF.2.1 a1 with ⟨i, hi, rfl, e⟩ | ⟨hout, e⟩
  · have hi10 : i < 10 := Nat.lt_of_lt_of_le hi hF.2.1
    obtain ⟨e1, e2, e3, e4, e5⟩ := Rel_stk hS hi
    obtain ⟨f1, f2, f3, f4⟩ := Rel_food hF hi
    rw [Nat.zero_add] at e1 e2 e3 e4 e5
    have eX : ∀ v, sOff_food (nI i) v MX = (if v = 0 then some (MX 41 i) else if v = 1 then some (MX 42 i) else if v = 2 then some (MX 43 i) else if v = 3 then some (limI (MX 41 i) (MX 31 i)) else if v = 4 then some (MX 44 i) else if v = 5 then (if offI (MX 43 i) (MX 41 i) (MX 31 i) = 0 then some 0 else some 1) else if v = 6 then some (MX 33 i) else some (-1)) := fun v => by
      unfold sOff_food
      rw [e, some_bind, i10, kindX hi10, cellX hi10, ageX hi10, limX hi10, fateX hi10, isOffX hi10, sortX hi10]
      rfl
    have eR : ∀ v, sRef_food (nI i) v MR = ((sOff_isWithin v 0 6).bind fun z => if z = 0 then some (-1) else if v = 0 then some (MX 41 i) else if v = 1 then some (MX 42 i) else if v = 2 then some (MX 43 i) else if v = 3 then some (limI (MX 41 i) (MX 31 i)) else if v = 4 then some (MX 44 i) else if v = 5 then (if offI (MX 43 i) (MX 41 i) (MX 31 i) = 0 then some 0 else some 1) else some (MX 33 i)) := fun v => by
      unfold sRef_food
      rw [isFood_T hF.2.2.2.1 hF.2.1 hi, some_bind, i10, in06, rdc_n (by omega) (by omega), rdc_n (by omega) (by omega), rdc_n (by omega) (by omega), limR (by omega), rdc_n (by omega) (by omega), isOffR (by omega), rdc_n (by omega) (by omega), Nat.mod_eq_of_lt hi10, ← e1, ← e2, ← e3, ← e4, ← f2, ← f4]
      rfl
    rw [eX, eR]
    by_cases hw : 0 ≤ a2.toInt ∧ a2.toInt ≤ 6
    · rw [within_T (show (0 : Int32).toInt ≤ _ from hw.1) (show _ ≤ (6 : Int32).toInt from hw.2), some_bind, i10]
      obtain ⟨j, hj, rfl⟩ := nI_ofRange (n := 7) hw.1 (by omega) (by omega)
      rcases (show j = 0 ∨ j = 1 ∨ j = 2 ∨ j = 3 ∨ j = 4 ∨ j = 5 ∨ j = 6 by omega) with rfl | rfl | rfl | rfl | rfl | rfl | rfl
      · exact ⟨_, rfl, rfl, hR⟩
      · exact ⟨_, rfl, rfl, hR⟩
      · exact ⟨_, rfl, rfl, hR⟩
      · exact ⟨_, rfl, rfl, hR⟩
      · exact ⟨_, rfl, rfl, hR⟩
      · by_cases c : offI (MX 43 i) (MX 41 i) (MX 31 i) = 0
        · exact ⟨0, if_pos c, if_pos c, hR⟩
        · exact ⟨1, if_neg c, if_neg c, hR⟩
      · exact ⟨_, rfl, rfl, hR⟩
    · rw [within_F (show ¬ ((0 : Int32).toInt ≤ _ ∧ _ ≤ (6 : Int32).toInt) from hw), some_bind, i00]
      have ne : ∀ j : Nat, j ≤ 6 → ¬ a2 = nI j := fun j hj q => by rw [q, nI_t (by omega)] at hw; omega
      exact ⟨-1, by rw [if_neg (show ¬ a2 = 0 from ne 0 (by omega)), if_neg (show ¬ a2 = 1 from ne 1 (by omega)), if_neg (show ¬ a2 = 2 from ne 2 (by omega)), if_neg (show ¬ a2 = 3 from ne 3 (by omega)), if_neg (show ¬ a2 = 4 from ne 4 (by omega)), if_neg (show ¬ a2 = 5 from ne 5 (by omega)), if_neg (show ¬ a2 = 6 from ne 6 (by omega))], rfl, hR⟩
  · refine ⟨-1, ?_, ?_, hR⟩
    · unfold sOff_food; rw [e, some_bind, i00]
    · unfold sRef_food; rw [isFood_F hF.2.2.2.1 hF.1 hF.2.1 hout, some_bind, i00]
theorem in0k (a : Int32) : sRef_in (Int32.toInt64 a) 0 99999 = sOff_isWithin a 0 99999 := in_eq a 0 99999
theorem ok_warmth (N : Nat) : Ok_warmth Rel N := by
  intro a1 a2 MX MR h
  have hR := h
  obtain ⟨cn, fn, kp, hT, hC, hF, hD, hE, hP, hS, hk, hk1, hk2, hN⟩ := h
  rcases hasCell_iff hC.2.2.1 hC.2.1 a1 with ⟨i, hi, rfl, e⟩ | ⟨hout, e⟩
  · have hi6 : i < 6 := Nat.lt_of_lt_of_le hi hC.2.1
    obtain ⟨e1, e2, e3⟩ := Rel_cell hC hi
    have eX : sOff_warmth (nI i) a2 MX = ((sOff_isWithin a2 0 99999).bind fun z => if z = 0 then some (-1) else some (wrmI (MX 24 i) (MX 25 i) (MX 23 4) a2)) := by
      unfold sOff_warmth; rw [e, some_bind, i10, warmX hi6]; rfl
    have eR : sRef_warmth (nI i) a2 MR = ((sOff_isWithin a2 0 99999).bind fun z => if z = 0 then some (-1) else some (wrmI (MX 24 i) (MX 25 i) (MX 23 4) a2)) := by
      unfold sRef_warmth; rw [isCell_T hC.2.2.2.1 hC.2.1 hi, some_bind, i10, in0k, warmR (by omega), e1, e2, Rel_open hC]; rfl
    rw [eX, eR]
    by_cases hw : (0 : Int32).toInt ≤ a2.toInt ∧ a2.toInt ≤ (99999 : Int32).toInt
    · rw [within_T hw.1 hw.2]; exact ⟨_, rfl, rfl, hR⟩
    · rw [within_F hw]; exact ⟨_, rfl, rfl, hR⟩
  · refine ⟨-1, ?_, ?_, hR⟩
    · unfold sOff_warmth; rw [e, some_bind, i00]
    · unfold sRef_warmth; rw [isCell_F hC.2.2.2.1 hC.1 hC.2.1 hout, some_bind, i00]
