/-! PURE PART 2: the relation of the two memories (X: OffFirst's, R: the reference's). By hand. The regions' numbers stand in 11.world's remarks. -/
def ctb (p : Nat → Bool) : Nat → Nat
  | 0 => 0
  | n + 1 => ctb p n + (if p n then 1 else 0)
/-- THE TEXT -/
def RTxt (x1 : Int32) (x2 : Nat → Int32) (r0 : Int32) (r1 : Nat → Int32) : Prop := ∃ len : Nat, len ≤ 400 ∧ x1 = nI len ∧ r0 = nI len ∧ ∀ j, j < len → x2 j = r1 j
/-- the CELLS that are laid -/
def RCel (cn : Nat) (x3 x4 : Int32) (w m o : Nat → Int32) (r2 r6 : Int32) (rw rm ro : Nat → Int32) : Prop :=
  1 ≤ cn ∧ cn ≤ 6 ∧ x3 = nI cn ∧ r2 = nI cn ∧ (∃ q : Nat, q < 16777216 ∧ x4 = nI q ∧ r6 = nI q) ∧ ∀ c, c < cn → ∃ a b d : Nat, a ≤ 200 ∧ b ≤ 99 ∧ 1 ≤ d ∧ d ≤ 10 ∧ w c = nI a ∧ rw c = nI a ∧ m c = nI b ∧ rm c = nI b ∧ o c = nI d ∧ ro c = nI d
/-- the FOODS that are laid -/
def RFoo (fn : Nat) (x7 : Int32) (co li pr so os : Nat → Int32) (r7 : Int32) (rco rli rpr rso : Nat → Int32) : Prop :=
  1 ≤ fn ∧ fn ≤ 10 ∧ x7 = nI fn ∧ r7 = nI fn ∧ (∀ i, i < fn → ∃ a b p s : Nat, a ≤ 99 ∧ 1 ≤ b ∧ b ≤ 240 ∧ p ≤ 99 ∧ s ≤ 3 ∧ co i = nI a ∧ rco i = nI a ∧ li i = nI b ∧ rli i = nI b ∧ pr i = nI p ∧ rpr i = nI p ∧ so i = nI s ∧ rso i = nI s) ∧
  ∀ t, t < 4 → ∃ q : Nat, q < 2 ^ fn ∧ os t = nI q ∧ ∀ i, i < fn → (q.testBit i = true ↔ so i = nI t)
/-- DISHES, EATERS: how many, bits -/
def RBit (most least : Nat) (x3 : Int32) (xd : Nat → Int32) (r : Int32) (rd : Nat → Int32) : Prop := ∃ dn : Nat, dn ≤ most ∧ x3 = nI dn ∧ r = nI dn ∧ ∀ d, d < dn → ∃ a : Nat, least ≤ a ∧ a ≤ 15 ∧ xd d = nI a ∧ rd d = nI a
/-- GUESTS, PACKS, the slip -/
def RPar (x2 : Int32) (g w : Nat → Int32) (x3 x4 x7 : Int32) (r : Int32) (rg rw pr : Nat → Int32) : Prop :=
  (∃ gn : Nat, gn ≤ 6 ∧ x2 = nI gn ∧ r = nI gn ∧ ∀ j, j < gn → ∃ a b : Nat, a ≤ 9 ∧ b ≤ 99 ∧ g j = nI a ∧ rg j = nI a ∧ w j = nI b ∧ rw j = nI b) ∧
  ∃ a b s : Nat, a ≤ 99 ∧ b ≤ 198 ∧ s ≤ 4 ∧ x3 = nI a ∧ pr 0 = nI a ∧ x4 = nI b ∧ pr 1 = nI b ∧ x7 = nI s ∧ pr 2 = nI s
/-- what changes of the FOODS, and the HOUR: here, or kept -/
def RStk (cn fn : Nat) (room : Nat → Int32) (x5 x6 : Int32) (k c a f l : Nat → Int32) (o : Nat) (rh : Int32) (rk rc ra rf rl : Nat → Int32) : Prop :=
  x5 = nI fn ∧ ∃ hr : Nat, hr ≤ 99999 ∧ x6 = nI hr ∧ rh = nI hr ∧
  (∀ i, i < fn → ∃ k' c' a' f' l' : Nat, k' ≤ 3 ∧ c' < cn ∧ a' ≤ 618 * hr ∧ f' ≤ 2 ∧ l' ≤ hr ∧ k i = nI k' ∧ rk (o + i) = nI k' ∧ c i = nI c' ∧ rc (o + i) = nI c' ∧ a i = nI a' ∧ ra (o + i) = nI a' ∧ f i = nI f' ∧ rf (o + i) = nI f' ∧ l i = nI l' ∧ rl (o + i) = nI l') ∧
  ∀ c', c' < cn → ∃ d : Nat, d ≤ 10 ∧ room c' = nI d ∧ ctb (fun i => decide (f i = 0 ∧ c i = nI c')) fn ≤ d
/-- SPANS -/
def RSpn (x2 : Int32) (w h : Nat → Int32) (r : Int32) (rs : Nat → Int32) : Prop := ∃ sn : Nat, sn ≤ 8 ∧ x2 = nI sn ∧ r = nI sn ∧ ∀ j, j < sn → ∃ a b : Nat, a ≤ 300 ∧ 1 ≤ b ∧ b ≤ 300 ∧ w j = nI a ∧ rs (2 * j) = nI a ∧ h j = nI b ∧ rs (2 * j + 1) = nI b
def Rel (MX MR : Mm) : Prop := ∃ cn fn kp : Nat,
  RTxt (MX 1 1) (MX 2) (MR 0 0) (MR 1) ∧
  RCel cn (MX 23 3) (MX 23 4) (MX 24) (MX 25) (MX 26) (MR 2 0) (MR 6 0) (MR 3) (MR 4) (MR 5) ∧
  RFoo fn (MX 27 7) (MX 30) (MX 31) (MX 32) (MX 33) (MX 34) (MR 7 0) (MR 10) (MR 11) (MR 12) (MR 13) ∧
  RBit 5 1 (MX 22 3) (MX 35) (MR 14 0) (MR 15) ∧
  RBit 4 0 (MX 22 5) (MX 36) (MR 16 0) (MR 17) ∧
  RPar (MX 37 2) (MX 38) (MX 39) (MX 37 3) (MX 37 4) (MX 22 7) (MR 18 0) (MR 19) (MR 20) (MR 21) ∧
  RStk cn fn (MX 26) (MX 40 5) (MX 40 6) (MX 41) (MX 42) (MX 43) (MX 44) (MX 45) 0 (MR 27 0) (MR 22) (MR 23) (MR 24) (MR 25) (MR 26) ∧
  (kp ≤ 2 ∧ MX 0 6 = nI kp ∧ MR 0 28 = nI kp) ∧
  (1 ≤ kp → RStk cn fn (MX 26) (MX 46 5) (MX 46 6) (MX 47) (MX 48) (MX 49) (MX 50) (MX 51) 20 (MR 27 2) (MR 22) (MR 23) (MR 24) (MR 25) (MR 26)) ∧
  (2 ≤ kp → RStk cn fn (MX 26) (MX 52 5) (MX 52 6) (MX 53) (MX 54) (MX 55) (MX 56) (MX 57) 30 (MR 27 3) (MR 22) (MR 23) (MR 24) (MR 25) (MR 26)) ∧
  RSpn (MX 71 2) (MX 72) (MX 73) (MR 0 29) (MR 28)
theorem ok_wipe (N : Nat) : Ok_wipe Rel N := by
  intro MX MR h
  obtain ⟨cn, fn, kp, hT, hC, hF, hD, hE, hP, hS, hk, hk1, hk2, hN⟩ := h
  obtain ⟨len, h1, h2, h3, h4⟩ := hT
  refine ⟨nI len, mset MX 1 1 0, mset MR 0 0 0, ?_, ?_, cn, fn, kp, ⟨0, by omega, rfl, rfl, fun j hj => absurd hj (by omega)⟩, hC, hF, hD, hE, hP, hS, hk, hk1, hk2, hN⟩
  · unfold sOff_wipe; rw [ltI_u, ltM_u, h2]
  · unfold sRef_wipe; rw [ltI_u, ltM_u, h3]
theorem ok_noSpans (N : Nat) : Ok_noSpans Rel N := by
  intro MX MR h
  obtain ⟨cn, fn, kp, hT, hC, hF, hD, hE, hP, hS, hk, hk1, hk2, hN⟩ := h
  obtain ⟨sn, h1, h2, h3, h4⟩ := hN
  refine ⟨nI sn, mset MX 71 2 0, mset MR 0 29 0, ?_, ?_, cn, fn, kp, hT, hC, hF, hD, hE, hP, hS, hk, hk1, hk2, ⟨0, by omega, rfl, rfl, fun j hj => absurd hj (by omega)⟩⟩
  · unfold sOff_noSpans; rw [ltI_u, ltM_u, h2]
  · unfold sRef_noSpans; rw [ltI_u, ltM_u, h3]
-- the foods and cells that are told
theorem hasFood_iff {fn : Nat} {M : Mm} (h : M 27 7 = nI fn) (hf : fn ≤ 10) (a : Int32) : (∃ i, i < fn ∧ a = nI i ∧ sFridge_hasFood a M = some 1) ∨ (¬ (0 ≤ a.toInt ∧ a.toInt < fn) ∧ sFridge_hasFood a M = some 0) := by
  unfold sFridge_hasFood
  rw [h]
  by_cases c : 0 ≤ a.toInt ∧ a.toInt < fn
  · obtain ⟨i, hi, rfl⟩ := nI_ofRange c.1 c.2 (by omega)
    exact Or.inl ⟨i, hi, rfl, by rw [if_neg (nI_pos (by omega)), if_neg (by rw [nIle (by omega) (by omega)]; omega)]⟩
  · refine Or.inr ⟨c, ?_⟩
    by_cases c1 : a < 0
    · rw [if_pos c1]
    · rw [if_neg c1, if_pos]
      rw [Int32.lt_iff_toInt_lt] at c1
      rw [Int32.le_iff_toInt_le, nI_t (by omega)]
      have : (0 : Int32).toInt = 0 := rfl
      omega
theorem hasCell_iff {cn : Nat} {M : Mm} (h : M 23 3 = nI cn) (hf : cn ≤ 6) (a : Int32) : (∃ i, i < cn ∧ a = nI i ∧ sCells_has_l a M = some 1) ∨ (¬ (0 ≤ a.toInt ∧ a.toInt < cn) ∧ sCells_has_l a M = some 0) := by
  unfold sCells_has_l
  rw [h]
  by_cases c : 0 ≤ a.toInt ∧ a.toInt < cn
  · obtain ⟨i, hi, rfl⟩ := nI_ofRange c.1 c.2 (by omega)
    exact Or.inl ⟨i, hi, rfl, by rw [if_neg (nI_pos (by omega)), if_neg (by rw [nIle (by omega) (by omega)]; omega)]⟩
  · refine Or.inr ⟨c, ?_⟩
    by_cases c1 : a < 0
    · rw [if_pos c1]
    · rw [if_neg c1, if_pos]
      rw [Int32.lt_iff_toInt_lt] at c1
      rw [Int32.le_iff_toInt_le, nI_t (by omega)]
      have : (0 : Int32).toInt = 0 := rfl
      omega
theorem pred_t {n : Nat} (h1 : 1 ≤ n) (hn : n ≤ 1000) : (nI n - 1).toInt = (n : Int) - 1 := pk_sub_toInt (a := n) (b := 1) (by omega) (by omega)
theorem isFood_T {fn : Nat} {M : Mm} (h : M 7 0 = nI fn) (hf : fn ≤ 10) {i : Nat} (hi : i < fn) : sRef_isFood (nI i) M = some 1 := by
  unfold sRef_isFood
  rw [rdc_0 (by omega) (by omega), h, show (0 : Int64) = Int32.toInt64 0 from by decide, in_eq, within_T, some_bind]
  · show (0 : Int32).toInt ≤ _; rw [nI_t (by omega)]; show (0 : Int) ≤ _; omega
  · rw [nI_t (by omega), pred_t (by omega) (by omega)]; omega
theorem isFood_F {fn : Nat} {M : Mm} (h : M 7 0 = nI fn) (h1 : 1 ≤ fn) (hf : fn ≤ 10) {a : Int32} (ha : ¬ (0 ≤ a.toInt ∧ a.toInt < fn)) : sRef_isFood a M = some 0 := by
  unfold sRef_isFood
  rw [rdc_0 (by omega) (by omega), h, show (0 : Int64) = Int32.toInt64 0 from by decide, in_eq, within_F, some_bind]
  rw [pred_t h1 (by omega)]
  show ¬ ((0 : Int) ≤ _ ∧ _)
  omega
theorem isCell_T {cn : Nat} {M : Mm} (h : M 2 0 = nI cn) (hf : cn ≤ 6) {i : Nat} (hi : i < cn) : sRef_isCell (nI i) M = some 1 := by
  unfold sRef_isCell
  rw [rdc_0 (by omega) (by omega), h, show (0 : Int64) = Int32.toInt64 0 from by decide, in_eq, within_T, some_bind]
  · show (0 : Int32).toInt ≤ _; rw [nI_t (by omega)]; show (0 : Int) ≤ _; omega
  · rw [nI_t (by omega), pred_t (by omega) (by omega)]; omega
theorem isCell_F {cn : Nat} {M : Mm} (h : M 2 0 = nI cn) (h1 : 1 ≤ cn) (hf : cn ≤ 6) {a : Int32} (ha : ¬ (0 ≤ a.toInt ∧ a.toInt < cn)) : sRef_isCell a M = some 0 := by
  unfold sRef_isCell
  rw [rdc_0 (by omega) (by omega), h, show (0 : Int64) = Int32.toInt64 0 from by decide, in_eq, within_F, some_bind]
  rw [pred_t h1 (by omega)]
  show ¬ ((0 : Int) ≤ _ ∧ _)
  omega
