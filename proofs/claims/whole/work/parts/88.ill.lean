/-! PURE PART 9: views in naturals; ill, move, count, write. By hand. -/
def nN (x : Int32) : Nat := x.toInt.toNat
theorem nI_p0 {n : Nat} (h0 : 0 < n) (h : n < 2 ^ 31) : (0 : Int32) < nI n := nI_lt (a := 0) h0 h
theorem nN_I {n : Nat} (h : n ≤ 1000000000) : nN (nI n) = n := by unfold nN; rw [nI_t h]; rfl
theorem nN_of {x : Int32} {n : Nat} (e : x = nI n) (h : n ≤ 1000000000) : x = nI (nN x) ∧ nN x = n := by subst e; rw [nN_I h]; exact ⟨rfl, rfl⟩
/-- the limit of a FOOD -/
def limN (k l : Nat) : Nat := if k = 2 then 50 * (l + 96) else 50 * l
theorem limI_n {k l : Nat} (hk : k ≤ 1000) : limI (nI k) (nI l) = nI (limN k l) := by
  unfold limI limN
  by_cases c : k = 2
  · subst c
    rw [if_pos (show nI 2 = 2 from rfl), if_pos rfl, show (96 : Int32) = nI 96 from rfl, show (50 : Int32) = nI 50 from rfl, nI_add, pk_mul]
  · rw [if_neg (show ¬ nI k = 2 by rw [show (2 : Int32) = nI 2 from rfl, nIeq (by omega) (by omega)]; exact c), if_neg c, show (50 : Int32) = nI 50 from rfl, pk_mul]
theorem limN_b {k l : Nat} (h1 : 1 ≤ l) (h2 : l ≤ 240) : 50 ≤ limN k l ∧ limN k l ≤ 16800 := by
  unfold limN
  by_cases c : k = 2
  · rw [if_pos c]; omega
  · rw [if_neg c]; omega
-- the one that made one ill
def wIll (hs age lim f : Nat) : Nat := if f = 1 then (if 6 ≤ hs ∧ hs ≤ 72 then (if 24 < hs then 10 * age / lim else 2 * (10 * age / lim)) else 0) else 0
theorem wIll_b {hs age lim f : Nat} (ha : age ≤ 62000000) (hl : 50 ≤ lim) : wIll hs age lim f ≤ 24800000 := by
  have h : 10 * age / lim ≤ 12400000 := by
    rw [Nat.div_le_iff_le_mul (by omega)]
    have : 50 * 12400000 ≤ lim * 12400000 := Nat.mul_le_mul_right _ hl
    omega
  unfold wIll
  by_cases c : f = 1
  · rw [if_pos c]
    by_cases c2 : 6 ≤ hs ∧ hs ≤ 72
    · rw [if_pos c2]
      by_cases c3 : 24 < hs
      · rw [if_pos c3]; omega
      · rw [if_neg c3]; omega
    · rw [if_neg c2]; omega
  · rw [if_neg c]; omega
theorem in6_72 (a : Int32) : sRef_in (Int32.toInt64 a) 6 72 = sOff_isWithin a 6 72 := in_eq a 6 72
theorem ten_n (a : Nat) : 10 * nI a = nI (10 * a) := pk_mul 10 a
theorem two_n (a : Nat) : 2 * nI a = nI (2 * a) := pk_mul 2 a
theorem illX {M : Mm} {i hr k a f l li : Nat} (hi : i < 10) (e6 : M 40 6 = nI hr) (ek : M 41 i = nI k) (ea : M 43 i = nI a) (ef : M 44 i = nI f) (el : M 45 i = nI l) (eli : M 31 i = nI li) (hl : l ≤ hr) (hh : hr ≤ 99999) (hk : k ≤ 3) (ha : a ≤ 62000000) (hf : f ≤ 2) (h1 : 1 ≤ li) (h2 : li ≤ 240) : sFridge_weightOfIll (nI i) M = some (nI (wIll (hr - l) a (limN k li) f)) := by
  obtain ⟨b1, b2⟩ := limN_b (k := k) h1 h2
  unfold sFridge_weightOfIll sStock_hoursSinceLeft
  rw [some_bind, limX hi, some_bind, fateX hi, some_bind, atf_n hi (by omega), e6, el, pk_sub hl, ek, eli, limI_n (by omega), ageX hi, ea, ef, some_bind]
  generalize hs : hr - l = s
  unfold wIll
  by_cases c : f = 1
  · subst c
    rw [if_pos (show nI 1 = 1 from rfl), if_pos rfl]
    by_cases c2 : 6 ≤ s ∧ s ≤ 72
    · rw [if_pos c2, within_T (by rw [nI_t (by omega)]; exact (by omega : (6 : Int) ≤ (s : Int))) (by rw [nI_t (by omega)]; exact (by omega : (s : Int) ≤ 72)), some_bind, i10, if_pos (nI_p0 (by omega) (by omega)), ten_n, pk_div (by omega) (by omega) (by omega)]
      unfold dvc
      rw [if_neg (nI_ne0 (by omega) (by omega)), ltI_u]
      by_cases c3 : 24 < s
      · rw [if_pos c3, if_pos (show (24 : Int32) < nI s from nI_lt (a := 24) c3 (by omega))]
      · rw [if_neg c3, if_neg (show ¬ (24 : Int32) < nI s from nI_nlt (a := 24) (b := s) (by omega) (by omega)), two_n]
    · rw [if_neg c2, within_F (by rw [nI_t (by omega)]; exact (fun q : (6 : Int) ≤ s ∧ (s : Int) ≤ 72 => c2 ⟨by omega, by omega⟩)), some_bind, i00]
      rfl
  · rw [if_neg c, if_neg (show ¬ nI f = 1 by rw [show (1 : Int32) = nI 1 from rfl, nIeq (by omega) (by omega)]; exact c)]
    rfl
theorem illR {M : Mm} {i hr k a f l li : Nat} (hi : i < 10) (e6 : M 27 0 = nI hr) (ek : M 22 i = nI k) (ea : M 24 i = nI a) (ef : M 25 i = nI f) (el : M 26 i = nI l) (eli : M 11 i = nI li) (hl : l ≤ hr) (hh : hr ≤ 99999) (hk : k ≤ 3) (ha : a ≤ 62000000) (hf : f ≤ 2) (h1 : 1 ≤ li) (h2 : li ≤ 240) : sRef_illOf (nI i) M = some (nI (wIll (hr - l) a (limN k li) f)) := by
  obtain ⟨b1, b2⟩ := limN_b (k := k) h1 h2
  unfold sRef_illOf
  rw [rdc_0 (by omega) (by omega), rdc_n (by omega) (by omega), ltI_u, rdc_n (by omega) (by omega), rdc_n (by omega) (by omega), limR (by omega), Nat.mod_eq_of_lt hi, e6, el, pk_sub hl, ek, eli, limI_n (by omega), ea, ef, in6_72, some_bind]
  generalize hs : hr - l = s
  unfold wIll
  by_cases c : f = 1
  · subst c
    rw [if_pos (show nI 1 = 1 from rfl), if_pos rfl]
    by_cases c2 : 6 ≤ s ∧ s ≤ 72
    · rw [if_pos c2, within_T (by rw [nI_t (by omega)]; exact (by omega : (6 : Int) ≤ (s : Int))) (by rw [nI_t (by omega)]; exact (by omega : (s : Int) ≤ 72)), some_bind, i10, ten_n, pk_div (by omega) (by omega) (by omega)]
      unfold dvc
      rw [if_neg (nI_ne0 (by omega) (by omega)), ltI_u]
      by_cases c3 : 24 < s
      · rw [if_pos c3, if_pos (show (24 : Int32) < nI s from nI_lt (a := 24) c3 (by omega))]
      · rw [if_neg c3, if_neg (show ¬ (24 : Int32) < nI s from nI_nlt (a := 24) (b := s) (by omega) (by omega)), two_n]
    · rw [if_neg c2, within_F (by rw [nI_t (by omega)]; exact (fun q : (6 : Int) ≤ s ∧ (s : Int) ≤ 72 => c2 ⟨by omega, by omega⟩)), some_bind, i00]
      rfl
  · rw [if_neg c, if_neg (show ¬ nI f = 1 by rw [show (1 : Int32) = nI 1 from rfl, nIeq (by omega) (by omega)]; exact c)]
    rfl
/-- sums in naturals -/
def smN (e : Nat → Nat) : Nat → Nat
  | 0 => 0
  | n + 1 => smN e n + e n
theorem smN_s (e : Nat → Nat) (n : Nat) : smN e (n + 1) = smN e n + e n := rfl
theorem smN_le {e : Nat → Nat} {b : Nat} : ∀ {n : Nat}, (∀ i, i < n → e i ≤ b) → smN e n ≤ n * b
  | 0, _ => Nat.zero_le _
  | n + 1, h => by
    have h1 := smN_le (e := e) (b := b) (n := n) (fun i hi => h i (by omega))
    have h2 := h n (by omega)
    rw [smN_s, Nat.succ_mul]
    omega
theorem smN_ge {e : Nat → Nat} : ∀ {n i : Nat}, i < n → e i ≤ smN e n
  | 0, i, h => absurd h (by omega)
  | n + 1, i, h => by
    rw [smN_s]
    by_cases c : i = n
    · subst c; omega
    · have := smN_ge (e := e) (n := n) (i := i) (by omega)
      omega
theorem smN_congr {e e' : Nat → Nat} : ∀ {n : Nat}, (∀ j, j < n → e j = e' j) → smN e n = smN e' n
  | 0, _ => rfl
  | n + 1, h => by rw [smN_s, smN_s, smN_congr (fun j hj => h j (by omega)), h n (by omega)]
/-- Euclid's own, capped or not -/
theorem gcdX {N : Nat} : ∀ (k x y s : Nat), y < 2 ^ k → x < 2 ^ 30 → y < 2 ^ 30 → s + 2 * k + 1 ≤ 64 → ∀ F, 2 * k + 1 < F → itr (fun z : Int32 × Int32 × Int32 => LOff_greatestDivisor_7_8 N z.1 z.2.1 z.2.2) F (nI x, nI y, nI s) = some (nI (Nat.gcd x y))
  | 0, x, y, s, hy, hx, hy30, hs, F, hF => by
    have hy0 : y = 0 := by omega
    subst hy0
    obtain ⟨F, rfl⟩ : ∃ m, F = m + 1 := ⟨F - 1, by omega⟩
    unfold itr
    have : LOff_greatestDivisor_7_8 N (nI x) (nI 0) (nI s) = some (.inr (nI x)) := by
      unfold LOff_greatestDivisor_7_8
      rw [if_neg (show ¬ (64 : Int32) ≤ nI s by rw [show (64 : Int32) = nI 64 from rfl, nIle (by omega) (by omega)]; omega), if_pos (show nI 0 = 0 from rfl)]
    show (LOff_greatestDivisor_7_8 N (nI x) (nI 0) (nI s)).bind _ = _
    rw [this, Nat.gcd_zero_right]
    rfl
  | k + 1, x, y, s, hy, hx, hy30, hs, F, hF => by
    obtain ⟨F, rfl⟩ : ∃ m, F = m + 1 := ⟨F - 1, by omega⟩
    by_cases hy0 : y = 0
    · subst hy0
      unfold itr
      have : LOff_greatestDivisor_7_8 N (nI x) (nI 0) (nI s) = some (.inr (nI x)) := by
        unfold LOff_greatestDivisor_7_8
        rw [if_neg (show ¬ (64 : Int32) ≤ nI s by rw [show (64 : Int32) = nI 64 from rfl, nIle (by omega) (by omega)]; omega), if_pos (show nI 0 = 0 from rfl)]
      show (LOff_greatestDivisor_7_8 N (nI x) (nI 0) (nI s)).bind _ = _
      rw [this, Nat.gcd_zero_right]
      rfl
    · have step : ∀ x y s : Nat, x < 2 ^ 30 → y < 2 ^ 30 → 0 < y → s < 64 → LOff_greatestDivisor_7_8 N (nI x) (nI y) (nI s) = some (.inl (nI y, nI (x % y), nI (s + 1))) := fun x y s hx hy h0 hs => by
        unfold LOff_greatestDivisor_7_8 dvc
        rw [if_neg (show ¬ (64 : Int32) ≤ nI s by rw [show (64 : Int32) = nI 64 from rfl, nIle (by omega) (by omega)]; omega), if_neg (nI_ne0 h0 (by omega)), if_neg (nI_ne0 h0 (by omega)), ltI_u, ltI_u, nI_s, show remI (nI x) (nI y) = nI (x % y) from pk_rem (by omega) h0 (by omega)]
      have hm : x % y < y := Nat.mod_lt _ (by omega)
      unfold itr
      show (LOff_greatestDivisor_7_8 N (nI x) (nI y) (nI s)).bind _ = _
      rw [step x y s hx hy30 (by omega) (by omega), some_bind]
      show itr _ F (nI y, nI (x % y), nI (s + 1)) = _
      rw [Nat.gcd_comm x y, Nat.gcd_rec y x]
      obtain ⟨F, rfl⟩ : ∃ m, F = m + 1 := ⟨F - 1, by omega⟩
      by_cases hm0 : x % y = 0
      · rw [hm0, Nat.gcd_zero_left]
        unfold itr
        have : LOff_greatestDivisor_7_8 N (nI y) (nI 0) (nI (s + 1)) = some (.inr (nI y)) := by
          unfold LOff_greatestDivisor_7_8
          rw [if_neg (show ¬ (64 : Int32) ≤ nI (s + 1) by rw [show (64 : Int32) = nI 64 from rfl, nIle (by omega) (by omega)]; omega), if_pos (show nI 0 = 0 from rfl)]
        show (LOff_greatestDivisor_7_8 N (nI y) (nI 0) (nI (s + 1))).bind _ = _
        rw [this]
        rfl
      · unfold itr
        show (LOff_greatestDivisor_7_8 N (nI y) (nI (x % y)) (nI (s + 1))).bind _ = _
        rw [step y (x % y) (s + 1) hy30 (by omega) (by omega) (by omega), some_bind]
        show itr _ F (nI (x % y), nI (y % (x % y)), nI (s + 1 + 1)) = _
        have hm2 : y % (x % y) < x % y := Nat.mod_lt _ (by omega)
        have half : 2 * (y % (x % y)) < y := by
          have e := Nat.div_add_mod y (x % y)
          have : 1 ≤ y / (x % y) := by
            rw [Nat.le_div_iff_mul_le (by omega)]; omega
          have : x % y ≤ x % y * (y / (x % y)) := Nat.le_mul_of_pos_right _ (by omega)
          omega
        rw [gcdX k (x % y) (y % (x % y)) (s + 1 + 1) (by rw [Nat.pow_succ] at hy; omega) (by omega) (by omega) (by omega) F (by omega), Nat.gcd_comm (x % y), ← Nat.gcd_rec]
theorem gcdR {N : Nat} : ∀ (k x y : Nat), y < 2 ^ k → x < 2 ^ 30 → y < 2 ^ 30 → ∀ F, 2 * k + 1 < F → itr (fun z : Int32 × Int32 => LRef_ill_68_20 N z.1 z.2) F (nI x, nI y) = some (nI (Nat.gcd x y))
  | 0, x, y, hy, hx, hy30, F, hF => by
    have hy0 : y = 0 := by omega
    subst hy0
    obtain ⟨F, rfl⟩ : ∃ m, F = m + 1 := ⟨F - 1, by omega⟩
    unfold itr
    have : LRef_ill_68_20 N (nI x) (nI 0) = some (.inr (nI x)) := by
      unfold LRef_ill_68_20
      rw [if_pos (show nI 0 = 0 from rfl)]
    show (LRef_ill_68_20 N (nI x) (nI 0)).bind _ = _
    rw [this, Nat.gcd_zero_right]
    rfl
  | k + 1, x, y, hy, hx, hy30, F, hF => by
    obtain ⟨F, rfl⟩ : ∃ m, F = m + 1 := ⟨F - 1, by omega⟩
    have fin : ∀ x : Nat, LRef_ill_68_20 N (nI x) (nI 0) = some (.inr (nI x)) := fun x => by
      unfold LRef_ill_68_20
      rw [if_pos (show nI 0 = 0 from rfl)]
    by_cases hy0 : y = 0
    · subst hy0
      unfold itr
      show (LRef_ill_68_20 N (nI x) (nI 0)).bind _ = _
      rw [fin, Nat.gcd_zero_right]
      rfl
    · have step : ∀ x y : Nat, x < 2 ^ 30 → y < 2 ^ 30 → 0 < y → LRef_ill_68_20 N (nI x) (nI y) = some (.inl (nI y, nI (x % y))) := fun x y hx hy h0 => by
        unfold LRef_ill_68_20 dvc
        rw [if_neg (nI_ne0 h0 (by omega)), if_neg (nI_ne0 h0 (by omega)), ltI_u, show remI (nI x) (nI y) = nI (x % y) from pk_rem (by omega) h0 (by omega)]
      have hm : x % y < y := Nat.mod_lt _ (by omega)
      unfold itr
      show (LRef_ill_68_20 N (nI x) (nI y)).bind _ = _
      rw [step x y hx hy30 (by omega), some_bind]
      show itr _ F (nI y, nI (x % y)) = _
      rw [Nat.gcd_comm x y, Nat.gcd_rec y x]
      obtain ⟨F, rfl⟩ : ∃ m, F = m + 1 := ⟨F - 1, by omega⟩
      by_cases hm0 : x % y = 0
      · rw [hm0, Nat.gcd_zero_left]
        unfold itr
        show (LRef_ill_68_20 N (nI y) (nI 0)).bind _ = _
        rw [fin]
        rfl
      · unfold itr
        show (LRef_ill_68_20 N (nI y) (nI (x % y))).bind _ = _
        rw [step y (x % y) hy30 (by omega) (by omega), some_bind]
        show itr _ F (nI (x % y), nI (y % (x % y))) = _
        have hm2 : y % (x % y) < x % y := Nat.mod_lt _ (by omega)
        have half : 2 * (y % (x % y)) < y := by
          have e := Nat.div_add_mod y (x % y)
          have : 1 ≤ y / (x % y) := by
            rw [Nat.le_div_iff_mul_le (by omega)]; omega
          have : x % y ≤ x % y * (y / (x % y)) := Nat.le_mul_of_pos_right _ (by omega)
          omega
        rw [gcdR k (x % y) (y % (x % y)) (by rw [Nat.pow_succ] at hy; omega) (by omega) (by omega) F (by omega), Nat.gcd_comm (x % y), ← Nat.gcd_rec]
theorem ok_ill {N : Nat} (hN : 1000 < N) : Ok_ill Rel N := by
  intro a1 a2 MX MR h
  have hR := h
  obtain ⟨cn, fn, kp, hT, hC, hF, hD, hE, hP, hS, hk, hk1, hk2, hNn⟩ := h
  have hf10 := hF.2.1
  have hF2 := hF
  have hS2 := hS
  obtain ⟨-, -, hx7, hr7, hFi, -⟩ := hF2
  obtain ⟨hx5, hr, hh, hx6, hr6, hSi, -⟩ := hS2
  -- the weights
  obtain ⟨w, hw⟩ : ∃ w : Nat → Nat, w = fun i => wIll (hr - nN (MX 45 i)) (nN (MX 43 i)) (limN (nN (MX 41 i)) (nN (MX 31 i))) (nN (MX 44 i)) := ⟨_, rfl⟩
  have wx : ∀ i, i < fn → sFridge_weightOfIll (nI i) MX = some (nI (w i)) ∧ sRef_illOf (nI i) MR = some (nI (w i)) ∧ w i ≤ 24800000 := fun i hi => by
    obtain ⟨k, c, a, f, l, b1, b2, b3, b4, b5, x1, r1, x2, r2, x3, r3, x4, r4, x5, r5⟩ := hSi i hi
    obtain ⟨a', b, p, s, d1, d2, d3, d4, d5, y1, q1, y2, q2, y3, q3, y4, q4⟩ := hFi i hi
    rw [Nat.zero_add] at r1 r2 r3 r4 r5
    have ha : a ≤ 62000000 := by omega
    have e : w i = wIll (hr - l) a (limN k b) f := by
      rw [hw]
      show wIll (hr - nN (MX 45 i)) (nN (MX 43 i)) (limN (nN (MX 41 i)) (nN (MX 31 i))) (nN (MX 44 i)) = _
      rw [x1, x3, x4, x5, y2, nN_I (by omega), nN_I (by omega), nN_I (by omega), nN_I (by omega), nN_I (by omega)]
    rw [e]
    exact ⟨illX (by omega) hx6 x1 x3 x4 x5 y2 b5 hh b1 ha b4 d2 d3, illR (by omega) hr6 r1 r3 r4 r5 q2 b5 hh b1 ha b4 d2 d3, wIll_b ha (limN_b d2 d3).1⟩
  have hsum : smN w fn ≤ fn * 24800000 := smN_le fun i hi => (wx i hi).2.2
  have hs30 : smN w fn < 2 ^ 28 := by
    have : fn * 24800000 ≤ 10 * 24800000 := Nat.mul_le_mul_right _ hf10
    omega
  have bX : itr (fun z : Int32 × Int32 => LOff_ill_27_11 N MX z.1 z.2) N (0, 0) = some (nI (smN w fn)) := by
    refine itr_n (fun i => (nI (smN w i), nI i)) fn (r := nI (smN w fn)) rfl ?_ ?_ (by omega)
    · intro i hi
      show LOff_ill_27_11 N MX (nI (smN w i)) (nI i) = some (.inl (nI (smN w (i + 1)), nI (i + 1)))
      unfold LOff_ill_27_11
      rw [hx7, if_neg (by rw [nIle (by omega) (by omega)]; omega), (wx i hi).1, some_bind, ltI_u, ltI_u, nI_s, nI_add, smN_s]
    · show LOff_ill_27_11 N MX (nI (smN w fn)) (nI fn) = _
      unfold LOff_ill_27_11
      rw [hx7, if_pos (by rw [nIle (by omega) (by omega)]; omega)]
  have bR : itr (fun z : Int32 × Int32 => LRef_ill_25_13 N MR z.1 z.2) N (0, 0) = some (nI (smN w fn)) := by
    refine itr_n (fun i => (nI (smN w i), nI i)) fn (r := nI (smN w fn)) rfl ?_ ?_ (by omega)
    · intro i hi
      show LRef_ill_25_13 N MR (nI (smN w i)) (nI i) = some (.inl (nI (smN w (i + 1)), nI (i + 1)))
      unfold LRef_ill_25_13
      rw [rdc_0 (by omega) (by omega), hr7, if_neg (by rw [nIle (by omega) (by omega)]; omega), (wx i hi).2.1, some_bind, ltI_u, ltI_u, nI_s, nI_add, smN_s]
    · show LRef_ill_25_13 N MR (nI (smN w fn)) (nI fn) = _
      unfold LRef_ill_25_13
      rw [rdc_0 (by omega) (by omega), hr7, if_pos (by rw [nIle (by omega) (by omega)]; omega)]
  by_cases hin : 0 ≤ a1.toInt ∧ a1.toInt < fn
  · obtain ⟨i, hi, rfl⟩ := nI_ofRange hin.1 hin.2 (by omega)
    have e : sFridge_hasFood (nI i) MX = some 1 := by
      rcases hasFood_iff hx7 hf10 (nI i) with ⟨j, hj, ej, e⟩ | ⟨hout, e⟩
      · exact e
      · exact absurd hin hout
    by_cases hw2 : (0 : Int32).toInt ≤ a2.toInt ∧ a2.toInt ≤ (1 : Int32).toInt
    · have hge := smN_ge (e := w) hi
      have hwi := (wx i hi).2.2
      generalize hT : smN w fn = T at bX bR hs30 hge
      have g1 : sOff_greatestDivisor N (nI T) (nI (w i)) = some (nI (Nat.gcd T (w i))) := by
        unfold sOff_greatestDivisor
        rw [show ((nI T, nI (w i), 0) : Int32 × Int32 × Int32) = (nI T, nI (w i), nI 0) from rfl, gcdX 28 T (w i) 0 (by omega) (by omega) (by omega) (by omega) N (by omega), some_bind]
      have g2 : itr (fun z : Int32 × Int32 => LRef_ill_68_20 N z.1 z.2) N (nI (w i), nI T) = some (nI (Nat.gcd T (w i))) := by
        rw [gcdR 28 (w i) T (by omega) (by omega) (by omega) N (by omega), Nat.gcd_comm]
      by_cases c : T = 0
      · refine ⟨-4, ?_, ?_, hR⟩
        · unfold sOff_ill
          rw [e, some_bind, i10, within_T hw2.1 hw2.2, some_bind, i10, bX, some_bind, (wx i hi).1, some_bind, g1, some_bind, c, if_pos (by decide)]
        · unfold sRef_ill
          rw [isFood_T hr7 hf10 hi, some_bind, i10, in01, within_T hw2.1 hw2.2, some_bind, i10, bR, some_bind, c, if_pos (by decide)]
      · have gp : 0 < Nat.gcd T (w i) := Nat.gcd_pos_of_pos_left _ (by omega)
        have gl : Nat.gcd T (w i) ≤ T := Nat.le_of_dvd (by omega) (Nat.gcd_dvd_left _ _)
        refine ⟨if a2 = 0 then nI (w i) / nI (Nat.gcd T (w i)) else nI T / nI (Nat.gcd T (w i)), ?_, ?_, hR⟩
        · unfold sOff_ill dvc
          rw [e, some_bind, i10, within_T hw2.1 hw2.2, some_bind, i10, bX, some_bind, (wx i hi).1, some_bind, g1, some_bind, if_neg (nI_nle (by omega) (by omega)), if_pos (nI_p0 gp (by omega)), if_neg (nI_ne0 gp (by omega)), if_neg (nI_ne0 gp (by omega))]
          by_cases c2 : a2 = 0
          · rw [if_pos c2, if_pos c2]
          · rw [if_neg c2, if_neg c2]
        · unfold sRef_ill dvc
          rw [isFood_T hr7 hf10 hi, some_bind, i10, in01, within_T hw2.1 hw2.2, some_bind, i10, bR, some_bind, if_neg (nI_ne0 (by omega) (by omega)), (wx i hi).2.1, some_bind, g2, some_bind, some_bind, if_neg (nI_ne0 gp (by omega)), if_neg (nI_ne0 gp (by omega))]
          by_cases c2 : a2 = 0
          · rw [if_pos c2, if_pos c2]
          · rw [if_neg c2, if_neg c2]
    · refine ⟨-1, ?_, ?_, hR⟩
      · unfold sOff_ill; rw [e, some_bind, i10, within_F hw2]; rfl
      · unfold sRef_ill; rw [isFood_T hr7 hf10 hi, some_bind, i10, in01, within_F hw2]; rfl
  · refine ⟨-1, ?_, ?_, hR⟩
    · unfold sOff_ill
      rcases hasFood_iff hx7 hf10 a1 with ⟨j, hj, rfl, e⟩ | ⟨hout, e⟩
      · rw [nI_t (by omega)] at hin; omega
      · rw [e, some_bind, i00]
    · unfold sRef_ill; rw [isFood_F hr7 hF.1 hf10 hin, some_bind, i00]
