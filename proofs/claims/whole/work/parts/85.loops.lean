/-! PURE PART 6: the law of spans, expect and buy, errors by print and by smell. By hand. -/
theorem nI_s (i : Nat) : nI i + 1 = nI (i + 1) := nI_1 i
theorem add_z (x : Int32) : x + 0 = x := Int32.add_zero x
-- a best one among 1 .. n, beside 0
def bst (p : Int32 → Int32 → Prop) [∀ a b, Decidable (p a b)] : Nat → Int32
  | 0 => 0
  | n + 1 => if p (bst p n) (nI (n + 1)) then bst p n else nI (n + 1)
-- spans
def fit1 (b w h : Int32) : Prop := ¬ (b + w) * h < 2400 ∧ ¬ 2400 ≤ (b + w) * (h - 1)
def fitF (b : Int32) (w h : Nat → Int32) : Nat → Int32
  | 0 => 0
  | n + 1 => if (b + w n) * h n < 2400 then fitF b w h n else if 2400 ≤ (b + w n) * (h n - 1) then fitF b w h n else fitF b w h n + 1
theorem fitF_s (b : Int32) (w h : Nat → Int32) (n : Nat) : fitF b w h (n + 1) = if (b + w n) * h n < 2400 then fitF b w h n else if 2400 ≤ (b + w n) * (h n - 1) then fitF b w h n else fitF b w h n + 1 := rfl
theorem fitF_congr {b : Int32} {w h w' h' : Nat → Int32} : ∀ {n : Nat}, (∀ j, j < n → w j = w' j ∧ h j = h' j) → fitF b w h n = fitF b w' h' n
  | 0, _ => rfl
  | n + 1, e => by
    unfold fitF
    rw [fitF_congr (fun j hj => e j (by omega)), (e n (by omega)).1, (e n (by omega)).2]
theorem fitX {M : Mm} {N sn : Nat} (h : M 71 2 = nI sn) (hs : sn ≤ 8) (hN : 1000 < N) (b : Int32) : sSpans_fittedBy N b M = some (fitF b (M 72) (M 73) sn) := by
  unfold sSpans_fittedBy
  refine itr_b (fun i => (fitF b (M 72) (M 73) i, nI i)) sn (r := fitF b (M 72) (M 73) sn) rfl ?_ ?_ (by omega) rfl
  · intro i hi
    show LSpans_fittedBy_4_19 N b M (fitF b (M 72) (M 73) i) (nI i) = some (.inl (fitF b (M 72) (M 73) (i + 1), nI (i + 1)))
    unfold LSpans_fittedBy_4_19
    rw [h, if_neg (by rw [nIle (by omega) (by omega)]; omega), atf_n (by omega) (by omega), atf_n (by omega) (by omega), ltI_u, ltI_u]
    rw [fitF_s]
    by_cases c1 : (b + M 72 i) * M 73 i < 2400
    · rw [if_pos c1, if_pos c1, ltI_u, nI_s]
    · rw [if_neg c1, if_neg c1]
      by_cases c2 : 2400 ≤ (b + M 72 i) * (M 73 i - 1)
      · rw [if_pos c2, if_pos c2, ltI_u, nI_s]
      · rw [if_neg c2, if_neg c2, ltI_u, ltI_u, nI_s]
  · show LSpans_fittedBy_4_19 N b M (fitF b (M 72) (M 73) sn) (nI sn) = _
    unfold LSpans_fittedBy_4_19
    rw [h, if_pos (by rw [nIle (by omega) (by omega)]; omega)]
theorem fitR {M : Mm} {N sn : Nat} (h : M 0 29 = nI sn) (hs : sn ≤ 8) (hN : 1000 < N) (b : Int32) : sRef_fitsOf N b M = some (fitF b (fun j => M 28 (2 * j)) (fun j => M 28 (2 * j + 1)) sn) := by
  unfold sRef_fitsOf
  refine itr_b (fun i => (fitF b (fun j => M 28 (2 * j)) (fun j => M 28 (2 * j + 1)) i, nI i)) sn (r := fitF b (fun j => M 28 (2 * j)) (fun j => M 28 (2 * j + 1)) sn) rfl ?_ ?_ (by omega) rfl
  · intro i hi
    show LRef_fitsOf_4_21 N b M (fitF b (fun j => M 28 (2 * j)) (fun j => M 28 (2 * j + 1)) i) (nI i) = some (.inl (fitF b (fun j => M 28 (2 * j)) (fun j => M 28 (2 * j + 1)) (i + 1), nI (i + 1)))
    generalize hg : fitF b (fun j => M 28 (2 * j)) (fun j => M 28 (2 * j + 1)) i = g
    unfold LRef_fitsOf_4_21
    rw [h, if_neg (by rw [nIle (by omega) (by omega)]; omega), show (2 : Int32) * nI i = nI (2 * i) from pk_mul 2 i, rdc_n (by omega) (by omega), ltI_u, nI_s, rdc_n (by omega) (by omega)]
    rw [fitF_s, hg]
    by_cases c1 : (b + M 28 (2 * i)) * M 28 (2 * i + 1) < 2400
    · rw [if_pos c1, if_pos c1, ltI_u, ltI_u, nI_s, add_z]
    · rw [if_neg c1, if_neg c1]
      by_cases c2 : 2400 ≤ (b + M 28 (2 * i)) * (M 28 (2 * i + 1) - 1)
      · rw [if_pos c2, if_pos c2, ltI_u, ltI_u, nI_s, add_z]
      · rw [if_neg c2, if_neg c2, ltI_u, ltI_u, nI_s]
  · show LRef_fitsOf_4_21 N b M (fitF b (fun j => M 28 (2 * j)) (fun j => M 28 (2 * j + 1)) sn) (nI sn) = _
    unfold LRef_fitsOf_4_21
    rw [h, if_pos (by rw [nIle (by omega) (by omega)]; omega)]
theorem bestLawX {M : Mm} {N : Nat} (hN : 1000 < N) (f : Int32 → Int32) (hf : ∀ b, sSpans_fittedBy N b M = some (f b)) : sSpans_bestLaw N M = some (bst (fun a b => f b ≤ f a) 40) := by
  unfold sSpans_bestLaw
  refine itr_b (fun i => (bst (fun a b => f b ≤ f a) i, nI (i + 1))) 40 (r := bst (fun a b => f b ≤ f a) 40) rfl ?_ ?_ (by omega) rfl
  · intro i hi
    show LSpans_bestLaw_4_11 N M (bst (fun a b => f b ≤ f a) i) (nI (i + 1)) = some (.inl ((if f (nI (i + 1)) ≤ f (bst (fun a b => f b ≤ f a) i) then bst (fun a b => f b ≤ f a) i else nI (i + 1)), nI (i + 1 + 1)))
    unfold LSpans_bestLaw_4_11
    rw [if_neg (by rw [show (40 : Int32) = nI 40 from rfl, nIlt (by omega) (by omega)]; omega), hf, some_bind, hf, some_bind]
    by_cases c : f (nI (i + 1)) ≤ f (bst (fun a b => f b ≤ f a) i)
    · rw [if_pos c, if_pos c, ltI_u, nI_s]
    · rw [if_neg c, if_neg c, ltI_u, nI_s]
  · show LSpans_bestLaw_4_11 N M (bst (fun a b => f b ≤ f a) 40) (nI 41) = _
    unfold LSpans_bestLaw_4_11
    rw [if_pos (by decide)]
theorem bestLawR {M : Mm} {N : Nat} (hN : 1000 < N) (f : Int32 → Int32) (hf : ∀ b, sRef_fitsOf N b M = some (f b)) : (itr (fun z : Int32 × Int32 => LRef_law_16_12 N M z.1 z.2) N (0, 1)) = some (bst (fun a b => f b ≤ f a) 40) := by
  refine itr_n (fun i => (bst (fun a b => f b ≤ f a) i, nI (i + 1))) 40 (r := bst (fun a b => f b ≤ f a) 40) rfl ?_ ?_ (by omega)
  · intro i hi
    show LRef_law_16_12 N M (bst (fun a b => f b ≤ f a) i) (nI (i + 1)) = some (.inl ((if f (nI (i + 1)) ≤ f (bst (fun a b => f b ≤ f a) i) then bst (fun a b => f b ≤ f a) i else nI (i + 1)), nI (i + 1 + 1)))
    unfold LRef_law_16_12
    rw [if_neg (by rw [show (41 : Int32) = nI 41 from rfl, nIle (by omega) (by omega)]; omega), hf, some_bind, hf, some_bind]
    by_cases c : f (nI (i + 1)) ≤ f (bst (fun a b => f b ≤ f a) i)
    · rw [if_pos c, if_pos c, ltI_u, nI_s]
    · rw [if_neg c, if_neg c, ltI_u, nI_s]
  · show LRef_law_16_12 N M (bst (fun a b => f b ≤ f a) 40) (nI 41) = _
    unfold LRef_law_16_12
    rw [if_pos (by decide)]
theorem in01 (a : Int32) : sRef_in (Int32.toInt64 a) 0 1 = sOff_isWithin a 0 1 := in_eq a 0 1
theorem ok_law {N : Nat} (hN : 1000 < N) : Ok_law Rel N := by
  intro a1 MX MR h
  have hR := h
  obtain ⟨cn, fn, kp, hT, hC, hF, hD, hE, hP, hS, hk, hk1, hk2, hNn⟩ := h
  obtain ⟨sn, s1, s2, s3, s4⟩ := hNn
  have fx : ∀ b, sSpans_fittedBy N b MX = some (fitF b (MX 72) (MX 73) sn) := fitX s2 s1 hN
  have fr : ∀ b, sRef_fitsOf N b MR = some (fitF b (MX 72) (MX 73) sn) := fun b => by
    rw [fitR s3 s1 hN b]
    exact congrArg some (fitF_congr fun j hj => by
      obtain ⟨a, b', t1, t2, t3, t4, t5, t6, t7⟩ := s4 j hj
      exact ⟨t5.trans t4.symm, t7.trans t6.symm⟩)
  obtain ⟨B, hB⟩ : ∃ B, B = bst (fun a b => fitF b (MX 72) (MX 73) sn ≤ fitF a (MX 72) (MX 73) sn) 40 := ⟨_, rfl⟩
  have bx := bestLawX hN (fun b => fitF b (MX 72) (MX 73) sn) fx
  have br := bestLawR (M := MR) hN (fun b => fitF b (MX 72) (MX 73) sn) fr
  have bx : sSpans_bestLaw N MX = some B := by rw [hB]; exact bx
  have br : (itr (fun z : Int32 × Int32 => LRef_law_16_12 N MR z.1 z.2) N (0, 1)) = some B := by rw [hB]; exact br
  by_cases w : (0 : Int32).toInt ≤ a1.toInt ∧ a1.toInt ≤ (1 : Int32).toInt
  · by_cases c : a1 = 0
    · refine ⟨fitF B (MX 72) (MX 73) sn, ?_, ?_, hR⟩
      · unfold sOff_law
        rw [within_T w.1 w.2, some_bind, i10, bx, some_bind, if_pos c, fx, some_bind]
      · unfold sRef_law
        rw [in01, within_T w.1 w.2, some_bind, i10, br, some_bind, if_pos c, fr, some_bind]
    · refine ⟨B, ?_, ?_, hR⟩
      · unfold sOff_law
        rw [within_T w.1 w.2, some_bind, i10, bx, some_bind, if_neg c]
      · unfold sRef_law
        rw [in01, within_T w.1 w.2, some_bind, i10, br, some_bind, if_neg c]
  · exact ⟨-1, by unfold sOff_law; rw [within_F w]; rfl, by unfold sRef_law; rw [in01, within_F w]; rfl, hR⟩
-- expect, buy
def exF (q cost : Int32) (g w : Nat → Int32) : Nat → Int32
  | 0 => 0
  | n + 1 => exF q cost g w n + w n * (cost + 15 * (if g n ≤ q then 0 else g n - q))
theorem exF_congr {q cost : Int32} {g w g' w' : Nat → Int32} : ∀ {n : Nat}, (∀ j, j < n → g j = g' j ∧ w j = w' j) → exF q cost g w n = exF q cost g' w' n
  | 0, _ => rfl
  | n + 1, e => by unfold exF; rw [exF_congr (fun j hj => e j (by omega)), (e n (by omega)).1, (e n (by omega)).2]
def pkF (q a b : Int32) : Int32 := if (q / 2) * b + remI q 2 * a ≤ q * a then (q / 2) * b + remI q 2 * a else q * a
theorem sub_max {g q : Nat} (hg : g ≤ 100) (hq : q ≤ 100) : maxI (nI g - nI q) 0 = (if nI g ≤ nI q then 0 else nI g - nI q) := by
  have e : (nI g - nI q).toInt = (g : Int) - q := pk_sub_toInt (by omega) (by omega)
  unfold maxI
  by_cases c : g ≤ q
  · rw [if_pos (show nI g ≤ nI q by rw [nIle (by omega) (by omega)]; exact c)]
    by_cases c2 : nI g - nI q < 0
    · rw [if_pos c2]
    · rw [if_neg c2]
      apply Int32.toInt_inj.mp
      rw [Int32.lt_iff_toInt_lt, e, tz] at c2
      rw [e, tz]; omega
  · rw [if_neg (show ¬ nI g ≤ nI q by rw [nIle (by omega) (by omega)]; exact c), if_neg]
    rw [Int32.lt_iff_toInt_lt, e, tz]; omega
theorem min_pk (x y : Int32) : minI x y = (if y ≤ x then y else x) := by
  unfold minI
  by_cases c : y < x
  · rw [if_pos c, if_pos (Int32.le_of_lt c)]
  · rw [if_neg c]
    by_cases c2 : y ≤ x
    · rw [if_pos c2]
      apply Int32.toInt_inj.mp
      rw [Int32.lt_iff_toInt_lt] at c
      rw [Int32.le_iff_toInt_le] at c2
      omega
    · rw [if_neg c2]
theorem exX {M : Mm} {N gn : Nat} (h : M 37 2 = nI gn) (hg : gn ≤ 6) (hs : ∀ j, j < gn → ∃ a, a ≤ 9 ∧ M 38 j = nI a) (hN : 1000 < N) {q : Nat} (hq : q ≤ 9) : sParty_expectOf_l N (nI q) M = some (exF (nI q) (pkF (nI q) (M 37 3) (M 37 4)) (M 38) (M 39) gn) := by
  unfold sParty_expectOf_l
  rw [ltI_u, min_pk]
  show (itr (fun z : Int32 × Int32 => LParty_expectOf_l_32_10 N (nI q) M (pkF (nI q) (M 37 3) (M 37 4)) z.1 z.2) N (0, 0)).bind _ = _
  generalize pkF (nI q) (M 37 3) (M 37 4) = cost
  refine itr_b (fun i => (exF (nI q) cost (M 38) (M 39) i, nI i)) gn (r := exF (nI q) cost (M 38) (M 39) gn) rfl ?_ ?_ (by omega) rfl
  · intro i hi
    show LParty_expectOf_l_32_10 N (nI q) M cost (exF (nI q) cost (M 38) (M 39) i) (nI i) = some (.inl (exF (nI q) cost (M 38) (M 39) i + M 39 i * (cost + 15 * (if M 38 i ≤ nI q then 0 else M 38 i - nI q)), nI (i + 1)))
    unfold LParty_expectOf_l_32_10
    obtain ⟨a, ha, ea⟩ := hs i hi
    rw [h, if_neg (by rw [nIle (by omega) (by omega)]; omega), atf_n (by omega) (by omega), atf_n (by omega) (by omega), ltI_u, ltI_u, ltI_u, nI_s, ea, sub_max (by omega) (by omega)]
  · show LParty_expectOf_l_32_10 N (nI q) M cost (exF (nI q) cost (M 38) (M 39) gn) (nI gn) = _
    unfold LParty_expectOf_l_32_10
    rw [h, if_pos (by rw [nIle (by omega) (by omega)]; omega)]
theorem exR {M : Mm} {N gn : Nat} (h : M 18 0 = nI gn) (hg : gn ≤ 6) (hN : 1000 < N) (q : Int32) : sRef_expectOf N q M = some (exF q (pkF q (M 21 0) (M 21 1)) (M 19) (M 20) gn) := by
  unfold sRef_expectOf
  rw [rdc_0 (by omega) (by omega), ltI_u, rdc_1 (by omega) (by omega), rdc_0 (by omega) (by omega), ltI_u]
  have e : (if (q / 2) * M 21 1 + remI q 2 * M 21 0 ≤ q * M 21 0 then some ((q / 2) * M 21 1 + remI q 2 * M 21 0) else some (q * M 21 0)) = some (pkF q (M 21 0) (M 21 1)) := by
    unfold pkF
    by_cases c : (q / 2) * M 21 1 + remI q 2 * M 21 0 ≤ q * M 21 0
    · rw [if_pos c, if_pos c]
    · rw [if_neg c, if_neg c]
  rw [e, some_bind]
  generalize pkF q (M 21 0) (M 21 1) = cost
  refine itr_b (fun i => (exF q cost (M 19) (M 20) i, nI i)) gn (r := exF q cost (M 19) (M 20) gn) rfl ?_ ?_ (by omega) rfl
  · intro i hi
    show LRef_expectOf_49_28 N q M cost (exF q cost (M 19) (M 20) i) (nI i) = some (.inl (exF q cost (M 19) (M 20) i + M 20 i * (cost + 15 * (if M 19 i ≤ q then 0 else M 19 i - q)), nI (i + 1)))
    unfold LRef_expectOf_49_28
    rw [rdc_0 (by omega) (by omega), h, if_neg (by rw [nIle (by omega) (by omega)]; omega), rdc_n (by omega) (by omega)]
    by_cases c : M 19 i ≤ q
    · rw [if_pos c, some_bind, rdc_n (by omega) (by omega), ltI_u, ltI_u, nI_s, if_pos c]
    · rw [if_neg c, rdc_n (by omega) (by omega), some_bind, rdc_n (by omega) (by omega), ltI_u, ltI_u, nI_s, if_neg c]
  · show LRef_expectOf_49_28 N q M cost (exF q cost (M 19) (M 20) gn) (nI gn) = _
    unfold LRef_expectOf_49_28
    rw [rdc_0 (by omega) (by omega), h, if_pos (by rw [nIle (by omega) (by omega)]; omega)]
