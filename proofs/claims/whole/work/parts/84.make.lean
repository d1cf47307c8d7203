/-! PURE PART 5: make, span; bits and counts; count. By hand. -/
theorem in03 (a : Int32) : sRef_in (Int32.toInt64 a) 0 3 = sOff_isWithin a 0 3 := in_eq a 0 3
theorem turnX {M : Mm} {i : Nat} (h : i < 10) (v : Int32) : sStock_turnInto (nI i) v M = some (mset M 41 i v) := by
  unfold sStock_turnInto; rw [ltM_u, putf_n h (by omega)]
theorem ok_make (N : Nat) : Ok_make Rel N := by
  intro a1 a2 MX MR h
  have hR := h
  obtain ⟨cn, fn, kp, hT, hC, hF, hD, hE, hP, hS, hk, hk1, hk2, hN⟩ := h
  by_cases hin : 0 ≤ a1.toInt ∧ a1.toInt < fn
  · obtain ⟨i, hi, rfl⟩ := nI_ofRange hin.1 hin.2 (by have := hF.2.1; omega)
    have hi10 : i < 10 := Nat.lt_of_lt_of_le hi hF.2.1
    obtain ⟨e1, e2, e3, e4, e5⟩ := Rel_stk hS hi
    rw [Nat.zero_add] at e1 e2 e3 e4 e5
    have e : sFridge_hasFood (nI i) MX = some 1 := by
      rcases hasFood_iff hF.2.2.1 hF.2.1 (nI i) with ⟨j, hj, ej, e⟩ | ⟨hout, e⟩
      · exact e
      · exact absurd hin hout
    have eX : sOff_make (nI i) a2 MX = ((sOff_isWithin a2 0 3).bind fun z => if z = 0 then some (-1, MX) else if MX 44 i = 0 then ((sOff_canBecome (MX 41 i) a2).bind fun y => if y = 0 then some (-2, MX) else some (MX 41 i, mset MX 41 i (if a2 = 0 then 1 else a2))) else some (-2, MX)) := by
      unfold sOff_make
      rw [e, some_bind, i10]
      refine congrArg _ (funext fun z => ?_)
      by_cases hz : z = 0
      · rw [if_pos hz, if_pos hz]
      · rw [if_neg hz, if_neg hz, kindX hi10, some_bind, isThereX hS.1 hF.2.1 hi, some_bind]
        by_cases c : MX 44 i = 0
        · rw [if_pos c, i10, if_pos c]
          refine congrArg _ (funext fun y => ?_)
          by_cases hy : y = 0
          · rw [if_pos hy, if_pos hy]
          · rw [if_neg hy, if_neg hy]
            by_cases hq : a2 = 0
            · rw [if_pos hq, some_bind, turnX hi10, if_pos hq]; rfl
            · rw [if_neg hq, some_bind, turnX hi10, if_neg hq]; rfl
        · rw [if_neg c, i00, if_neg c]
    have eR : sRef_make (nI i) a2 MR = ((sOff_isWithin a2 0 3).bind fun z => if z = 0 then some (-1, MR) else (((if a2 = 0 then (if MX 41 i = 3 then some 1 else some 0) else (if a2 = 1 then (if MX 41 i = 0 then some 1 else some 0) else (if a2 = 2 then (if 2 ≤ MX 41 i then some 0 else some 1) else (if MX 41 i = 3 then some 0 else some 1)))) : Option Int32).bind fun y => if MX 44 i = 0 then (if y = 0 then some (-2, MR) else some (MX 41 i, mset MR 22 i (if a2 = 0 then 1 else a2))) else some (-2, MR))) := by
      unfold sRef_make
      rw [isFood_T hF.2.2.2.1 hF.2.1 hi, some_bind, i10, in03]
      refine congrArg _ (funext fun z => ?_)
      by_cases hz : z = 0
      · rw [if_pos hz, if_pos hz]
      · rw [if_neg hz, if_neg hz, rdc_n (by omega) (by omega), ← e1]
        refine congrArg _ (funext fun y => ?_)
        rw [rdc_n (by omega) (by omega), ← e4]
        by_cases c : MX 44 i = 0
        · rw [if_pos c, if_pos c]
          by_cases hy : y = 0
          · rw [if_pos hy, if_pos hy]
          · rw [if_neg hy, if_neg hy, inc_n (by omega) (by omega), ltM_u, inc_n (by omega) (by omega), ltM_u, cl_n (by omega)]
            by_cases hq : a2 = 0
            · rw [if_pos hq, if_pos hq]
            · rw [if_neg hq, if_neg hq]
        · rw [if_neg c, if_neg c]
    rw [eX, eR]
    by_cases hw : 0 ≤ a2.toInt ∧ a2.toInt ≤ 3
    · rw [within_T (show (0 : Int32).toInt ≤ _ from hw.1) (show _ ≤ (3 : Int32).toInt from hw.2), some_bind, some_bind, i10, i10]
      obtain ⟨j, hj, rfl⟩ := nI_ofRange (n := 4) hw.1 (by omega) (by omega)
      have hS' := hS
      obtain ⟨h5, hr, h0, h1, h2, h3, h4⟩ := hS'
      obtain ⟨k', c', a', f', l', q1, q2, q3, q4, q5, q6, q7, q8, q9, q10, q11, q12, q13, q14, q15⟩ := h3 i hi
      have main : ∀ nk : Nat, nk ≤ 3 → Rel (mset MX 41 i (nI nk)) (mset MR 22 i (nI nk)) := fun nk hnk => by
        refine ⟨cn, fn, kp, hT, hC, hF, hD, hE, hP, ⟨h5, hr, h0, h1, h2, fun m hm => ?_, h4⟩, hk, fun q => RStk_R (hk1 q) rfl (fun j hj => ⟨upd_ne _ _ (by omega), rfl, rfl, rfl, rfl⟩), fun q => RStk_R (hk2 q) rfl (fun j hj => ⟨upd_ne _ _ (by omega), rfl, rfl, rfl, rfl⟩), hN⟩
        obtain ⟨k2, c2, a2', f2, l2, p1, p2, p3, p4, p5, p6, p7, p8, p9, p10, p11, p12, p13, p14, p15⟩ := h3 m hm
        by_cases im : m = i
        · subst im
          exact ⟨nk, c2, a2', f2, l2, hnk, p2, p3, p4, p5, upd_eq _ _ _, by rw [Nat.zero_add]; exact upd_eq _ _ _, p8, p9, p10, p11, p12, p13, p14, p15⟩
        · exact ⟨k2, c2, a2', f2, l2, p1, p2, p3, p4, p5, (upd_ne _ _ im).trans p6, (upd_ne _ _ (by omega)).trans p7, p8, p9, p10, p11, p12, p13, p14, p15⟩
      by_cases c : MX 44 i = 0
      · rw [if_pos c]
        have q6' : MX 41 i = nI k' := q6
        rw [q6']
        rcases (show j = 0 ∨ j = 1 ∨ j = 2 ∨ j = 3 by omega) with rfl | rfl | rfl | rfl <;> rcases (show k' = 0 ∨ k' = 1 ∨ k' = 2 ∨ k' = 3 by omega) with rfl | rfl | rfl | rfl <;>
          first
          | exact ⟨-2, MX, MR, rfl, if_pos c, hR⟩
          | exact ⟨_, _, _, rfl, if_pos c, main 1 (by omega)⟩
          | exact ⟨_, _, _, rfl, if_pos c, main 2 (by omega)⟩
          | exact ⟨_, _, _, rfl, if_pos c, main 3 (by omega)⟩
      · rw [if_neg c]
        refine ⟨-2, MX, MR, rfl, ?_, hR⟩
        have q6' : MX 41 i = nI k' := q6
        rw [q6']
        rcases (show j = 0 ∨ j = 1 ∨ j = 2 ∨ j = 3 by omega) with rfl | rfl | rfl | rfl <;> rcases (show k' = 0 ∨ k' = 1 ∨ k' = 2 ∨ k' = 3 by omega) with rfl | rfl | rfl | rfl <;> exact if_neg c
    · rw [within_F (show ¬ ((0 : Int32).toInt ≤ _ ∧ _ ≤ (3 : Int32).toInt) from hw)]
      exact ⟨-1, MX, MR, rfl, rfl, hR⟩
  · refine ⟨-1, MX, MR, ?_, ?_, hR⟩
    · unfold sOff_make
      rcases hasFood_iff hF.2.2.1 hF.2.1 a1 with ⟨j, hj, rfl, e⟩ | ⟨hout, e⟩
      · rw [nI_t (by have := hF.2.1; omega)] at hin; omega
      · rw [e, some_bind, i00]
    · unfold sRef_make; rw [isFood_F hF.2.2.2.1 hF.1 hF.2.1 hin, some_bind, i00]
-- span
theorem in0_300 (a : Int32) : sRef_in (Int32.toInt64 a) 0 300 = sOff_isWithin a 0 300 := in_eq a 0 300
theorem in1_300 (a : Int32) : sRef_in (Int32.toInt64 a) 1 300 = sOff_isWithin a 1 300 := in_eq a 1 300
theorem ok_span (N : Nat) : Ok_span Rel N := by
  intro a1 a2 MX MR h
  have hR := h
  obtain ⟨cn, fn, kp, hT, hC, hF, hD, hE, hP, hS, hk, hk1, hk2, hN⟩ := h
  have hN' := hN
  obtain ⟨sn, s1, s2, s3, s4⟩ := hN'
  have bad : sOff_isWithin a1 0 300 = some 0 ∨ (sOff_isWithin a1 0 300 = some 1 ∧ sOff_isWithin a2 1 300 = some 0) → ∃ (r : Int32) (MX1 MR1 : Mm), sOff_span a1 a2 MX = some (r, MX1) ∧ sRef_span a1 a2 MR = some (r, MR1) ∧ Rel MX1 MR1 := by
    intro hb
    refine ⟨-1, MX, MR, ?_, ?_, hR⟩
    · unfold sOff_span
      rcases hb with e | ⟨e, e'⟩
      · rw [e]; rfl
      · rw [e, some_bind, i10, e']; rfl
    · unfold sRef_span
      rcases hb with e | ⟨e, e'⟩
      · rw [in0_300, e]; rfl
      · rw [in0_300, e, some_bind, i10, in1_300, e']; rfl
  by_cases w1 : (0 : Int32).toInt ≤ a1.toInt ∧ a1.toInt ≤ (300 : Int32).toInt
  · by_cases w2 : (1 : Int32).toInt ≤ a2.toInt ∧ a2.toInt ≤ (300 : Int32).toInt
    · obtain ⟨x, hx, rfl⟩ := nI_ofRange (n := 301) (a := a1) w1.1 (by have q : a1.toInt ≤ 300 := w1.2; omega) (by omega)
      have q1 : (1 : Int) ≤ a2.toInt := w2.1
      obtain ⟨y, hy, rfl⟩ := nI_ofRange (n := 301) (a := a2) (by omega) (by have q : a2.toInt ≤ 300 := w2.2; omega) (by omega)
      rw [nI_t (by omega)] at q1
      by_cases full : sn = 8
      · subst full
        refine ⟨-3, MX, MR, ?_, ?_, hR⟩
        · unfold sOff_span sSpans_add
          rw [within_T w1.1 w1.2, some_bind, i10, within_T w2.1 w2.2, some_bind, i10, s2, if_neg (by decide)]
          rfl
        · unfold sRef_span
          rw [in0_300, in1_300, within_T w1.1 w1.2, some_bind, i10, within_T w2.1 w2.2, some_bind, i10, s3, if_pos (by decide)]
      · have hs8 : sn < 8 := by omega
        have d2 : (2 : Int32) * nI sn = nI (2 * sn) := pk_mul 2 sn
        refine ⟨nI (sn + 1), mset (mset (mset MX 72 sn (nI x)) 73 sn (nI y)) 71 2 (nI (sn + 1)), mset (mset (mset MR 28 (2 * sn) (nI x)) 28 (2 * sn + 1) (nI y)) 0 29 (nI (sn + 1)), ?_, ?_, ?_⟩
        · unfold sOff_span sSpans_add
          rw [within_T w1.1 w1.2, some_bind, i10, within_T w2.1 w2.2, some_bind, i10, s2, if_pos (by rw [show (8 : Int32) = nI 8 from rfl, nIlt (by omega) (by omega)]; omega), ltM_u, putf_n hs8 (by omega), ltM_u, show mset MX 72 sn (nI x) 71 2 = nI sn from s2, putf_n hs8 (by omega), ltM_u, show mset (mset MX 72 sn (nI x)) 73 sn (nI y) 71 2 = nI sn from s2, show nI sn + 1 = nI (sn + 1) from nI_1 sn]
          rfl
        · unfold sRef_span
          rw [in0_300, in1_300, within_T w1.1 w1.2, some_bind, i10, within_T w2.1 w2.2, some_bind, i10, s3, if_neg (by rw [show (8 : Int32) = nI 8 from rfl, nIeq (by omega) (by omega)]; omega), d2, inc_n (by omega) (by omega), ltM_u, cl_n (by omega), show mset MR 28 (2 * sn) (nI x) 0 29 = nI sn from s3, d2, show nI (2 * sn) + 1 = nI (2 * sn + 1) from nI_1 _, inc_n (by omega) (by omega), ltM_u, cl_n (by omega), ltM_u, show mset (mset MR 28 (2 * sn) (nI x)) 28 (2 * sn + 1) (nI y) 0 29 = nI sn from s3, show nI sn + 1 = nI (sn + 1) from nI_1 sn]
          rfl
        · refine ⟨cn, fn, kp, hT, hC, hF, hD, hE, hP, hS, hk, hk1, hk2, sn + 1, by omega, rfl, rfl, fun j hj => ?_⟩
          show ∃ a b : Nat, a ≤ 300 ∧ 1 ≤ b ∧ b ≤ 300 ∧ upd (MX 72) sn (nI x) j = nI a ∧ upd (upd (MR 28) (2 * sn) (nI x)) (2 * sn + 1) (nI y) (2 * j) = nI a ∧ upd (MX 73) sn (nI y) j = nI b ∧ upd (upd (MR 28) (2 * sn) (nI x)) (2 * sn + 1) (nI y) (2 * j + 1) = nI b
          by_cases js : j = sn
          · subst js
            exact ⟨x, y, by omega, by omega, by omega, upd_eq _ _ _, by rw [upd_ne _ _ (by omega), upd_eq], upd_eq _ _ _, upd_eq _ _ _⟩
          · obtain ⟨a, b, t1, t2, t3, t4, t5, t6, t7⟩ := s4 j (by omega)
            exact ⟨a, b, t1, t2, t3, by rw [upd_ne _ _ js]; exact t4, by rw [upd_ne _ _ (by omega), upd_ne _ _ (by omega)]; exact t5, by rw [upd_ne _ _ js]; exact t6, by rw [upd_ne _ _ (by omega), upd_ne _ _ (by omega)]; exact t7⟩
    · exact bad (Or.inr ⟨within_T w1.1 w1.2, within_F w2⟩)
  · exact bad (Or.inl (within_F w1))
