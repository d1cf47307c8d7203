/-! PURE PART 27: the text into what is laid. Written by wip/whole/take.py. -/
def DRl (M MR : Mm) : Prop := ∃ cn fn : Nat, RCl0 cn (M 23 3) (M 23 4) (M 24) (M 25) (M 26) (MR 2 1) (MR 6 1) (fun c => MR 3 (6 + c)) (fun c => MR 4 (6 + c)) (fun c => MR 5 (6 + c)) ∧ RFo0 cn fn (M 27 7) (M 28) (M 29) (M 30) (M 31) (M 32) (M 33) (M 34) (MR 7 1) (fun i => MR 8 (10 + i)) (fun i => MR 9 (10 + i)) (fun i => MR 10 (10 + i)) (fun i => MR 11 (10 + i)) (fun i => MR 12 (10 + i)) (fun i => MR 13 (10 + i)) ∧ RBit 5 1 (M 22 3) (M 35) (MR 14 1) (fun d => MR 15 (5 + d)) ∧ RBit 4 0 (M 22 5) (M 36) (MR 16 1) (fun e => MR 17 (4 + e)) ∧ RPar (M 37 2) (M 38) (M 39) (M 37 3) (M 37 4) (M 22 7) (MR 18 1) (fun j => MR 19 (6 + j)) (fun j => MR 20 (6 + j)) (fun j => MR 21 (3 + j))
theorem DRl_fr {M M' MR MR' : Mm} (h : DRl M MR) (hX : FrI M M') (hR : FrF MR MR') : DRl M' MR' := by
  obtain ⟨cn, fn, h1, h2, h3, h4, h5⟩ := h
  have eX : M' = fun r => if r = 1 then M' 1 else if r = 3 then M' 3 else M r := funext fun r => by
    by_cases c1 : r = 1
    · rw [if_pos c1, c1]
    · rw [if_neg c1]
      by_cases c3 : r = 3
      · rw [if_pos c3, c3]
      · rw [if_neg c3]; exact hX.1 r c1 c3
  have eR : MR' = fun r => if r = 0 then MR' 0 else if r = 29 then MR' 29 else MR r := funext fun r => by
    by_cases c1 : r = 0
    · rw [if_pos c1, c1]
    · rw [if_neg c1]
      by_cases c3 : r = 29
      · rw [if_pos c3, c3]
      · rw [if_neg c3]; exact hR.1 r c1 c3
  rw [eX, eR]
  exact ⟨cn, fn, h1, h2, h3, h4, h5⟩
section TKl
variable {M M1 M4 MR : Mm} {N x0 x1 x2 x3 x4 x5 cn fn dn gn m : Nat}
theorem takeCell_l (h4 : M 1 4 = nI 3) (h0 : M 3 0 = nI x0) (h1 : M 3 1 = nI x1) (h2 : M 3 2 = nI x2) (b0 : x0 ≤ 999) (b1 : x1 ≤ 999) (b2 : x2 ≤ 999) (hc : M 23 3 = nI cn) (hcn : cn ≤ 6) : sTold_takeCell_l M = some (if (x0 ≤ 200 ∧ x1 ≤ 99 ∧ 1 ≤ x2 ∧ x2 ≤ 10) ∧ cn < 6 then ((1 : Int32), mset (mset (mset (mset M 24 cn (nI x0)) 25 cn (nI x1)) 26 cn (nI x2)) 23 3 (nI (cn + 1))) else (0, M)) := by
  unfold sTold_takeCell_l
  rw [if_pos (show M 1 4 = 3 from h4), show sText_isNumberWithin 0 0 200 M = some (if 0 ≤ x0 ∧ x0 ≤ 200 then 1 else 0) from nwX (i := 0) (lo := 0) (hi := 200) h4 (by omega) (by omega) h0 b0 (by omega) (by omega), some_bind]
  by_cases c0 : x0 ≤ 200
  · rw [if_pos (show 0 ≤ x0 ∧ x0 ≤ 200 from ⟨Nat.zero_le _, c0⟩), i10, show sText_isNumberWithin 1 0 99 M = some (if 0 ≤ x1 ∧ x1 ≤ 99 then 1 else 0) from nwX (i := 1) (lo := 0) (hi := 99) h4 (by omega) (by omega) h1 b1 (by omega) (by omega), some_bind]
    by_cases c1 : x1 ≤ 99
    · rw [if_pos (show 0 ≤ x1 ∧ x1 ≤ 99 from ⟨Nat.zero_le _, c1⟩), i10, show sText_isNumberWithin 2 1 10 M = some (if 1 ≤ x2 ∧ x2 ≤ 10 then 1 else 0) from nwX (i := 2) (lo := 1) (hi := 10) h4 (by omega) (by omega) h2 b2 (by omega) (by omega), some_bind]
      by_cases c2 : 1 ≤ x2 ∧ x2 ≤ 10
      · rw [if_pos c2, i10, show sText_number 0 M = some (nI x0) from numX3 (i := 0) (by omega) h0, some_bind, show sText_number 1 M = some (nI x1) from numX3 (i := 1) (by omega) h1, some_bind, show sText_number 2 M = some (nI x2) from numX3 (i := 2) (by omega) h2, some_bind]
        unfold sCells_add_l
        rw [hc]
        by_cases c3 : cn < 6
        · rw [if_pos (show nI cn < 6 from nI_lt (b := 6) c3 (by omega)), if_pos ⟨⟨c0, c1, c2⟩, c3⟩, putf_n (by omega) (by omega), ltM_u, mset_ne _ _ _ (show (23 : Nat) ≠ 24 by omega), hc, putf_n (by omega) (by omega), ltM_u, mset_ne _ _ _ (show (23 : Nat) ≠ 25 by omega), mset_ne _ _ _ (show (23 : Nat) ≠ 24 by omega), hc, putf_n (by omega) (by omega), ltM_u, mset_ne _ _ _ (show (23 : Nat) ≠ 26 by omega), mset_ne _ _ _ (show (23 : Nat) ≠ 25 by omega), mset_ne _ _ _ (show (23 : Nat) ≠ 24 by omega), hc, nI_s, ltM_u, some_bind]
          exact if_neg (by decide)
        · rw [if_neg (show ¬ nI cn < 6 from nI_nlt (b := 6) (by omega) (by omega)), if_neg (fun z => c3 z.2), some_bind]
          exact if_pos rfl
      · rw [if_neg c2, i00, if_neg (fun z => c2 z.1.2.2)]
    · rw [if_neg (show ¬ (0 ≤ x1 ∧ x1 ≤ 99) from fun z => c1 z.2), i00, if_neg (fun z => c1 z.1.2.1)]
  · rw [if_neg (show ¬ (0 ≤ x0 ∧ x0 ≤ 200) from fun z => c0 z.2), i00, if_neg (fun z => c0 z.1.1)]
theorem takeOpened_l (h4 : M 1 4 = nI 1) (h0 : M 3 0 = nI x0) (b0 : x0 ≤ 999) : sTold_takeOpenedHour_l M = some (if x0 ≤ 23 then ((1 : Int32), mset M 23 4 (M 23 4 ||| (1 <<< (nI x0 &&& 31)))) else (0, M)) := by
  unfold sTold_takeOpenedHour_l
  rw [if_pos (show M 1 4 = 1 from h4), show sText_isNumberWithin 0 0 23 M = some (if 0 ≤ x0 ∧ x0 ≤ 23 then 1 else 0) from nwX (i := 0) (lo := 0) (hi := 23) h4 (by omega) (by omega) h0 b0 (by omega) (by omega), some_bind]
  by_cases c0 : x0 ≤ 23
  · rw [if_pos (show 0 ≤ x0 ∧ x0 ≤ 23 from ⟨Nat.zero_le _, c0⟩), i10, if_pos c0, show sText_number 0 M = some (nI x0) from numX3 (i := 0) (by omega) h0, some_bind]
    rfl
  · rw [if_neg (show ¬ (0 ≤ x0 ∧ x0 ≤ 23) from fun z => c0 z.2), i00, if_neg c0]
theorem takeDish_l (h4 : M 1 4 = nI 1) (h0 : M 3 0 = nI x0) (b0 : x0 ≤ 999) (hd : M 22 3 = nI dn) (hdn : dn ≤ 5) : sTold_takeDish_l M = some (if (1 ≤ x0 ∧ x0 ≤ 15) ∧ dn < 5 then ((1 : Int32), mset (mset M 35 dn (nI x0)) 22 3 (nI (dn + 1))) else (0, M)) := by
  unfold sTold_takeDish_l
  rw [if_pos (show M 1 4 = 1 from h4), show sText_isNumberWithin 0 1 15 M = some (if 1 ≤ x0 ∧ x0 ≤ 15 then 1 else 0) from nwX (i := 0) (lo := 1) (hi := 15) h4 (by omega) (by omega) h0 b0 (by omega) (by omega), some_bind]
  by_cases c0 : 1 ≤ x0 ∧ x0 ≤ 15
  · rw [if_pos c0, i10, hd]
    by_cases c1 : dn < 5
    · rw [if_pos (show nI dn < 5 from nI_lt (b := 5) c1 (by omega)), if_pos ⟨c0, c1⟩, show sText_number 0 M = some (nI x0) from numX3 (i := 0) (by omega) h0, some_bind, putf_n (by omega) (by omega), ltM_u, mset_ne _ _ _ (show (22 : Nat) ≠ 35 by omega), hd, nI_s, ltM_u]
    · rw [if_neg (show ¬ nI dn < 5 from nI_nlt (b := 5) (by omega) (by omega)), if_neg (fun z => c1 z.2)]
  · rw [if_neg c0, i00, if_neg (fun z => c0 z.1)]
theorem takeEater_l (h4 : M 1 4 = nI 1) (h0 : M 3 0 = nI x0) (b0 : x0 ≤ 999) (hd : M 22 5 = nI dn) (hdn : dn ≤ 4) : sTold_takeEater_l M = some (if x0 ≤ 15 ∧ dn < 4 then ((1 : Int32), mset (mset M 36 dn (nI x0)) 22 5 (nI (dn + 1))) else (0, M)) := by
  unfold sTold_takeEater_l
  rw [if_pos (show M 1 4 = 1 from h4), show sText_isNumberWithin 0 0 15 M = some (if 0 ≤ x0 ∧ x0 ≤ 15 then 1 else 0) from nwX (i := 0) (lo := 0) (hi := 15) h4 (by omega) (by omega) h0 b0 (by omega) (by omega), some_bind]
  by_cases c0 : x0 ≤ 15
  · rw [if_pos (show 0 ≤ x0 ∧ x0 ≤ 15 from ⟨Nat.zero_le _, c0⟩), i10, hd]
    by_cases c1 : dn < 4
    · rw [if_pos (show nI dn < 4 from nI_lt (b := 4) c1 (by omega)), if_pos ⟨c0, c1⟩, show sText_number 0 M = some (nI x0) from numX3 (i := 0) (by omega) h0, some_bind, putf_n (by omega) (by omega), ltM_u, mset_ne _ _ _ (show (22 : Nat) ≠ 36 by omega), hd, nI_s, ltM_u]
    · rw [if_neg (show ¬ nI dn < 4 from nI_nlt (b := 4) (by omega) (by omega)), if_neg (fun z => c1 z.2)]
  · rw [if_neg (show ¬ (0 ≤ x0 ∧ x0 ≤ 15) from fun z => c0 z.2), i00, if_neg (fun z => c0 z.1)]
theorem takeGuests_l (h4 : M 1 4 = nI 2) (h0 : M 3 0 = nI x0) (h1 : M 3 1 = nI x1) (b0 : x0 ≤ 999) (b1 : x1 ≤ 999) (hg : M 37 2 = nI gn) (hgn : gn ≤ 6) : sTold_takeGuests_l M = some (if (x0 ≤ 9 ∧ 1 ≤ x1 ∧ x1 ≤ 99) ∧ gn < 6 then ((1 : Int32), mset (mset (mset M 38 gn (nI x0)) 39 gn (nI x1)) 37 2 (nI (gn + 1))) else (0, M)) := by
  unfold sTold_takeGuests_l
  rw [if_pos (show M 1 4 = 2 from h4), show sText_isNumberWithin 0 0 9 M = some (if 0 ≤ x0 ∧ x0 ≤ 9 then 1 else 0) from nwX (i := 0) (lo := 0) (hi := 9) h4 (by omega) (by omega) h0 b0 (by omega) (by omega), some_bind]
  by_cases c0 : x0 ≤ 9
  · rw [if_pos (show 0 ≤ x0 ∧ x0 ≤ 9 from ⟨Nat.zero_le _, c0⟩), i10, show sText_isNumberWithin 1 1 99 M = some (if 1 ≤ x1 ∧ x1 ≤ 99 then 1 else 0) from nwX (i := 1) (lo := 1) (hi := 99) h4 (by omega) (by omega) h1 b1 (by omega) (by omega), some_bind]
    by_cases c1 : 1 ≤ x1 ∧ x1 ≤ 99
    · rw [if_pos c1, i10, show sText_number 0 M = some (nI x0) from numX3 (i := 0) (by omega) h0, some_bind, show sText_number 1 M = some (nI x1) from numX3 (i := 1) (by omega) h1, some_bind]
      unfold sParty_add_l
      rw [hg]
      by_cases c2 : gn < 6
      · rw [if_pos (show nI gn < 6 from nI_lt (b := 6) c2 (by omega)), if_pos ⟨⟨c0, c1⟩, c2⟩, putf_n (by omega) (by omega), ltM_u, mset_ne _ _ _ (show (37 : Nat) ≠ 38 by omega), hg, putf_n (by omega) (by omega), ltM_u, mset_ne _ _ _ (show (37 : Nat) ≠ 39 by omega), mset_ne _ _ _ (show (37 : Nat) ≠ 38 by omega), hg, nI_s, ltM_u, some_bind]
        exact if_neg (by decide)
      · rw [if_neg (show ¬ nI gn < 6 from nI_nlt (b := 6) (by omega) (by omega)), if_neg (fun z => c2 z.2), some_bind]
        exact if_pos rfl
    · rw [if_neg c1, i00, if_neg (fun z => c1 z.1.2)]
  · rw [if_neg (show ¬ (0 ≤ x0 ∧ x0 ≤ 9) from fun z => c0 z.2), i00, if_neg (fun z => c0 z.1.1)]
theorem takePacks_l (h4 : M 1 4 = nI 2) (h0 : M 3 0 = nI x0) (h1 : M 3 1 = nI x1) (b0 : x0 ≤ 999) (b1 : x1 ≤ 999) : sTold_takePacks_l M = some (if (1 ≤ x0 ∧ x0 ≤ 99) ∧ 1 ≤ x1 ∧ x1 ≤ 198 then ((1 : Int32), mset (mset M 37 3 (nI x0)) 37 4 (nI x1)) else (0, M)) := by
  unfold sTold_takePacks_l
  rw [if_pos (show M 1 4 = 2 from h4), show sText_isNumberWithin 0 1 99 M = some (if 1 ≤ x0 ∧ x0 ≤ 99 then 1 else 0) from nwX (i := 0) (lo := 1) (hi := 99) h4 (by omega) (by omega) h0 b0 (by omega) (by omega), some_bind]
  by_cases c0 : 1 ≤ x0 ∧ x0 ≤ 99
  · rw [if_pos c0, i10, show sText_isNumberWithin 1 1 198 M = some (if 1 ≤ x1 ∧ x1 ≤ 198 then 1 else 0) from nwX (i := 1) (lo := 1) (hi := 198) h4 (by omega) (by omega) h1 b1 (by omega) (by omega), some_bind]
    by_cases c1 : 1 ≤ x1 ∧ x1 ≤ 198
    · rw [if_pos c1, i10, if_pos ⟨c0, c1⟩, show sText_number 0 M = some (nI x0) from numX3 (i := 0) (by omega) h0, some_bind, ltM_u, show sText_number 1 (mset M 37 3 (nI x0)) = some (nI x1) from numX3 (M := mset M 37 3 (nI x0)) (i := 1) (by omega) (by rw [mset_ne _ _ _ (by omega)]; exact h1), some_bind, ltM_u]
    · rw [if_neg c1, i00, if_neg (fun z => c1 z.2)]
  · rw [if_neg c0, i00, if_neg (fun z => c0 z.1)]
theorem takeSlip_l (h4 : M 1 4 = nI 1) (h0 : M 3 0 = nI x0) (b0 : x0 ≤ 999) : sTold_takeSlip_l M = some (if x0 ≤ 4 then ((1 : Int32), mset M 22 7 (nI x0)) else (0, M)) := by
  unfold sTold_takeSlip_l
  rw [if_pos (show M 1 4 = 1 from h4), show sText_isNumberWithin 0 0 4 M = some (if 0 ≤ x0 ∧ x0 ≤ 4 then 1 else 0) from nwX (i := 0) (lo := 0) (hi := 4) h4 (by omega) (by omega) h0 b0 (by omega) (by omega), some_bind]
  by_cases c0 : x0 ≤ 4
  · rw [if_pos (show 0 ≤ x0 ∧ x0 ≤ 4 from ⟨Nat.zero_le _, c0⟩), i10, if_pos c0, show sText_number 0 M = some (nI x0) from numX3 (i := 0) (by omega) h0, some_bind, ltM_u]
  · rw [if_neg (show ¬ (0 ≤ x0 ∧ x0 ≤ 4) from fun z => c0 z.2), i00, if_neg c0]
theorem takeFood_l (h4 : M 1 4 = nI 6) (h0 : M 3 0 = nI x0) (h1 : M 3 1 = nI x1) (h2 : M 3 2 = nI x2) (h3 : M 3 3 = nI x3) (h5 : M 3 4 = nI x4) (h6 : M 3 5 = nI x5) (b0 : x0 ≤ 999) (b1 : x1 ≤ 999) (b2 : x2 ≤ 999) (b3 : x3 ≤ 999) (b4 : x4 ≤ 999) (b5 : x5 ≤ 999) (hc : M 23 3 = nI cn) (hcn : cn ≤ 6) (hf : M 27 7 = nI fn) (hfn : fn ≤ 10) : sTold_takeFood_l M = some (if (x0 ≤ 3 ∧ x1 < cn ∧ x2 ≤ 99 ∧ (1 ≤ x3 ∧ x3 ≤ 240) ∧ x4 ≤ 99 ∧ x5 ≤ 3) ∧ fn < 10 then ((1 : Int32), mset (mset (mset (mset (mset (mset (mset (mset M 28 fn (nI x0)) 29 fn (nI x1)) 30 fn (nI x2)) 31 fn (nI x3)) 32 fn (nI x4)) 33 fn (nI x5)) 34 x5 (M 34 x5 ||| (1 <<< (nI fn &&& 31)))) 27 7 (nI (fn + 1))) else (0, M)) := by
  unfold sTold_takeFood_l
  rw [if_pos (show M 1 4 = 6 from h4), show sText_isNumberWithin 0 0 3 M = some (if 0 ≤ x0 ∧ x0 ≤ 3 then 1 else 0) from nwX (i := 0) (lo := 0) (hi := 3) h4 (by omega) (by omega) h0 b0 (by omega) (by omega), some_bind]
  by_cases c0 : x0 ≤ 3
  · rw [if_pos (show 0 ≤ x0 ∧ x0 ≤ 3 from ⟨Nat.zero_le _, c0⟩), i10, show sText_number 1 M = some (nI x1) from numX3 (i := 1) (by omega) h1, some_bind]
    have hhas : sCells_has_l (nI x1) M = some (if x1 < cn then 1 else 0) := by
      unfold sCells_has_l
      rw [if_neg (nI_pos (by omega)), hc]
      by_cases c : x1 < cn
      · rw [if_neg (by rw [nIle (by omega) (by omega)]; omega), if_pos c]
      · rw [if_pos (by rw [nIle (by omega) (by omega)]; omega), if_neg c]
    rw [hhas, some_bind]
    by_cases c1 : x1 < cn
    · rw [if_pos c1, i10, show sText_isNumberWithin 2 0 99 M = some (if 0 ≤ x2 ∧ x2 ≤ 99 then 1 else 0) from nwX (i := 2) (lo := 0) (hi := 99) h4 (by omega) (by omega) h2 b2 (by omega) (by omega), some_bind]
      by_cases c2 : x2 ≤ 99
      · rw [if_pos (show 0 ≤ x2 ∧ x2 ≤ 99 from ⟨Nat.zero_le _, c2⟩), i10, show sText_isNumberWithin 3 1 240 M = some (if 1 ≤ x3 ∧ x3 ≤ 240 then 1 else 0) from nwX (i := 3) (lo := 1) (hi := 240) h4 (by omega) (by omega) h3 b3 (by omega) (by omega), some_bind]
        by_cases c3 : 1 ≤ x3 ∧ x3 ≤ 240
        · rw [if_pos c3, i10, show sText_isNumberWithin 4 0 99 M = some (if 0 ≤ x4 ∧ x4 ≤ 99 then 1 else 0) from nwX (i := 4) (lo := 0) (hi := 99) h4 (by omega) (by omega) h5 b4 (by omega) (by omega), some_bind]
          by_cases c4 : x4 ≤ 99
          · rw [if_pos (show 0 ≤ x4 ∧ x4 ≤ 99 from ⟨Nat.zero_le _, c4⟩), i10, show sText_isNumberWithin 5 0 3 M = some (if 0 ≤ x5 ∧ x5 ≤ 3 then 1 else 0) from nwX (i := 5) (lo := 0) (hi := 3) h4 (by omega) (by omega) h6 b5 (by omega) (by omega), some_bind]
            by_cases c5 : x5 ≤ 3
            · rw [if_pos (show 0 ≤ x5 ∧ x5 ≤ 3 from ⟨Nat.zero_le _, c5⟩), i10, show sText_number 0 M = some (nI x0) from numX3 (i := 0) (by omega) h0, some_bind, some_bind, show sText_number 2 M = some (nI x2) from numX3 (i := 2) (by omega) h2, some_bind, show sText_number 3 M = some (nI x3) from numX3 (i := 3) (by omega) h3, some_bind, show sText_number 4 M = some (nI x4) from numX3 (i := 4) (by omega) h5, some_bind, show sText_number 5 M = some (nI x5) from numX3 (i := 5) (by omega) h6, some_bind]
              unfold sFoods_add_l
              rw [hf]
              by_cases c6 : fn < 10
              · have e9 : ∀ (m : Mm) r i v, r ≠ 27 → m 27 7 = nI fn → mset m r i v 27 7 = nI fn := fun m r i v hr hm => by rw [mset_ne _ _ _ (fun e => hr e.symm)]; exact hm
                have q1 := e9 M 28 fn (nI x0) (by omega) hf
                have q2 := e9 _ 29 fn (nI x1) (by omega) q1
                have q3 := e9 _ 30 fn (nI x2) (by omega) q2
                have q4 := e9 _ 31 fn (nI x3) (by omega) q3
                have q5 := e9 _ 32 fn (nI x4) (by omega) q4
                have q6 := e9 _ 33 fn (nI x5) (by omega) q5
                rw [if_pos (show nI fn < 10 from nI_lt (b := 10) c6 (by omega)), if_pos ⟨⟨c0, c1, c2, c3, c4, c5⟩, c6⟩, putf_n (by omega) (by omega), ltM_u, q1, putf_n (by omega) (by omega), ltM_u, q2, putf_n (by omega) (by omega), ltM_u, q3, putf_n (by omega) (by omega), ltM_u, q4, putf_n (by omega) (by omega), ltM_u, q5, putf_n (by omega) (by omega), ltM_u, q6, atf_n (by omega) (by omega), putf_n (by omega) (by omega), ltM_u]
                have e16 : mset (mset (mset (mset (mset (mset M 28 fn (nI x0)) 29 fn (nI x1)) 30 fn (nI x2)) 31 fn (nI x3)) 32 fn (nI x4)) 33 fn (nI x5) 34 x5 = M 34 x5 := by
                  rw [mset_ne _ _ _ (by omega), mset_ne _ _ _ (by omega), mset_ne _ _ _ (by omega), mset_ne _ _ _ (by omega), mset_ne _ _ _ (by omega), mset_ne _ _ _ (by omega)]
                rw [e16, e9 _ 34 x5 _ (by omega) q6, nI_s, ltM_u, some_bind]
                exact if_neg (by decide)
              · rw [if_neg (show ¬ nI fn < 10 from nI_nlt (b := 10) (by omega) (by omega)), if_neg (fun z => c6 z.2), some_bind]
                exact if_pos rfl
            · rw [if_neg (show ¬ (0 ≤ x5 ∧ x5 ≤ 3) from fun z => c5 z.2), i00, if_neg (fun z => c5 z.1.2.2.2.2.2)]
          · rw [if_neg (show ¬ (0 ≤ x4 ∧ x4 ≤ 99) from fun z => c4 z.2), i00, if_neg (fun z => c4 z.1.2.2.2.2.1)]
        · rw [if_neg c3, i00, if_neg (fun z => c3 z.1.2.2.2.1)]
      · rw [if_neg (show ¬ (0 ≤ x2 ∧ x2 ≤ 99) from fun z => c2 z.2), i00, if_neg (fun z => c2 z.1.2.2.1)]
    · rw [if_neg c1, i00, if_neg (fun z => c1 z.1.2.1)]
  · rw [if_neg (show ¬ (0 ≤ x0 ∧ x0 ≤ 3) from fun z => c0 z.2), i00, if_neg (fun z => c0 z.1.1)]
theorem bindPair_l (o : Option (Int32 × Mm)) : (o.bind fun (a, b) => some (a, b)) = o := by
  cases o with
  | none => rfl
  | some y => rfl
theorem takeNo_l (h4 : M 1 4 = nI m) (hm : m ≤ 1000) (hw : ¬ Want (M 1 2) m) : sTold_takeItem_l M = some (0, M) := by
  unfold sTold_takeItem_l
  rw [ltI_u]
  have ne : ∀ k : Nat, k ≤ 6 → m ≠ k → ¬ M 1 4 = nI k := fun k hk hn => by rw [h4, nIeq (by omega) (by omega)]; exact hn
  by_cases c98 : M 1 2 = 98
  · rw [if_pos c98, bindPair_l]
    exact if_neg (ne 2 (by omega) fun e => hw (Or.inl ⟨c98, e⟩))
  rw [if_neg c98]
  by_cases c99 : M 1 2 = 99
  · rw [if_pos c99, bindPair_l]
    exact if_neg (ne 3 (by omega) fun e => hw (Or.inr (Or.inl ⟨c99, e⟩)))
  rw [if_neg c99]
  by_cases c100 : M 1 2 = 100
  · rw [if_pos c100, bindPair_l]
    exact if_neg (ne 1 (by omega) fun e => hw (Or.inr (Or.inr (Or.inl ⟨c100, e⟩))))
  rw [if_neg c100]
  by_cases c101 : M 1 2 = 101
  · rw [if_pos c101, bindPair_l]
    exact if_neg (ne 1 (by omega) fun e => hw (Or.inr (Or.inr (Or.inr (Or.inl ⟨c101, e⟩)))))
  rw [if_neg c101]
  by_cases c102 : M 1 2 = 102
  · rw [if_pos c102, bindPair_l]
    exact if_neg (ne 6 (by omega) fun e => hw (Or.inr (Or.inr (Or.inr (Or.inr (Or.inl ⟨c102, e⟩))))))
  rw [if_neg c102]
  by_cases c103 : M 1 2 = 103
  · rw [if_pos c103, bindPair_l]
    exact if_neg (ne 2 (by omega) fun e => hw (Or.inr (Or.inr (Or.inr (Or.inr (Or.inr (Or.inl ⟨c103, e⟩)))))))
  rw [if_neg c103]
  by_cases c111 : M 1 2 = 111
  · rw [if_pos c111, bindPair_l]
    exact if_neg (ne 1 (by omega) fun e => hw (Or.inr (Or.inr (Or.inr (Or.inr (Or.inr (Or.inr (Or.inl ⟨c111, e⟩))))))))
  rw [if_neg c111]
  by_cases c115 : M 1 2 = 115
  · rw [if_pos c115, bindPair_l]
    exact if_neg (ne 1 (by omega) fun e => hw (Or.inr (Or.inr (Or.inr (Or.inr (Or.inr (Or.inr (Or.inr ⟨c115, e⟩))))))))
  rw [if_neg c115]
/-- what an item does on both sides -/
def Corel (N : Nat) (M1 MR M4 : Mm) : Prop := (∃ M' M5 : Mm, sTold_takeItem_l M1 = some (1, M') ∧ sRef_item N MR = some (1, M5) ∧ DRl M' M5 ∧ FrZ 22 39 M1 M' ∧ FrT M4 M5) ∨ (sTold_takeItem_l M1 = some (0, M1) ∧ sRef_item N MR = some (0, M4))
theorem core_c_l {x : Nat → Nat} (hD : DRl M1 M4) (hl : M1 1 2 = 99) (h4 : M1 1 4 = nI 3) (hx : ∀ i, i < 3 → M1 3 i = nI (x i)) (hxb : ∀ i, x i ≤ 999) (hy : ∀ i, i < 3 → M4 29 i = nI (x i)) (hb : sRef_byteAt (MR 0 31) MR = some 99) (hfig : sRef_figures N 3 (mset MR 0 31 (MR 0 31 + 1)) = some (1, M4)) (hFr : FrF MR M4) : Corel N M1 MR M4 := by
  obtain ⟨cn, fn, hC, hF, hBd, hBe, hP⟩ := hD
  have hit : sTold_takeItem_l M1 = sTold_takeCell_l M1 := by
    unfold sTold_takeItem_l
    rw [ltI_u, hl, if_neg (by decide), if_pos rfl, bindPair_l]
  have eX := takeCell_l h4 (hx 0 (by omega)) (hx 1 (by omega)) (hx 2 (by omega)) (hxb 0) (hxb 1) (hxb 2) hC.2.1 hC.1
  have eR := itemR_c hb hfig (by rw [← hFr.1 2 (by omega) (by omega)]; exact hC.2.2.1) hC.2.2.1 hC.1 (hy 0 (by omega)) (hy 1 (by omega)) (hy 2 (by omega)) (hxb 0) (hxb 1) (hxb 2)
  by_cases c : (x 0 ≤ 200 ∧ x 1 ≤ 99 ∧ 1 ≤ x 2 ∧ x 2 ≤ 10) ∧ cn < 6
  · rw [if_pos c] at eX eR
    refine Or.inl ⟨_, _, hit.trans eX, eR, ⟨cn + 1, fn, ?_, RFo0_cn hF, hBd, hBe, hP⟩, FrZ_m (FrZ_m (FrZ_m (FrZ_m (FrZ.refl _ _ _) (by omega)) (by omega)) (by omega)) (by omega), FrT_m (FrT_m (FrT_m (FrT_m (FrT.refl _) (by omega) (show 6 ≤ 6 + cn by omega)) (by omega) (show 6 ≤ 6 + cn by omega)) (by omega) (show 6 ≤ 6 + cn by omega)) (by omega) (show 1 ≤ 1 by omega)⟩
    exact RCl0_add (w' := upd (M1 24) cn (nI (x 0))) (m' := upd (M1 25) cn (nI (x 1))) (o' := upd (M1 26) cn (nI (x 2))) (rw' := fun c => upd (M4 3) (6 + cn) (nI (x 0)) (6 + c)) (rm' := fun c => upd (M4 4) (6 + cn) (nI (x 1)) (6 + c)) (ro' := fun c => upd (M4 5) (6 + cn) (nI (x 2)) (6 + c)) hC c.2 c.1.1 c.1.2.1 c.1.2.2.1 c.1.2.2.2 rfl rfl (fun c hc => ⟨upd_ne _ _ (by omega), upd_ne _ _ (by omega), upd_ne _ _ (by omega), upd_ne _ _ (by omega), upd_ne _ _ (by omega), upd_ne _ _ (by omega)⟩) ⟨upd_eq _ _ _, upd_eq _ _ _, upd_eq _ _ _, upd_eq _ _ _, upd_eq _ _ _, upd_eq _ _ _⟩
  · rw [if_neg c] at eX eR
    exact Or.inr ⟨by rw [hit, eX], eR⟩
theorem core_o_l {x : Nat → Nat} (hD : DRl M1 M4) (hl : M1 1 2 = 111) (h4 : M1 1 4 = nI 1) (hx : ∀ i, i < 1 → M1 3 i = nI (x i)) (hxb : ∀ i, x i ≤ 999) (hy : ∀ i, i < 1 → M4 29 i = nI (x i)) (hb : sRef_byteAt (MR 0 31) MR = some 111) (hfig : sRef_figures N 1 (mset MR 0 31 (MR 0 31 + 1)) = some (1, M4)) (hFr : FrF MR M4) : Corel N M1 MR M4 := by
  obtain ⟨cn, fn, hC, hF, hBd, hBe, hP⟩ := hD
  have hit : sTold_takeItem_l M1 = sTold_takeOpenedHour_l M1 := by
    unfold sTold_takeItem_l
    rw [ltI_u, hl, if_neg (by decide), if_neg (by decide), if_neg (by decide), if_neg (by decide), if_neg (by decide), if_neg (by decide), if_pos rfl, bindPair_l]
  have eX := takeOpened_l h4 (hx 0 (by omega)) (hxb 0)
  have eR := itemR_o hb hfig (hy 0 (by omega)) (hxb 0)
  by_cases c : x 0 ≤ 23
  · rw [if_pos c] at eX eR
    exact Or.inl ⟨_, _, hit.trans eX, eR, ⟨cn, fn, RCl0_open hC c, hF, hBd, hBe, hP⟩, FrZ_m (FrZ.refl _ _ _) (by omega), FrT_m (FrT.refl _) (by omega) (show 1 ≤ 1 by omega)⟩
  · rw [if_neg c] at eX eR
    exact Or.inr ⟨by rw [hit, eX], eR⟩
theorem core_d_l {x : Nat → Nat} (hD : DRl M1 M4) (hl : M1 1 2 = 100) (h4 : M1 1 4 = nI 1) (hx : ∀ i, i < 1 → M1 3 i = nI (x i)) (hxb : ∀ i, x i ≤ 999) (hy : ∀ i, i < 1 → M4 29 i = nI (x i)) (hb : sRef_byteAt (MR 0 31) MR = some 100) (hfig : sRef_figures N 1 (mset MR 0 31 (MR 0 31 + 1)) = some (1, M4)) (hFr : FrF MR M4) : Corel N M1 MR M4 := by
  obtain ⟨cn, fn, hC, hF, ⟨dn, d1, d2, d3, d4⟩, hBe, hP⟩ := hD
  have hit : sTold_takeItem_l M1 = sTold_takeDish_l M1 := by
    unfold sTold_takeItem_l
    rw [ltI_u, hl, if_neg (by decide), if_neg (by decide), if_pos rfl, bindPair_l]
  have eX := takeDish_l h4 (hx 0 (by omega)) (hxb 0) d2 d1
  have eR := itemR_d hb hfig d3 d1 (hy 0 (by omega)) (hxb 0)
  by_cases c : (1 ≤ x 0 ∧ x 0 ≤ 15) ∧ dn < 5
  · rw [if_pos c] at eX eR
    refine Or.inl ⟨_, _, hit.trans eX, eR, ⟨cn, fn, hC, hF, ?_, hBe, hP⟩, FrZ_m (FrZ_m (FrZ.refl _ _ _) (by omega)) (by omega), FrT_m (FrT_m (FrT.refl _) (by omega) (show 5 ≤ 5 + dn by omega)) (by omega) (show 1 ≤ 1 by omega)⟩
    exact RBit_add (xd' := upd (M1 35) dn (nI (x 0))) (rd' := fun d => upd (M4 15) (5 + dn) (nI (x 0)) (5 + d)) c.2 d4 c.1.1 c.1.2 rfl rfl (fun d hd => ⟨upd_ne _ _ (by omega), upd_ne _ _ (by omega)⟩) ⟨upd_eq _ _ _, upd_eq _ _ _⟩
  · rw [if_neg c] at eX eR
    exact Or.inr ⟨by rw [hit, eX], eR⟩
theorem core_e_l {x : Nat → Nat} (hD : DRl M1 M4) (hl : M1 1 2 = 101) (h4 : M1 1 4 = nI 1) (hx : ∀ i, i < 1 → M1 3 i = nI (x i)) (hxb : ∀ i, x i ≤ 999) (hy : ∀ i, i < 1 → M4 29 i = nI (x i)) (hb : sRef_byteAt (MR 0 31) MR = some 101) (hfig : sRef_figures N 1 (mset MR 0 31 (MR 0 31 + 1)) = some (1, M4)) (hFr : FrF MR M4) : Corel N M1 MR M4 := by
  obtain ⟨cn, fn, hC, hF, hBd, ⟨dn, d1, d2, d3, d4⟩, hP⟩ := hD
  have hit : sTold_takeItem_l M1 = sTold_takeEater_l M1 := by
    unfold sTold_takeItem_l
    rw [ltI_u, hl, if_neg (by decide), if_neg (by decide), if_neg (by decide), if_pos rfl, bindPair_l]
  have eX := takeEater_l h4 (hx 0 (by omega)) (hxb 0) d2 d1
  have eR := itemR_e hb hfig d3 d1 (hy 0 (by omega)) (hxb 0)
  by_cases c : x 0 ≤ 15 ∧ dn < 4
  · rw [if_pos c] at eX eR
    refine Or.inl ⟨_, _, hit.trans eX, eR, ⟨cn, fn, hC, hF, hBd, ?_, hP⟩, FrZ_m (FrZ_m (FrZ.refl _ _ _) (by omega)) (by omega), FrT_m (FrT_m (FrT.refl _) (by omega) (show 4 ≤ 4 + dn by omega)) (by omega) (show 1 ≤ 1 by omega)⟩
    exact RBit_add (xd' := upd (M1 36) dn (nI (x 0))) (rd' := fun d => upd (M4 17) (4 + dn) (nI (x 0)) (4 + d)) c.2 d4 (Nat.zero_le _) c.1 rfl rfl (fun d hd => ⟨upd_ne _ _ (by omega), upd_ne _ _ (by omega)⟩) ⟨upd_eq _ _ _, upd_eq _ _ _⟩
  · rw [if_neg c] at eX eR
    exact Or.inr ⟨by rw [hit, eX], eR⟩
theorem core_g_l {x : Nat → Nat} (hD : DRl M1 M4) (hl : M1 1 2 = 103) (h4 : M1 1 4 = nI 2) (hx : ∀ i, i < 2 → M1 3 i = nI (x i)) (hxb : ∀ i, x i ≤ 999) (hy : ∀ i, i < 2 → M4 29 i = nI (x i)) (hb : sRef_byteAt (MR 0 31) MR = some 103) (hfig : sRef_figures N 2 (mset MR 0 31 (MR 0 31 + 1)) = some (1, M4)) (hFr : FrF MR M4) : Corel N M1 MR M4 := by
  obtain ⟨cn, fn, hC, hF, hBd, hBe, hP⟩ := hD
  have hP' := hP
  obtain ⟨⟨gn, g1, g2, g3, g4⟩, -⟩ := hP'
  have hit : sTold_takeItem_l M1 = sTold_takeGuests_l M1 := by
    unfold sTold_takeItem_l
    rw [ltI_u, hl, if_neg (by decide), if_neg (by decide), if_neg (by decide), if_neg (by decide), if_neg (by decide), if_pos rfl, bindPair_l]
  have eX := takeGuests_l h4 (hx 0 (by omega)) (hx 1 (by omega)) (hxb 0) (hxb 1) g2 g1
  have eR := itemR_g hb hfig g3 g1 (hy 0 (by omega)) (hy 1 (by omega)) (hxb 0) (hxb 1)
  by_cases c : (x 0 ≤ 9 ∧ 1 ≤ x 1 ∧ x 1 ≤ 99) ∧ gn < 6
  · rw [if_pos c] at eX eR
    refine Or.inl ⟨_, _, hit.trans eX, eR, ⟨cn, fn, hC, hF, hBd, hBe, ?_⟩, FrZ_m (FrZ_m (FrZ_m (FrZ.refl _ _ _) (by omega)) (by omega)) (by omega), FrT_m (FrT_m (FrT_m (FrT.refl _) (by omega) (show 6 ≤ 6 + gn by omega)) (by omega) (show 6 ≤ 6 + gn by omega)) (by omega) (show 1 ≤ 1 by omega)⟩
    exact RPar_add (g' := upd (M1 38) gn (nI (x 0))) (w' := upd (M1 39) gn (nI (x 1))) (rg' := fun j => upd (M4 19) (6 + gn) (nI (x 0)) (6 + j)) (rw' := fun j => upd (M4 20) (6 + gn) (nI (x 1)) (6 + j)) hP g2 c.2 c.1.1 c.1.2.2 rfl rfl (fun d hd => ⟨upd_ne _ _ (by omega), upd_ne _ _ (by omega), upd_ne _ _ (by omega), upd_ne _ _ (by omega)⟩) ⟨upd_eq _ _ _, upd_eq _ _ _, upd_eq _ _ _, upd_eq _ _ _⟩
  · rw [if_neg c] at eX eR
    exact Or.inr ⟨by rw [hit, eX], eR⟩
theorem core_b_l {x : Nat → Nat} (hD : DRl M1 M4) (hl : M1 1 2 = 98) (h4 : M1 1 4 = nI 2) (hx : ∀ i, i < 2 → M1 3 i = nI (x i)) (hxb : ∀ i, x i ≤ 999) (hy : ∀ i, i < 2 → M4 29 i = nI (x i)) (hb : sRef_byteAt (MR 0 31) MR = some 98) (hfig : sRef_figures N 2 (mset MR 0 31 (MR 0 31 + 1)) = some (1, M4)) (hFr : FrF MR M4) : Corel N M1 MR M4 := by
  obtain ⟨cn, fn, hC, hF, hBd, hBe, hG, a, b, s, p1, p2, p3, p4, p5, p6, p7, p8, p9⟩ := hD
  have hit : sTold_takeItem_l M1 = sTold_takePacks_l M1 := by
    unfold sTold_takeItem_l
    rw [ltI_u, hl, if_pos rfl, bindPair_l]
  have eX := takePacks_l h4 (hx 0 (by omega)) (hx 1 (by omega)) (hxb 0) (hxb 1)
  have eR := itemR_b hb hfig (hy 0 (by omega)) (hy 1 (by omega)) (hxb 0) (hxb 1)
  by_cases c : (1 ≤ x 0 ∧ x 0 ≤ 99) ∧ 1 ≤ x 1 ∧ x 1 ≤ 198
  · rw [if_pos c] at eX eR
    exact Or.inl ⟨_, _, hit.trans eX, eR, ⟨cn, fn, hC, hF, hBd, hBe, hG, x 0, x 1, s, c.1.2, c.2.2, p3, rfl, rfl, rfl, rfl, p8, p9⟩, FrZ_m (FrZ_m (FrZ.refl _ _ _) (by omega)) (by omega), FrT_m (FrT_m (FrT.refl _) (by omega) (show 3 ≤ 3 by omega)) (by omega) (show 3 ≤ 4 by omega)⟩
  · rw [if_neg c] at eX eR
    exact Or.inr ⟨by rw [hit, eX], eR⟩
theorem core_s_l {x : Nat → Nat} (hD : DRl M1 M4) (hl : M1 1 2 = 115) (h4 : M1 1 4 = nI 1) (hx : ∀ i, i < 1 → M1 3 i = nI (x i)) (hxb : ∀ i, x i ≤ 999) (hy : ∀ i, i < 1 → M4 29 i = nI (x i)) (hb : sRef_byteAt (MR 0 31) MR = some 115) (hfig : sRef_figures N 1 (mset MR 0 31 (MR 0 31 + 1)) = some (1, M4)) (hFr : FrF MR M4) : Corel N M1 MR M4 := by
  obtain ⟨cn, fn, hC, hF, hBd, hBe, hG, a, b, s, p1, p2, p3, p4, p5, p6, p7, p8, p9⟩ := hD
  have hit : sTold_takeItem_l M1 = sTold_takeSlip_l M1 := by
    unfold sTold_takeItem_l
    rw [ltI_u, hl, if_neg (by decide), if_neg (by decide), if_neg (by decide), if_neg (by decide), if_neg (by decide), if_neg (by decide), if_neg (by decide), if_pos rfl, bindPair_l]
  have eX := takeSlip_l h4 (hx 0 (by omega)) (hxb 0)
  have eR := itemR_s hb hfig (hy 0 (by omega)) (hxb 0)
  by_cases c : x 0 ≤ 4
  · rw [if_pos c] at eX eR
    exact Or.inl ⟨_, _, hit.trans eX, eR, ⟨cn, fn, hC, hF, hBd, hBe, hG, a, b, x 0, p1, p2, c, p4, p5, p6, p7, rfl, rfl⟩, FrZ_m (FrZ.refl _ _ _) (by omega), FrT_m (FrT.refl _) (by omega) (show 3 ≤ 5 by omega)⟩
  · rw [if_neg c] at eX eR
    exact Or.inr ⟨by rw [hit, eX], eR⟩
theorem core_f_l {x : Nat → Nat} (hD : DRl M1 M4) (hl : M1 1 2 = 102) (h4 : M1 1 4 = nI 6) (hx : ∀ i, i < 6 → M1 3 i = nI (x i)) (hxb : ∀ i, x i ≤ 999) (hy : ∀ i, i < 6 → M4 29 i = nI (x i)) (hb : sRef_byteAt (MR 0 31) MR = some 102) (hfig : sRef_figures N 6 (mset MR 0 31 (MR 0 31 + 1)) = some (1, M4)) (hFr : FrF MR M4) : Corel N M1 MR M4 := by
  obtain ⟨cn, fn, hC, hF, hBd, hBe, hP⟩ := hD
  have hit : sTold_takeItem_l M1 = sTold_takeFood_l M1 := by
    unfold sTold_takeItem_l
    rw [ltI_u, hl, if_neg (by decide), if_neg (by decide), if_neg (by decide), if_neg (by decide), if_pos rfl, bindPair_l]
  have eX := takeFood_l h4 (hx 0 (by omega)) (hx 1 (by omega)) (hx 2 (by omega)) (hx 3 (by omega)) (hx 4 (by omega)) (hx 5 (by omega)) (hxb 0) (hxb 1) (hxb 2) (hxb 3) (hxb 4) (hxb 5) hC.2.1 hC.1 hF.2.1 hF.1
  have eR := itemR_f hb hfig (by rw [← hFr.1 7 (by omega) (by omega)]; exact hF.2.2.1) hF.2.2.1 hF.1 hC.2.2.1 hC.1 (hy 0 (by omega)) (hy 1 (by omega)) (hy 2 (by omega)) (hy 3 (by omega)) (hy 4 (by omega)) (hy 5 (by omega)) (hxb 0) (hxb 1) (hxb 2) (hxb 3) (hxb 4) (hxb 5)
  by_cases c : (x 0 ≤ 3 ∧ x 1 < cn ∧ x 2 ≤ 99 ∧ (1 ≤ x 3 ∧ x 3 ≤ 240) ∧ x 4 ≤ 99 ∧ x 5 ≤ 3) ∧ fn < 10
  · rw [if_pos c] at eX eR
    obtain ⟨⟨k0, k1, k2, ⟨k3, k3'⟩, k4, k5⟩, k6⟩ := id c
    refine Or.inl ⟨_, _, hit.trans eX, eR, ⟨cn, fn + 1, hC, ?_, hBd, hBe, hP⟩, FrZ_m (FrZ_m (FrZ_m (FrZ_m (FrZ_m (FrZ_m (FrZ_m (FrZ_m (FrZ.refl _ _ _) (by omega)) (by omega)) (by omega)) (by omega)) (by omega)) (by omega)) (by omega)) (by omega), FrT_m (FrT_m (FrT_m (FrT_m (FrT_m (FrT_m (FrT_m (FrT.refl _) (by omega) (show 10 ≤ 10 + fn by omega)) (by omega) (show 10 ≤ 10 + fn by omega)) (by omega) (show 10 ≤ 10 + fn by omega)) (by omega) (show 10 ≤ 10 + fn by omega)) (by omega) (show 10 ≤ 10 + fn by omega)) (by omega) (show 10 ≤ 10 + fn by omega)) (by omega) (show 1 ≤ 1 by omega)⟩
    exact RFo0_add (ki' := upd (M1 28) fn (nI (x 0))) (ce' := upd (M1 29) fn (nI (x 1))) (co' := upd (M1 30) fn (nI (x 2))) (li' := upd (M1 31) fn (nI (x 3))) (pr' := upd (M1 32) fn (nI (x 4))) (so' := upd (M1 33) fn (nI (x 5))) (os' := upd (M1 34) (x 5) (M1 34 (x 5) ||| (1 <<< (nI fn &&& 31)))) (rki' := fun i => upd (M4 8) (10 + fn) (nI (x 0)) (10 + i)) (rce' := fun i => upd (M4 9) (10 + fn) (nI (x 1)) (10 + i)) (rco' := fun i => upd (M4 10) (10 + fn) (nI (x 2)) (10 + i)) (rli' := fun i => upd (M4 11) (10 + fn) (nI (x 3)) (10 + i)) (rpr' := fun i => upd (M4 12) (10 + fn) (nI (x 4)) (10 + i)) (rso' := fun i => upd (M4 13) (10 + fn) (nI (x 5)) (10 + i)) hF k6 k0 k1 k2 k3 k3' k4 k5 rfl rfl (fun i hi => ⟨upd_ne _ _ (by omega), upd_ne _ _ (by omega), upd_ne _ _ (by omega), upd_ne _ _ (by omega), upd_ne _ _ (by omega), upd_ne _ _ (by omega), upd_ne _ _ (by omega), upd_ne _ _ (by omega), upd_ne _ _ (by omega), upd_ne _ _ (by omega), upd_ne _ _ (by omega), upd_ne _ _ (by omega)⟩) ⟨upd_eq _ _ _, upd_eq _ _ _, upd_eq _ _ _, upd_eq _ _ _, upd_eq _ _ _, upd_eq _ _ _, upd_eq _ _ _, upd_eq _ _ _, upd_eq _ _ _, upd_eq _ _ _, upd_eq _ _ _, upd_eq _ _ _⟩ (fun t ht hn => upd_ne _ _ hn) (upd_eq _ _ _)
  · rw [if_neg c] at eX eR
    exact Or.inr ⟨by rw [hit, eX], eR⟩
theorem step_l {B : Nat → Int32} {len p it : Nat} (hD : DRl M MR) (tx : TxX M len B) (tr : TxR MR len B) (hp : p < len) (h31 : MR 0 31 = nI p) (hit : it < 400) (hN : 1000 < N) :
    (∃ (p' : Nat) (M' MR' : Mm), LTold_read_l_8_15 N (nI p) (nI it) M = some (.inl (nI p', nI (it + 1), M')) ∧ sRef_item N MR = some (1, MR') ∧ MR' 0 31 = nI p' ∧ DRl M' MR' ∧ FrX 22 39 M M' ∧ FrA MR MR' ∧ p < p' ∧ p' ≤ len) ∨
    (∃ M' MR' : Mm, LTold_read_l_8_15 N (nI p) (nI it) M = some (.inr (.inl (nI p, M'))) ∧ sRef_item N MR = some (0, MR') ∧ FrX 22 39 M M' ∧ FrA MR MR') := by
  have hl := tx.1
  obtain ⟨M1, fI, e12, hcase⟩ := readItemX tx hp hN
  have head : ∀ z, sText_readItem N (nI p) M = some (z, M1) → LTold_read_l_8_15 N (nI p) (nI it) M = (if z < 0 then some (.inr (.inl (nI p, M1))) else (sTold_takeItem_l M1).bind fun y => if y.1 = 0 then some (.inr (.inl (nI p, y.2))) else some (.inl (z, nI it + 1, y.2))) := fun z hz => by
    unfold LTold_read_l_8_15
    rw [if_neg (show ¬ (400 : Int32) ≤ nI it from by rw [show (400 : Int32) = nI 400 from rfl, nIle (by omega) (by omega)]; omega), tx.2.1, if_neg (by rw [nIle (by omega) (by omega)]; omega), hz, some_bind]
    rfl
  rcases hcase with ⟨m, hm6, hI, hr, e14, e3⟩ | ⟨hno, hr⟩
  · have hpb := posI_b B p m
    have hm1 := hI.1
    by_cases hw : Want (B p) m
    · obtain ⟨M4, f1, f2⟩ := figuresR (TxR_place tr) hp (show mset MR 0 31 (MR 0 31 + 1) 0 31 = nI (p + 1) by rw [mset_eq, upd_eq, h31, nI_s]) hN hm1 hm6
      rcases f2 with ⟨-, f3, f4, f5⟩ | ⟨f3, -⟩
      · have fF : FrF MR M4 := FrF_place.trans f1
        have hD4 := DRl_fr hD fI fF
        have hb : sRef_byteAt (MR 0 31) MR = some (B p) := by rw [h31, byteR tr (by omega)]
        have hv := fun i => valI_b B p i
        have core : Corel N M1 MR M4 := by
          rcases hw with ⟨w1, rfl⟩ | ⟨w1, rfl⟩ | ⟨w1, rfl⟩ | ⟨w1, rfl⟩ | ⟨w1, rfl⟩ | ⟨w1, rfl⟩ | ⟨w1, rfl⟩ | ⟨w1, rfl⟩
          · exact core_b_l (x := valI B p) hD4 (e12.trans w1) e14 e3 hv f5 (by rw [hb, w1]) f3 fF
          · exact core_c_l (x := valI B p) hD4 (e12.trans w1) e14 e3 hv f5 (by rw [hb, w1]) f3 fF
          · exact core_d_l (x := valI B p) hD4 (e12.trans w1) e14 e3 hv f5 (by rw [hb, w1]) f3 fF
          · exact core_e_l (x := valI B p) hD4 (e12.trans w1) e14 e3 hv f5 (by rw [hb, w1]) f3 fF
          · exact core_f_l (x := valI B p) hD4 (e12.trans w1) e14 e3 hv f5 (by rw [hb, w1]) f3 fF
          · exact core_g_l (x := valI B p) hD4 (e12.trans w1) e14 e3 hv f5 (by rw [hb, w1]) f3 fF
          · exact core_o_l (x := valI B p) hD4 (e12.trans w1) e14 e3 hv f5 (by rw [hb, w1]) f3 fF
          · exact core_s_l (x := valI B p) hD4 (e12.trans w1) e14 e3 hv f5 (by rw [hb, w1]) f3 fF
        have hpl : posI B p m ≤ len := by
          have h59 := hI.2.2.2
          obtain ⟨m', rfl⟩ : ∃ m', m = m' + 1 := ⟨m - 1, by omega⟩
          rw [posI_s]
          by_cases c : posI B p m' + nf B (posI B p m') 3 < len
          · omega
          · rw [Nat.add_sub_cancel] at h59
            unfold sepI at h59
            rw [tx.2.2.2 _ (by omega)] at h59
            exact absurd h59 (by decide)
        rcases core with ⟨M', M5, k1, k2, k3, k4, k5⟩ | ⟨k1, k2⟩
        · refine Or.inl ⟨posI B p m, M', M5, ?_, k2, by rw [k5.1 0 (Or.inl rfl)]; exact f4, k3, (FrX_I fI).trans (FrX_Z k4 (by omega)), (FrA_F fF).trans (FrA_T k5), by omega, hpl⟩
          rw [head _ hr, if_neg (nI_pos (by omega)), k1, some_bind, nI_s]
          exact if_neg (show ¬ (1 : Int32) = 0 by decide)
        · refine Or.inr ⟨M1, M4, ?_, k2, FrX_I fI, FrA_F fF⟩
          rw [head _ hr, if_neg (nI_pos (by omega)), k1, some_bind]
          exact if_pos rfl
      · exact absurd hI f3
    · obtain ⟨MR', g1, g2⟩ := itemR_no tr hp h31 hN fun m' hm' hI' => hw (by rw [ItemP_u hI hI']; exact hm')
      refine Or.inr ⟨M1, MR', ?_, g1, FrX_I fI, FrA_F g2⟩
      rw [head _ hr, if_neg (nI_pos (by omega)), takeNo_l e14 (by omega) (by rw [e12]; exact hw), some_bind]
      exact if_pos rfl
  · obtain ⟨MR', g1, g2⟩ := itemR_no tr hp h31 hN fun m' hm' => hno m' (by
      rcases hm' with ⟨-, e⟩ | ⟨-, e⟩ | ⟨-, e⟩ | ⟨-, e⟩ | ⟨-, e⟩ | ⟨-, e⟩ | ⟨-, e⟩ | ⟨-, e⟩ <;> omega)
    refine Or.inr ⟨M1, MR', ?_, g1, FrX_I fI, FrA_F g2⟩
    rw [head _ hr]
    exact if_pos (by decide)
/-- nothing told yet -/
theorem clear_l (hN : 1000 < N) : ∃ M' MR', sTold_clear_l N M = some M' ∧ sRef_noFridge 1 MR = some MR' ∧ DRl M' MR' ∧ FrZ 22 39 M M' ∧ FrT MR MR' := by
  obtain ⟨M2, p1, p2, p3⟩ := itr_i (f := fun z : Int32 × Mm => LFoods_clear_l_7_8 N z.1 z.2)
    (fun i s => ∃ mm, s = (nI i, mm) ∧ (∀ r, r ≠ 34 → mm r = mset (mset (mset M 23 3 0) 23 4 0) 27 7 0 r) ∧ ∀ j, j < i → mm 34 j = 0)
    (fun mm => (∀ r, r ≠ 34 → mm r = mset (mset (mset M 23 3 0) 23 4 0) 27 7 0 r) ∧ ∀ j, j < 4 → mm 34 j = 0) 4 (s := (0, mset (mset (mset M 23 3 0) 23 4 0) 27 7 0)) (N := N)
    ⟨_, rfl, fun _ _ => rfl, fun j hj => absurd hj (by omega)⟩ (fun i s hi hP => by
      obtain ⟨mm, rfl, g1, g2⟩ := hP
      refine ⟨(nI (i + 1), mset mm 34 i 0), ?_, _, rfl, fun r hr => by rw [mset_ne _ _ _ hr]; exact g1 r hr, fun j hj => ?_⟩
      · show LFoods_clear_l_7_8 N (nI i) mm = _
        unfold LFoods_clear_l_7_8
        rw [if_neg (show ¬ (4 : Int32) ≤ nI i from by rw [show (4 : Int32) = nI 4 from rfl, nIle (by omega) (by omega)]; omega), putf_n (by omega) (by omega), ltM_u, ltI_u, nI_s]
      · rw [mset_eq]
        by_cases e : j = i
        · subst e; rw [upd_eq]
        · rw [upd_ne _ _ e]; exact g2 j (by omega)) (fun s hP => by
      obtain ⟨mm, rfl, g1, g2⟩ := hP
      refine ⟨mm, ?_, g1, g2⟩
      show LFoods_clear_l_7_8 N (nI 4) mm = _
      unfold LFoods_clear_l_7_8
      rw [if_pos (by decide)]) (by omega)
  have fz0 : FrZ 22 39 M (mset (mset (mset M 23 3 0) 23 4 0) 27 7 0) := FrZ_m (FrZ_m (FrZ_m (FrZ.refl _ _ _) (by omega)) (by omega)) (by omega)
  have fz2 : FrZ 22 39 M M2 := fun r hr => by
    rw [p2 r (fun e => hr (by omega))]
    exact fz0 r hr
  refine ⟨mset (mset (mset (mset (mset (mset M2 22 3 0) 22 5 0) 37 2 0) 37 3 10) 37 4 20) 22 7 1, mset (mset (mset (mset (mset (mset (mset (mset (mset MR 2 1 0) 6 1 0) 7 1 0) 14 1 0) 16 1 0) 18 1 0) 21 3 10) 21 4 20) 21 5 1, ?_, ?_, ?_, FrZ_m (FrZ_m (FrZ_m (FrZ_m (FrZ_m (FrZ_m fz2 (by omega)) (by omega)) (by omega)) (by omega)) (by omega)) (by omega), ?_⟩
  · unfold sTold_clear_l sCells_clear_l sFoods_clear_l sParty_clear_l
    rw [ltM_u, ltM_u, some_bind, ltM_u, p1, some_bind, some_bind, ltM_u, ltM_u, ltM_u, ltM_u, ltM_u, some_bind, ltM_u]
  · unfold sRef_noFridge
    rw [show (3 : Int32) * 1 = nI 3 from by decide, show nI 3 + 1 = nI 4 from by decide, show nI 3 + 2 = nI 5 from by decide, inc_1 (by omega) (by omega), ltM_u, inc_1 (by omega) (by omega), ltM_u, inc_1 (by omega) (by omega), ltM_u, inc_1 (by omega) (by omega), ltM_u, inc_1 (by omega) (by omega), ltM_u, inc_1 (by omega) (by omega), ltM_u, inc_n (by omega) (by omega), ltM_u, inc_n (by omega) (by omega), ltM_u, inc_n (by omega) (by omega), ltM_u, cl_1, cl_n (by omega), cl_n (by omega), cl_n (by omega)]
  · have e9 : M2 27 7 = 0 := by rw [p2 27 (by omega), mset_eq, upd_eq]
    have e53 : M2 23 3 = 0 := by rw [p2 23 (by omega), mset_ne _ _ _ (by omega), mset_eq, upd_ne _ _ (by omega), mset_eq, upd_eq]
    have e54 : M2 23 4 = 0 := by rw [p2 23 (by omega), mset_ne _ _ _ (by omega), mset_eq, upd_eq]
    refine ⟨0, 0, ⟨by omega, e53, rfl, ⟨0, by omega, e54, rfl⟩, fun c hc => absurd hc (by omega)⟩, ⟨by omega, e9, rfl, fun i hi => absurd hi (by omega), fun t ht => ⟨0, by omega, p3 t ht, fun i hi => absurd hi (by omega)⟩⟩, ⟨0, by omega, rfl, rfl, fun i hi => absurd hi (by omega)⟩, ⟨0, by omega, rfl, rfl, fun i hi => absurd hi (by omega)⟩, ⟨0, by omega, rfl, rfl, fun i hi => absurd hi (by omega)⟩, 10, 20, 1, by omega, by omega, by omega, rfl, rfl, rfl, rfl, rfl, rfl⟩
  · exact FrT_m (FrT_m (FrT_m (FrT_m (FrT_m (FrT_m (FrT_m (FrT_m (FrT_m (FrT.refl _) (by omega) (show 1 ≤ 1 by omega)) (by omega) (show 1 ≤ 1 by omega)) (by omega) (show 1 ≤ 1 by omega)) (by omega) (show 1 ≤ 1 by omega)) (by omega) (show 1 ≤ 1 by omega)) (by omega) (show 1 ≤ 1 by omega)) (by omega) (show 3 ≤ 3 by omega)) (by omega) (show 3 ≤ 4 by omega)) (by omega) (show 3 ≤ 5 by omega)
/-- the whole text -/
theorem read_l {B : Nat → Int32} {len : Nat} (tx : TxX M len B) (tr : TxR MR len B) (hN : 1000 < N) : ∃ (v : Int32) (M' MR' : Mm), sTold_read_l N M = some (v, M') ∧ sRef_readAll N MR = some (v, MR') ∧ FrX 22 39 M M' ∧ FrA MR MR' ∧ (v = -4 → DRl M' MR') := by
  have hl := tx.1
  obtain ⟨M0, R0, k1, k2, k3, k4, k5⟩ := clear_l (M := M) (MR := MR) hN
  have go : ∀ d p it m mr, len ≤ p + d → p ≤ len → it ≤ p → DRl m mr → FrX 22 39 M m → FrA MR mr → mr 0 31 = nI p → ∀ G, d < G → ∃ v m' mr' x y, itr (fun z : Int32 × Int32 × Mm => LTold_read_l_8_15 N z.1 z.2.1 z.2.2) G (nI p, nI it, m) = some x ∧ itr (fun z : Mm => LRef_readAll_10_10 N z) G mr = some y ∧ ((x = .inl (v, m') ∧ y = .inl (v, mr') ∧ v ≠ -4) ∨ (x = .inr m' ∧ y = .inr mr' ∧ v = -4 ∧ DRl m' mr')) ∧ FrX 22 39 M m' ∧ FrA MR mr' := by
    intro d
    induction d with
    | zero =>
      intro p it m mr h1 h2 h3 hD fx fa h31 G hG
      obtain ⟨G, rfl⟩ : ∃ g, G = g + 1 := ⟨G - 1, by omega⟩
      obtain rfl : p = len := by omega
      refine ⟨-4, m, mr, .inr m, .inr mr, ?_, ?_, Or.inr ⟨rfl, rfl, rfl, hD⟩, fx, fa⟩
      · unfold itr
        have : LTold_read_l_8_15 N (nI p) (nI it) m = some (.inr (.inr m)) := by
          unfold LTold_read_l_8_15
          by_cases c : (400 : Int32) ≤ nI it
          · rw [if_pos c]
          · rw [if_neg c, fx.2, tx.2.1, if_pos (by rw [nIle (by omega) (by omega)]; omega)]
        show (LTold_read_l_8_15 N (nI p) (nI it) m).bind _ = _
        rw [this]
        rfl
      · unfold itr
        have : LRef_readAll_10_10 N mr = some (.inr (.inr mr)) := by
          unfold LRef_readAll_10_10
          rw [fa.1 0 (by omega), tr.2.1, h31, if_pos (by rw [nIle (by omega) (by omega)]; omega)]
        rw [this]
        rfl
    | succ d ih =>
      intro p it m mr h1 h2 h3 hD fx fa h31 G hG
      obtain ⟨G, rfl⟩ : ∃ g, G = g + 1 := ⟨G - 1, by omega⟩
      by_cases hpl : p = len
      · exact ih p it m mr (by omega) h2 h3 hD fx fa h31 (G + 1) (by omega)
      · have txm : TxX m len B := ⟨tx.1, by rw [fx.2]; exact tx.2.1, by rw [fx.1 2 (by omega) (by omega) (by omega)]; exact tx.2.2.1, tx.2.2.2⟩
        have trm : TxR mr len B := ⟨tr.1, by rw [fa.1 0 (by omega)]; exact tr.2.1, by rw [fa.2.1 1 (Or.inl rfl)]; exact tr.2.2.1, tr.2.2.2⟩
        have headR : LRef_readAll_10_10 N mr = (sRef_item N mr).bind fun y => if y.1 = 0 then some (.inr (.inl (nI p, y.2))) else some (.inl y.2) := by
          unfold LRef_readAll_10_10
          rw [trm.2.1, h31, if_neg (by rw [nIle (by omega) (by omega)]; omega), ltI_u]
        have ih2 := ih
        rcases step_l (it := it) hD txm trm (by omega) h31 (by omega) hN with ⟨p', M', MR', s1, s2, s3, s4, s5, s6, s7, s8⟩ | ⟨M', MR', s1, s2, s3, s4⟩
        · obtain ⟨v, m', mr', x, y, g1, g2, g3⟩ := ih2 p' (it + 1) M' MR' (by omega) s8 (by omega) s4 (fx.trans s5) (fa.trans s6) s3 G (by omega)
          refine ⟨v, m', mr', x, y, ?_, ?_, g3⟩
          · unfold itr
            show (LTold_read_l_8_15 N (nI p) (nI it) m).bind _ = _
            rw [s1]
            exact g1
          · unfold itr
            have : LRef_readAll_10_10 N mr = some (.inl MR') := by
              rw [headR, s2, some_bind]
              exact if_neg (show ¬ (1 : Int32) = 0 by decide)
            rw [this]
            exact g2
        · refine ⟨nI p, M', MR', .inl (nI p, M'), .inl (nI p, MR'), ?_, ?_, Or.inl ⟨rfl, rfl, ?_⟩, fx.trans s3, fa.trans s4⟩
          · unfold itr
            show (LTold_read_l_8_15 N (nI p) (nI it) m).bind _ = _
            rw [s1]
            rfl
          · unfold itr
            have : LRef_readAll_10_10 N mr = some (.inr (.inl (nI p, MR'))) := by
              rw [headR, s2, some_bind]
              exact if_pos rfl
            rw [this]
            rfl
          · intro e
            have e2 : (nI p).toInt = -4 := by rw [e]; rfl
            rw [nI_t (by omega)] at e2
            omega
  have k31 : mset R0 0 31 0 0 31 = nI 0 := by rw [mset_eq, upd_eq]; rfl
  have fa0 : FrA MR (mset R0 0 31 0) := (FrA_T k5).trans (FrA_F FrF_place)
  have fI0 : FrI M0 M0 := ⟨fun _ _ _ => rfl, rfl⟩
  obtain ⟨v, m', mr', x, y, g1, g2, g3, g4, g5⟩ := go len 0 0 M0 (mset R0 0 31 0) (by omega) (by omega) (by omega) (DRl_fr k3 fI0 FrF_place) (FrX_Z k4 (by omega)) fa0 k31 N (by omega)
  have hx : sTold_read_l N M = (some x).bind (fun q => match q with
      | .inl (zv16, zM17) => some (zv16, zM17)
      | .inr zM18 => some ((-4), zM18)) := by
    rw [← g1]
    unfold sTold_read_l
    rw [k1, some_bind]
    rfl
  have hy : sRef_readAll N MR = (some y).bind (fun q => match q with
      | .inl (zv11, zM12) => some (zv11, zM12)
      | .inr zM13 => some ((-4), zM13)) := by
    rw [← g2]
    unfold sRef_readAll
    rw [k2, some_bind, ltM_u]
    rfl
  rcases g3 with ⟨rfl, rfl, hv⟩ | ⟨rfl, rfl, rfl, hd⟩
  · exact ⟨v, m', mr', hx, hy, g4, g5, fun e => absurd e hv⟩
  · exact ⟨-4, m', mr', hx, hy, g4, g5, fun _ => hd⟩
end TKl
