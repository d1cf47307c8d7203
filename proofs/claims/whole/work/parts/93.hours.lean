/-! PURE PART 14: hours go by; a cut. By hand. -/
def aX (n : Nat) (A : Nat → Nat) (M : Mm) : Mm := fun r => if r = 43 then (fun i => if i < n then nI (A i) else M 43 i) else M r
theorem aX_ne {n : Nat} {A : Nat → Nat} {M : Mm} {r : Nat} (hr : r ≠ 43) : aX n A M r = M r := if_neg hr
theorem aX_43 {n : Nat} {A : Nat → Nat} {M : Mm} {i : Nat} : aX n A M 43 i = if i < n then nI (A i) else M 43 i := rfl
theorem aX_0 {A : Nat → Nat} {M : Mm} : aX 0 A M = M := by
  funext r
  by_cases hr : r = 43
  · subst hr; funext i; rw [aX_43, if_neg (by omega)]
  · rw [aX_ne hr]
theorem aX_s {n : Nat} {A : Nat → Nat} {M : Mm} : mset (aX n A M) 43 n (nI (A n)) = aX (n + 1) A M := by
  funext r
  by_cases hr : r = 43
  · subst hr
    rw [mset_eq]
    funext i
    by_cases hi : i = n
    · subst hi; rw [upd_eq, aX_43, if_pos (by omega)]
    · rw [upd_ne _ _ hi, aX_43, aX_43]
      by_cases h : i < n
      · rw [if_pos h, if_pos (by omega)]
      · rw [if_neg h, if_neg (by omega)]
  · rw [mset_ne _ _ _ hr, aX_ne hr, aX_ne hr]
theorem aX_keep {n : Nat} {A : Nat → Nat} {M : Mm} (h : M 43 n = nI (A n)) : aX n A M = aX (n + 1) A M := by
  rw [← aX_s]
  funext r
  by_cases hr : r = 43
  · subst hr
    rw [mset_eq]
    funext i
    by_cases hi : i = n
    · subst hi; rw [upd_eq, aX_43, if_neg (by omega), h]
    · rw [upd_ne _ _ hi]
  · rw [mset_ne _ _ _ hr]
theorem Rel_time {MX MR : Mm} (h : Rel MX MR) {fn hr h2 : Nat} {A : Nat → Nat} (e7 : MX 27 7 = nI fn) (hf : fn ≤ 10) (e6 : MX 40 6 = nI hr) (hh : hr ≤ h2) (h2b : h2 ≤ 99999) (hA : ∀ i, i < fn → A i ≤ 618 * h2) : Rel (mset (aX fn A MX) 40 6 (nI h2)) (tB 0 fn A h2 MR) := by
  obtain ⟨cn, fn', kp, hT, hC, hF, hD, hE, hP, hS, hk, hk1, hk2, hNn⟩ := h
  have hf10 := hF.2.1
  have efn : fn' = fn := nI_inj (by omega) (by omega) (hF.2.2.1.symm.trans e7)
  subst efn
  have n27 : ∀ j, j ≠ 0 → tB 0 fn' A h2 MR 27 j = MR 27 j := fun j hj => tB_27o hj
  have n24 : ∀ j, fn' ≤ j → tB 0 fn' A h2 MR 24 j = MR 24 j := fun j hj => tB_24o (by omega)
  refine ⟨cn, fn', kp, ?_, ?_, ?_, ?_, ?_, ?_, ?_, ?_, fun q => RStk_R (hk1 q) (n27 2 (by omega)) fun j hj => ?_, fun q => RStk_R (hk2 q) (n27 3 (by omega)) fun j hj => ?_, ?_⟩
  · rw [tB_ne (r := 0) (by omega) (by omega), tB_ne (r := 1) (by omega) (by omega)]; exact hT
  · rw [tB_ne (r := 2) (by omega) (by omega), tB_ne (r := 3) (by omega) (by omega), tB_ne (r := 4) (by omega) (by omega), tB_ne (r := 5) (by omega) (by omega), tB_ne (r := 6) (by omega) (by omega)]; exact hC
  · rw [tB_ne (r := 7) (by omega) (by omega), tB_ne (r := 10) (by omega) (by omega), tB_ne (r := 11) (by omega) (by omega), tB_ne (r := 12) (by omega) (by omega), tB_ne (r := 13) (by omega) (by omega)]; exact hF
  · rw [tB_ne (r := 14) (by omega) (by omega), tB_ne (r := 15) (by omega) (by omega)]; exact hD
  · rw [tB_ne (r := 16) (by omega) (by omega), tB_ne (r := 17) (by omega) (by omega)]; exact hE
  · rw [tB_ne (r := 18) (by omega) (by omega), tB_ne (r := 19) (by omega) (by omega), tB_ne (r := 20) (by omega) (by omega), tB_ne (r := 21) (by omega) (by omega)]; exact hP
  · obtain ⟨s1, hr', s2, s3, s4, s5, s6⟩ := hS
    have ehr : hr' = hr := nI_inj (by omega) (by omega) (s3.symm.trans e6)
    subst ehr
    refine ⟨s1, h2, h2b, rfl, tB_27, fun i hi => ?_, s6⟩
    obtain ⟨k', c', a', f', l', b1, b2, b3, b4, b5, y1, r1, y2, r2, y3, r3, y4, r4, y5, r5⟩ := s5 i hi
    refine ⟨k', c', A i, f', l', b1, b2, hA i hi, b4, by omega, y1, ?_, y2, ?_, ?_, ?_, y4, ?_, y5, ?_⟩
    · rw [tB_ne (by omega) (by omega)]; exact r1
    · rw [tB_ne (by omega) (by omega)]; exact r2
    · rw [mset_ne _ _ _ (by omega), aX_43, if_pos hi]
    · exact tB_24 (b := 0) hi
    · rw [tB_ne (by omega) (by omega)]; exact r4
    · rw [tB_ne (by omega) (by omega)]; exact r5
  · rw [tB_ne (r := 0) (by omega) (by omega)]; exact hk
  · rw [tB_ne (r := 22) (by omega) (by omega), tB_ne (r := 23) (by omega) (by omega), tB_ne (r := 25) (by omega) (by omega), tB_ne (r := 26) (by omega) (by omega), n24 _ (by omega)]
    exact ⟨rfl, rfl, rfl, rfl, rfl⟩
  · rw [tB_ne (r := 22) (by omega) (by omega), tB_ne (r := 23) (by omega) (by omega), tB_ne (r := 25) (by omega) (by omega), tB_ne (r := 26) (by omega) (by omega), n24 _ (by omega)]
    exact ⟨rfl, rfl, rfl, rfl, rfl⟩
  · rw [tB_ne (r := 0) (by omega) (by omega), tB_ne (r := 28) (by omega) (by omega)]; exact hNn
theorem offThereX {M : Mm} {N fn : Nat} (h7 : M 27 7 = nI fn) (h5 : M 40 5 = nI fn) (hf : fn ≤ 10) (hN : 1000 < N) : sFridge_offAndThere N M = some (nI (bt (fun i => decide (M 44 i = 0 ∧ ¬ offI (M 43 i) (M 41 i) (M 31 i) = 0)) fn)) := by
  unfold sFridge_offAndThere
  generalize hp : (fun i => decide (M 44 i = 0 ∧ ¬ offI (M 43 i) (M 41 i) (M 31 i) = 0)) = p
  refine itr_b (fun i => (nI (bt p i), nI i)) fn (r := nI (bt p fn)) rfl ?_ ?_ (by omega) rfl
  · intro i hi
    show LFridge_offAndThere_4_21 N M (nI (bt p i)) (nI i) = some (.inl (nI (bt p (i + 1)), nI (i + 1)))
    unfold LFridge_offAndThere_4_21
    rw [h7, if_neg (by rw [nIle (by omega) (by omega)]; omega), isThereX h5 hf hi, some_bind]
    by_cases c : M 44 i = 0
    · rw [if_pos c, i10, isOffX (by omega), some_bind]
      by_cases d : offI (M 43 i) (M 41 i) (M 31 i) = 0
      · rw [if_pos d, ltI_u, nI_s, bt_F (by rw [← hp]; simp [d])]
      · rw [if_neg d, ltI_u, ltI_u, nI_s, orBit (by omega) (bt_lt p i), bt_T (by rw [← hp]; exact decide_eq_true ⟨c, d⟩)]
    · rw [if_neg c, i00, ltI_u, nI_s, bt_F (by rw [← hp]; simp [c])]
  · show LFridge_offAndThere_4_21 N M (nI (bt p fn)) (nI fn) = _
    unfold LFridge_offAndThere_4_21
    rw [h7, if_pos (by rw [nIle (by omega) (by omega)]; omega)]
theorem offCountR {M : Mm} {N fn : Nat} (h7 : M 7 0 = nI fn) (hf : fn ≤ 10) (hN : 1000 < N) : itr (fun z : Int32 × Int32 => LRef_hours_52_33 N M z.1 z.2) N (0, 0) = some (nI (ctb (fun i => decide (M 25 i = 0 ∧ ¬ offI (M 24 i) (M 22 i) (M 11 i) = 0)) fn)) := by
  generalize hp : (fun i => decide (M 25 i = 0 ∧ ¬ offI (M 24 i) (M 22 i) (M 11 i) = 0)) = p
  refine itr_n (fun i => (nI (ctb p i), nI i)) fn (r := nI (ctb p fn)) rfl ?_ ?_ (by omega)
  · intro i hi
    show LRef_hours_52_33 N M (nI (ctb p i)) (nI i) = some (.inl (nI (ctb p (i + 1)), nI (i + 1)))
    unfold LRef_hours_52_33
    rw [rdc_0 (by omega) (by omega), h7, if_neg (by rw [nIle (by omega) (by omega)]; omega), rdc_n (by omega) (by omega)]
    by_cases c : M 25 i = 0
    · rw [if_pos c, isOffR (by omega), some_bind, Nat.mod_eq_of_lt (by omega)]
      by_cases d : offI (M 24 i) (M 22 i) (M 11 i) = 0
      · rw [if_pos d, ltI_u, ltI_u, nI_s, add_z, ctb_F (by rw [← hp]; simp [d])]
      · rw [if_neg d, ltI_u, ltI_u, nI_s, nI_s, ctb_T (by rw [← hp]; exact decide_eq_true ⟨c, d⟩)]
    · rw [if_neg c, ltI_u, ltI_u, nI_s, add_z, ctb_F (by rw [← hp]; simp [c])]
  · show LRef_hours_52_33 N M (nI (ctb p fn)) (nI fn) = _
    unfold LRef_hours_52_33
    rw [rdc_0 (by omega) (by omega), h7, if_pos (by rw [nIle (by omega) (by omega)]; omega)]
section HO
variable {cn fn q hr b n h : Nat} {w r d co li so k c a f A : Nat → Nat} {M M' : Mm} {N : Nat}
theorem hoursX (hv : VXc M cn q w r d) (hb : BC cn q w r d) (hs : VXs M fn hr k c a f) (h7 : M 27 7 = nI fn) (hf : fn ≤ 10) (hBS : BS cn fn hr k c a f) (hN : 1000 < N) (hn : n ≤ 5000) : sFridge_letHoursGoBy N (nI n) M = some (mset (aX fn (agF q hr w r k c a f n) M) 40 6 (nI (hr + n))) := by
  unfold sFridge_letHoursGoBy
  obtain ⟨A, hA⟩ : ∃ A, A = agF q hr w r k c a f n := ⟨_, rfl⟩
  rw [← hA]
  have hAi : ∀ i, A i = if f i = 0 then a i + agN (k i) (w (c i)) (r (c i)) q hr n else a i := fun i => by rw [hA]; rfl
  obtain ⟨s1, s2, s3⟩ := hs
  refine itr_b (fun i => (nI i, aX i A M)) fn (r := aX fn A M) (by rw [aX_0]; rfl) ?_ ?_ (by omega) ?_
  · intro i hi
    show LFridge_letHoursGoBy_2_17 N (nI n) (nI i) (aX i A M) = some (.inl (nI (i + 1), aX (i + 1) A M))
    obtain ⟨t1, t2, t3, t4⟩ := s3 i hi
    obtain ⟨b1, b2, b3, b4⟩ := hBS.2 i hi
    have hh := hBS.1
    unfold LFridge_letHoursGoBy_2_17
    rw [aX_ne (by omega), h7, if_neg (by rw [nIle (by omega) (by omega)]; omega), isThereX (M := aX i A M) (by rw [aX_ne (by omega)]; exact s1) hf hi, some_bind, aX_ne (by omega), t4]
    simp only [nI_is0 (show f i ≤ 1000 by omega)]
    by_cases c0 : f i = 0
    · have hs' : VXs (aX i A M) fn hr k c (fun j => if j < i then A j else a j) f := by
        refine ⟨by rw [aX_ne (by omega)]; exact s1, by rw [aX_ne (by omega)]; exact s2, fun j hj => ?_⟩
        obtain ⟨u1, u2, u3, u4⟩ := s3 j hj
        rw [aX_ne (r := 41) (by omega), aX_ne (r := 42) (by omega), aX_ne (r := 44) (by omega), aX_43]
        refine ⟨u1, u2, ?_, u4⟩
        show (if j < i then nI (A j) else M 43 j) = nI (if j < i then A j else a j)
        by_cases hj2 : j < i
        · rw [if_pos hj2, if_pos hj2]
        · rw [if_neg hj2, if_neg hj2]; exact u3
      have hv' : VXc (aX i A M) cn q w r d := by
        unfold VXc
        rw [aX_ne (by omega), aX_ne (by omega), aX_ne (by omega), aX_ne (by omega)]
        exact hv
      have e1 : sFridge_ageBehind N (nI i) (nI n) (aX i A M) = some (nI (A i)) := by
        unfold sFridge_ageBehind
        rw [kindX (by omega), some_bind, cellX (by omega), some_bind, aX_ne (by omega), aX_ne (by omega), t1, t2, ageAsX hv' hb hs' (by omega) hf hN hi b1 b2 hn, some_bind, hAi, if_pos c0, if_neg (by omega)]
      rw [if_pos c0, i10, e1, some_bind]
      unfold sStock_ageTo
      rw [ltM_u, putf_n (by omega) (by omega), some_bind, ltI_u, nI_s, aX_s]
    · rw [if_neg c0, i00, ltI_u, nI_s, aX_keep (by rw [hAi, if_neg c0]; exact t3)]
  · show LFridge_letHoursGoBy_2_17 N (nI n) (nI fn) (aX fn A M) = _
    unfold LFridge_letHoursGoBy_2_17
    rw [aX_ne (by omega), h7, if_pos (by rw [nIle (by omega) (by omega)]; omega)]
  · show ltM (mset (aX fn A M) 40 6 (aX fn A M 40 6 + nI n)) _ = _
    rw [ltM_u, aX_ne (by omega), s2, nI_add]
theorem hoursR (H : HB M b fn cn q w r d k c f) (hs : VRs M b fn hr k c a f) (hN : 1000 < N) (hh : hr + n ≤ 150000) (hn : n ≤ 1000) : itr (fun z : Int32 × Mm => LRef_hours_32_9 N (nI n) z.1 z.2) N (0, M) = some (tB b fn (agF q hr w r k c a f n) (hr + n) M) ∨ b ≠ 0 := by
  by_cases hb : b = 0
  · subst hb
    left
    refine itr_n (fun j => (nI j, tB 0 fn (agF q hr w r k c a f j) (hr + j) M)) n ?_ ?_ ?_ (by omega)
    · rw [agF_0, Nat.add_zero, tB_self hs]; rfl
    · intro j hj
      show LRef_hours_32_9 N (nI n) (nI j) (tB 0 fn (agF q hr w r k c a f j) (hr + j) M) = some (.inl (nI (j + 1), tB 0 fn (agF q hr w r k c a f (j + 1)) (hr + (j + 1)) M))
      unfold LRef_hours_32_9
      rw [if_neg (by rw [nIle (by omega) (by omega)]; omega), show sRef_goHour N 0 (tB 0 fn (agF q hr w r k c a f j) (hr + j) M) = _ from goHourF H hN (by omega), some_bind, ltI_u, nI_s]
    · show LRef_hours_32_9 N (nI n) (nI n) (tB 0 fn (agF q hr w r k c a f n) (hr + n) M) = _
      unfold LRef_hours_32_9
      rw [if_pos (by rw [nIle (by omega) (by omega)]; omega)]
  · exact Or.inr hb
end HO
theorem in1_999 (a : Int32) : sRef_in (Int32.toInt64 a) 1 999 = sOff_isWithin a 1 999 := in_eq a 1 999
theorem ok_hours {N : Nat} (hN : 1000 < N) : Ok_hours Rel N := by
  intro a1 MX MR h
  obtain ⟨cn, fn, q, hr, w, r, d, co, li, so, k, c, a, f, bC, bF, bS, xC, xF, xS, rC, rF, rS⟩ := Rel_view h
  by_cases hw : (1 : Int32).toInt ≤ a1.toInt ∧ a1.toInt ≤ (999 : Int32).toInt
  · have hw1 : (1 : Int) ≤ a1.toInt := hw.1
    have hw2 : a1.toInt ≤ (999 : Int) := hw.2
    obtain ⟨n, hn, rfl⟩ := nI_ofRange (n := 1000) (a := a1) (by omega) (by omega) (by omega)
    have hh := bS.1
    by_cases hq : hr + n ≤ 99999
    · have e1 := hoursX xC bC xS xF.1 bF.2.1 bS hN (n := n) (by omega)
      have e2 := (hoursR (HB_of (b := 0) (by omega) rC bC rF bF bS rS) rS hN (n := n) (by omega) (by omega)).resolve_right (by omega)
      have hR : Rel (mset (aX fn (agF q hr w r k c a f n) MX) 40 6 (nI (hr + n))) (tB 0 fn (agF q hr w r k c a f n) (hr + n) MR) := Rel_time h xF.1 bF.2.1 xS.2.1 (by omega) hq fun i hi => agF_le bC (bS.2 i hi).2.1 (bS.2 i hi).2.2.1
      generalize mset (aX fn (agF q hr w r k c a f n) MX) 40 6 (nI (hr + n)) = M1 at e1 hR
      generalize tB 0 fn (agF q hr w r k c a f n) (hr + n) MR = M2 at e2 hR
      have hR2 := hR
      obtain ⟨cn', fn', kp, hT, hC, hF, hD, hE, hP, hS, hk, hk1, hk2, hNn⟩ := hR
      refine ⟨nI (ctb (fun i => decide (M1 44 i = 0 ∧ ¬ offI (M1 43 i) (M1 41 i) (M1 31 i) = 0)) fn'), M1, M2, ?_, ?_, hR2⟩
      · unfold sOff_hours
        rw [within_T hw.1 hw.2, some_bind, i10, xS.2.1, nI_add, if_pos (by rw [show (99999 : Int32) = nI 99999 from rfl, nIle (by omega) (by omega)]; omega), e1, some_bind, offThereX hF.2.2.1 hS.1 hF.2.1 hN, some_bind, bitCount10 _ _ hF.2.1, some_bind]
      · unfold sRef_hours
        rw [in1_999, within_T hw.1 hw.2, some_bind, i10, rdc_0 (by omega) (by omega), rS.1, nI_add, if_pos (by rw [show (99999 : Int32) = nI 99999 from rfl, nIle (by omega) (by omega)]; omega), e2, some_bind, offCountR hF.2.2.2.1 hF.2.1 hN, some_bind]
        congr 3
        refine ctb_congr fun i hi => ?_
        obtain ⟨x1, x2, x3, x4, x5, x6, x7, x8, x9⟩ := Rel_i hF hS hi
        rw [x1, x3, x4, x7]
    · refine ⟨-2, MX, MR, ?_, ?_, h⟩
      · unfold sOff_hours
        rw [within_T hw.1 hw.2, some_bind, i10, xS.2.1, nI_add, if_neg (by rw [show (99999 : Int32) = nI 99999 from rfl, nIle (by omega) (by omega)]; omega)]
      · unfold sRef_hours
        rw [in1_999, within_T hw.1 hw.2, some_bind, i10, rdc_0 (by omega) (by omega), rS.1, nI_add, if_neg (by rw [show (99999 : Int32) = nI 99999 from rfl, nIle (by omega) (by omega)]; omega)]
  · exact ⟨-1, MX, MR, by unfold sOff_hours; rw [within_F hw]; rfl, by unfold sRef_hours; rw [in1_999, within_F hw]; rfl, h⟩
