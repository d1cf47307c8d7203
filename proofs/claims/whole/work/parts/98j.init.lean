/-! PURE PART 29: a new object; all together. By hand. -/
theorem init_ok {N : Nat} (hN : 1000 < N) : ∃ MX MR : Mm, sOff_tail N mX0 = some MX ∧ sRef_tail N mR0 = some MR ∧ Rel MX MR := by
  obtain ⟨M2, hM2⟩ : ∃ M2, M2 = mset (mset (mset (mset mX0 24 0 40) 25 0 5) 26 0 10) 23 3 (nI 1) := ⟨_, rfl⟩
  have h1 : sCells_add_l 40 5 10 mX0 = some (1, M2) := by
    have e : mX0 23 3 = nI 0 := rfl
    unfold sCells_add_l
    rw [e, if_pos (by decide), putf_n (by omega) (by omega), ltM_u, mset_ne _ _ _ (show (23 : Nat) ≠ 24 by omega), e, putf_n (by omega) (by omega), ltM_u, mset_ne _ _ _ (show (23 : Nat) ≠ 25 by omega), mset_ne _ _ _ (show (23 : Nat) ≠ 24 by omega), e, putf_n (by omega) (by omega), ltM_u, mset_ne _ _ _ (show (23 : Nat) ≠ 26 by omega), mset_ne _ _ _ (show (23 : Nat) ≠ 25 by omega), mset_ne _ _ _ (show (23 : Nat) ≠ 24 by omega), e, nI_s, ltM_u, hM2]
  obtain ⟨M4, hM4⟩ : ∃ M4, M4 = mset (mset (mset (mset (mset (mset (mset (mset M2 28 0 0) 29 0 0) 30 0 9) 31 0 48) 32 0 3) 33 0 0) 34 0 (M2 34 0 ||| (1 <<< (nI 0 &&& 31)))) 27 7 (nI 1) := ⟨_, rfl⟩
  have e27 : M2 27 7 = nI 0 := by rw [hM2]; rfl
  have h2 : sFoods_add_l 0 0 9 48 3 0 M2 = some (1, M4) := by
    have e9 : ∀ (m : Mm) r i v, r ≠ 27 → m 27 7 = nI 0 → mset m r i v 27 7 = nI 0 := fun m r i v hr hm => by rw [mset_ne _ _ _ (fun e => hr e.symm)]; exact hm
    have q1 := e9 M2 28 0 0 (by omega) e27
    have q2 := e9 _ 29 0 0 (by omega) q1
    have q3 := e9 _ 30 0 9 (by omega) q2
    have q4 := e9 _ 31 0 48 (by omega) q3
    have q5 := e9 _ 32 0 3 (by omega) q4
    have q6 := e9 _ 33 0 0 (by omega) q5
    have e16 : mset (mset (mset (mset (mset (mset M2 28 0 0) 29 0 0) 30 0 9) 31 0 48) 32 0 3) 33 0 0 34 0 = M2 34 0 := by
      rw [mset_ne _ _ _ (by omega), mset_ne _ _ _ (by omega), mset_ne _ _ _ (by omega), mset_ne _ _ _ (by omega), mset_ne _ _ _ (by omega), mset_ne _ _ _ (by omega)]
    unfold sFoods_add_l
    rw [e27, if_pos (by decide), putf_n (by omega) (by omega), ltM_u, q1, putf_n (by omega) (by omega), ltM_u, q2, putf_n (by omega) (by omega), ltM_u, q3, putf_n (by omega) (by omega), ltM_u, q4, putf_n (by omega) (by omega), ltM_u, q5, putf_n (by omega) (by omega), ltM_u, q6, atf_of (i := 0) 0 rfl (by omega) (by omega), e16, putf_of (i := 0) 0 rfl (by omega) (by omega), ltM_u, e9 _ 34 0 _ (by omega) q6, nI_s, ltM_u, hM4]
  have g27 : M4 27 7 = nI 1 := by rw [hM4, mset_eq, upd_eq]
  obtain ⟨MX, s1, s2, s3, s4, s5⟩ := startX g27 (by omega) hN
  have hX : sOff_tail N mX0 = some MX := by
    unfold sOff_tail
    rw [h1, some_bind]
    show ((sFoods_add_l 0 0 9 48 3 0 M2).bind fun (zv3, zM4) => (sStock_start N zM4).bind fun zM5 => some zM5) = _
    rw [h2, some_bind]
    show ((sStock_start N M4).bind fun zM5 => some zM5) = _
    rw [s1, some_bind]
  obtain ⟨R1, hR1⟩ : ∃ R1, R1 = mset (mset (mset (mset (mset (mset (mset (mset (mset mR0 2 0 0) 6 0 0) 7 0 0) 14 0 0) 16 0 0) 18 0 0) 21 0 10) 21 1 20) 21 2 1 := ⟨_, rfl⟩
  have hn : sRef_noFridge 0 mR0 = some R1 := by
    unfold sRef_noFridge
    rw [show (3 : Int32) * 0 = nI 0 from by decide, show nI 0 + 1 = nI 1 from by decide, show nI 0 + 2 = nI 2 from by decide, inc_0 (by omega) (by omega), ltM_u, inc_0 (by omega) (by omega), ltM_u, inc_0 (by omega) (by omega), ltM_u, inc_0 (by omega) (by omega), ltM_u, inc_0 (by omega) (by omega), ltM_u, inc_0 (by omega) (by omega), ltM_u, inc_n (by omega) (by omega), ltM_u, inc_n (by omega) (by omega), ltM_u, inc_n (by omega) (by omega), ltM_u, cl_0, cl_n (by omega), cl_n (by omega), cl_n (by omega), hR1]
  obtain ⟨R9, hR9⟩ : ∃ R9, R9 = mset (mset (mset (mset (mset (mset (mset (mset R1 2 0 1) 3 0 40) 4 0 5) 5 0 10) 7 0 1) 10 0 9) 11 0 48) 12 0 3 := ⟨_, rfl⟩
  have f7 : R9 7 0 = nI 1 := by rw [hR9]; rfl
  obtain ⟨MR, t1, t2, t3, t4, t5, t6, t7⟩ := layFrR f7 (by omega) hN
  have hR : sRef_tail N mR0 = some MR := by
    unfold sRef_tail
    rw [hn, some_bind, inc_0 (by omega) (by omega), ltM_u, inc_0 (by omega) (by omega), ltM_u, inc_0 (by omega) (by omega), ltM_u, inc_0 (by omega) (by omega), ltM_u, inc_0 (by omega) (by omega), ltM_u, inc_0 (by omega) (by omega), ltM_u, inc_0 (by omega) (by omega), ltM_u, inc_0 (by omega) (by omega), ltM_u, cl_0, ← hR9, t1, some_bind]
  have e24 : M2 = mset (mset (mset (mset mX0 24 0 40) 25 0 5) 26 0 10) 23 3 (nI 1) := hM2
  refine ⟨MX, MR, hX, hR, ?_⟩
  have x : ∀ r, r ≠ 40 → ¬ (41 ≤ r ∧ r ≤ 45) → MX r = M4 r := s2
  have y : ∀ r, r ≠ 0 → ¬ (22 ≤ r ∧ r ≤ 27) → MR r = R9 r := t2
  have hF0 : RFo0 1 0 0 (M2 28) (M2 29) (M2 30) (M2 31) (M2 32) (M2 33) (M2 34) 0 (R1 8) (R1 9) (R1 10) (R1 11) (R1 12) (R1 13) := ⟨by omega, rfl, rfl, fun i hi => absurd hi (by omega), fun t ht => ⟨0, by omega, by rw [hM2]; rfl, fun i hi => absurd hi (by omega)⟩⟩
  refine Rel_make (cn := 1) (fn := 1) ?_ ?_ ?_ (by omega) ?_ ?_ ?_ s3 s4 (fun i hi => ?_) t6 (fun i hi => ?_) (fun g hg => ?_) ?_ t4 ?_ t5
  · refine ⟨0, by omega, ?_, ?_, fun j hj => absurd hj (by omega)⟩
    · rw [x 1 (by omega) (by omega), hM4, hM2]; rfl
    · rw [t3 0 (by omega) (by omega), hR9, hR1]; rfl
  · rw [x 23 (by omega) (by omega), x 24 (by omega) (by omega), x 25 (by omega) (by omega), x 26 (by omega) (by omega), y 2 (by omega) (by omega), y 6 (by omega) (by omega), y 3 (by omega) (by omega), y 4 (by omega) (by omega), y 5 (by omega) (by omega), hM4, hM2, hR9, hR1]
    refine ⟨by omega, by omega, rfl, rfl, ⟨0, by omega, rfl, rfl⟩, fun c hc => ?_⟩
    obtain rfl : c = 0 := by omega
    exact ⟨40, 5, 10, by omega, by omega, by omega, by omega, rfl, rfl, rfl, rfl, rfl, rfl⟩
  · rw [x 27 (by omega) (by omega), x 28 (by omega) (by omega), x 29 (by omega) (by omega), x 30 (by omega) (by omega), x 31 (by omega) (by omega), x 32 (by omega) (by omega), x 33 (by omega) (by omega), x 34 (by omega) (by omega), y 7 (by omega) (by omega), y 8 (by omega) (by omega), y 9 (by omega) (by omega), y 10 (by omega) (by omega), y 11 (by omega) (by omega), y 12 (by omega) (by omega), y 13 (by omega) (by omega)]
    refine RFo0_add (k := 0) (c := 0) (a := 9) (b := 48) (p := 3) (s := 0) hF0 (by omega) (by omega) (by omega) (by omega) (by omega) (by omega) (by omega) (by omega) g27 f7 (fun i hi => absurd hi (by omega)) ?_ (fun t ht hne => ?_) ?_
    · rw [hM4, hM2, hR9, hR1]
      exact ⟨rfl, rfl, rfl, rfl, rfl, rfl, rfl, rfl, rfl, rfl, rfl, rfl⟩
    · rw [hM4]
      exact upd_ne _ _ hne
    · rw [hM4]
      show upd (M2 34) 0 (M2 34 0 ||| (1 <<< (nI 0 &&& 31))) 0 = M2 34 0 ||| (1 <<< (nI 0 &&& 31))
      rw [upd_eq]
  · rw [x 22 (by omega) (by omega), x 35 (by omega) (by omega), y 14 (by omega) (by omega), y 15 (by omega) (by omega), hM4, hM2, hR9, hR1]
    exact ⟨0, by omega, rfl, rfl, fun i hi => absurd hi (by omega)⟩
  · rw [x 22 (by omega) (by omega), x 36 (by omega) (by omega), y 16 (by omega) (by omega), y 17 (by omega) (by omega), hM4, hM2, hR9, hR1]
    exact ⟨0, by omega, rfl, rfl, fun i hi => absurd hi (by omega)⟩
  · rw [x 22 (by omega) (by omega), x 37 (by omega) (by omega), x 38 (by omega) (by omega), x 39 (by omega) (by omega), y 18 (by omega) (by omega), y 19 (by omega) (by omega), y 20 (by omega) (by omega), y 21 (by omega) (by omega), hM4, hM2, hR9, hR1]
    exact ⟨⟨0, by omega, rfl, rfl, fun i hi => absurd hi (by omega)⟩, 10, 20, 1, by omega, by omega, by omega, rfl, rfl, rfl, rfl, rfl, rfl⟩
  · rw [x 28 (by omega) (by omega), x 29 (by omega) (by omega)]
    exact s5 i hi
  · rw [y 8 (by omega) (by omega), y 9 (by omega) (by omega)]
    exact t7 i hi
  · obtain rfl : g = 0 := by omega
    refine ⟨10, by omega, ?_, Nat.le_trans (ctb_n _ _) (by omega)⟩
    rw [x 26 (by omega) (by omega), hM4, hM2]
    rfl
  · rw [x 0 (by omega) (by omega), hM4, hM2]; rfl
  · rw [x 71 (by omega) (by omega), hM4, hM2]; rfl
theorem ops_ok {N : Nat} (hN : 10000 < N) : OpsOk Rel N := by
  have h1 : 1000 < N := by omega
  exact ⟨ok_write h1, ok_wipe N, ok_fault h1, ok_lay h1, ok_food N, ok_warmth N, ok_hours h1, ok_move h1, ok_make N, ok_eat N, ok_throwOut N, ok_offIn hN, ok_lost h1, ok_plan hN, ok_freeze h1, ok_lie hN, ok_expect h1, ok_buy h1, ok_print h1, ok_smell h1, ok_line h1, ok_cut h1, ok_ill h1, ok_span N, ok_noSpans N, ok_law h1, ok_habit h1, ok_keep h1, ok_back h1, ok_count h1⟩
theorem pure_ok : ∃ (Rel : Mm → Mm → Prop) (N : Nat), OpsOk Rel N ∧ ∃ MX MR : Mm, sOff_tail N mX0 = some MX ∧ sRef_tail N mR0 = some MR ∧ Rel MX MR := ⟨Rel, 20000, ops_ok (by omega), init_ok (by omega)⟩
