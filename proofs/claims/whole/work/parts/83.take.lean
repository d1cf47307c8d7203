/-! PURE PART 4: foods that change: eat, throwOut, make. By hand. -/
theorem ctb_le {p q : Nat → Bool} : ∀ {n : Nat}, (∀ i, i < n → p i = true → q i = true) → ctb p n ≤ ctb q n
  | 0, _ => Nat.le_refl 0
  | n + 1, h => by
    have h1 := ctb_le (p := p) (q := q) (n := n) (fun i hi => h i (by omega))
    have h2 : (if p n then 1 else 0) ≤ (if q n then 1 else 0) := by
      by_cases c : p n = true
      · rw [if_pos c, if_pos (h n (by omega) c)]; exact Nat.le_refl 1
      · rw [if_neg c]; exact Nat.zero_le _
    show ctb p n + _ ≤ ctb q n + _
    omega
theorem ctb_congr {p q : Nat → Bool} {n : Nat} (h : ∀ i, i < n → p i = q i) : ctb p n = ctb q n :=
  Nat.le_antisymm (ctb_le fun i hi e => by rw [← h i hi]; exact e) (ctb_le fun i hi e => by rw [h i hi]; exact e)
theorem RStk_R {cn fn o : Nat} {room k c a f l rk rc ra rf rl rk' rc' ra' rf' rl' : Nat → Int32} {x5 x6 rh rh' : Int32} (h : RStk cn fn room x5 x6 k c a f l o rh rk rc ra rf rl) (e0 : rh' = rh) (e : ∀ j, j < fn → rk' (o + j) = rk (o + j) ∧ rc' (o + j) = rc (o + j) ∧ ra' (o + j) = ra (o + j) ∧ rf' (o + j) = rf (o + j) ∧ rl' (o + j) = rl (o + j)) : RStk cn fn room x5 x6 k c a f l o rh' rk' rc' ra' rf' rl' := by
  obtain ⟨h5, hr, h0, h1, h2, h3, h4⟩ := h
  refine ⟨h5, hr, h0, h1, e0.trans h2, fun i hi => ?_, h4⟩
  obtain ⟨e1, e2, e3, e4, e5⟩ := e i hi
  rw [e1, e2, e3, e4, e5]
  exact h3 i hi
theorem takeX {MX : Mm} {cn fn : Nat} {i : Nat} (hn : MX 40 5 = nI fn) (h27 : MX 27 7 = nI fn) (hf : fn ≤ 10) (h : i < fn) (w : Int32) : sOff_takeAway (nI i) w MX = some (if MX 44 i = 0 then (offI (MX 43 i) (MX 41 i) (MX 31 i), mset (mset MX 44 i w) 45 i (MX 40 6)) else (-2, MX)) := by
  have hi10 : i < 10 := Nat.lt_of_lt_of_le h hf
  unfold sOff_takeAway
  rcases hasFood_iff h27 hf (nI i) with ⟨j, hj, ej, e⟩ | ⟨hout, e⟩
  · rw [e, some_bind, i10, isThereX hn hf h, some_bind]
    by_cases c : MX 44 i = 0
    · rw [if_pos c, i10, if_pos c]
      have e1 : sStock_takeOut (nI i) w MX = some (mset (mset MX 44 i w) 45 i (MX 40 6)) := by
        unfold sStock_takeOut
        rw [ltM_u, putf_n hi10 (by omega), ltM_u, putf_n hi10 (by omega)]
        rfl
      rw [e1, some_bind, isOffX hi10, some_bind]
      show (if offI (MX 43 i) (MX 41 i) (MX 31 i) = 0 then _ else _) = _
      unfold offI
      by_cases q : MX 43 i < limI (MX 41 i) (MX 31 i)
      · rw [if_pos q]; rfl
      · rw [if_neg q]; rfl
    · rw [if_neg c, i00, if_neg c]
  · rw [nI_t (by omega)] at hout; omega
theorem takeR {MR : Mm} {cn fn : Nat} {i : Nat} (h7 : MR 7 0 = nI fn) (hf : fn ≤ 10) (h : i < fn) (w : Int32) : sRef_take (nI i) w MR = some (if MR 25 i = 0 then (offI (MR 24 i) (MR 22 i) (MR 11 i), mset (mset MR 25 i w) 26 i (MR 27 0)) else (-2, MR)) := by
  have hi10 : i < 10 := Nat.lt_of_lt_of_le h hf
  unfold sRef_take
  rw [isFood_T h7 hf h, some_bind, i10, rdc_n (by omega) (by omega)]
  by_cases c : MR 25 i = 0
  · rw [if_pos c, if_pos c, inc_n (by omega) (by omega), ltM_u, rdc_0 (by omega) (by omega), inc_n (by omega) (by omega), ltM_u, isOffR (by omega), some_bind, cl_n (by omega), Nat.mod_eq_of_lt hi10]
    show (if offI (MR 24 i) (MR 22 i) (MR 11 i) = 0 then _ else _) = _
    unfold offI
    by_cases q : MR 24 i < limI (MR 22 i) (MR 11 i)
    · rw [if_pos q]; rfl
    · rw [if_neg q]; rfl
  · rw [if_neg c, if_neg c]
theorem ok_take {fn0 : Nat} (w : Nat) (hw : 1 ≤ w) (hw2 : w ≤ 2) (a1 : Int32) (MX MR : Mm) (h : Rel MX MR) : ∃ (r : Int32) (MX1 MR1 : Mm), sOff_takeAway a1 (nI w) MX = some (r, MX1) ∧ sRef_take a1 (nI w) MR = some (r, MR1) ∧ Rel MX1 MR1 := by
  have hR := h
  obtain ⟨cn, fn, kp, hT, hC, hF, hD, hE, hP, hS, hk, hk1, hk2, hN⟩ := h
  by_cases hin : 0 ≤ a1.toInt ∧ a1.toInt < fn
  · obtain ⟨i, hi, rfl⟩ := nI_ofRange hin.1 hin.2 (by have := hF.2.1; omega)
    have hi10 : i < 10 := Nat.lt_of_lt_of_le hi hF.2.1
    obtain ⟨e1, e2, e3, e4, e5⟩ := Rel_stk hS hi
    obtain ⟨f1, f2, f3, f4⟩ := Rel_food hF hi
    rw [Nat.zero_add] at e1 e2 e3 e4 e5
    rw [takeX (cn := cn) hS.1 hF.2.2.1 hF.2.1 hi, takeR (cn := cn) hF.2.2.2.1 hF.2.1 hi, ← e1, ← e3, ← e4, ← f2]
    by_cases c : MX 44 i = 0
    · rw [if_pos c, if_pos c]
      refine ⟨_, _, _, rfl, rfl, cn, fn, kp, hT, hC, hF, hD, hE, hP, ?_, hk, fun q => RStk_R (hk1 q) rfl (fun j hj => ⟨rfl, rfl, rfl, upd_ne _ _ (by omega), upd_ne _ _ (by omega)⟩), fun q => RStk_R (hk2 q) rfl (fun j hj => ⟨rfl, rfl, rfl, upd_ne _ _ (by omega), upd_ne _ _ (by omega)⟩), hN⟩
      obtain ⟨h5, hr, h0, h1, h2, h3, h4⟩ := hS
      refine ⟨h5, hr, h0, h1, h2, fun j hj => ?_, fun c' hc' => ?_⟩
      · obtain ⟨k', c', a', f', l', q1, q2, q3, q4, q5, q6, q7, q8, q9, q10, q11, q12, q13, q14, q15⟩ := h3 j hj
        by_cases ij : j = i
        · subst ij
          refine ⟨k', c', a', w, hr, q1, q2, q3, hw2, Nat.le_refl _, q6, q7, q8, q9, q10, q11, upd_eq _ _ _, by rw [Nat.zero_add]; exact upd_eq _ _ _, (upd_eq _ _ _).trans h1, by rw [Nat.zero_add]; exact (upd_eq _ _ _).trans h2⟩
        · exact ⟨k', c', a', f', l', q1, q2, q3, q4, q5, q6, q7, q8, q9, q10, q11, (upd_ne _ _ ij).trans q12, (upd_ne _ _ (by omega)).trans q13, (upd_ne _ _ ij).trans q14, (upd_ne _ _ (by omega)).trans q15⟩
      · obtain ⟨d, d1, d2, d3⟩ := h4 c' hc'
        refine ⟨d, d1, d2, Nat.le_trans (ctb_le fun j hj e => ?_) d3⟩
        have e := of_decide_eq_true e
        refine decide_eq_true ⟨?_, e.2⟩
        by_cases ij : j = i
        · subst ij
          have q : upd (MX 44) j (nI w) j = 0 := e.1
          rw [upd_eq] at q
          exact absurd (nI_inj (b := 0) (by omega) (by omega) q) (by omega)
        · have q : upd (MX 44) i (nI w) j = 0 := e.1
          rwa [upd_ne _ _ ij] at q
    · rw [if_neg c, if_neg c]
      exact ⟨_, _, _, rfl, rfl, hR⟩
  · refine ⟨-1, MX, MR, ?_, ?_, hR⟩
    · unfold sOff_takeAway
      rcases hasFood_iff hF.2.2.1 hF.2.1 a1 with ⟨j, hj, rfl, e⟩ | ⟨hout, e⟩
      · rw [nI_t (by have := hF.2.1; omega)] at hin; omega
      · rw [e, some_bind, i00]
    · unfold sRef_take; rw [isFood_F hF.2.2.2.1 hF.1 hF.2.1 hin, some_bind, i00]
theorem ok_eat (N : Nat) : Ok_eat Rel N := by
  intro a1 MX MR h
  obtain ⟨r, MX1, MR1, h1, h2, h3⟩ := ok_take (fn0 := 0) 1 (by omega) (by omega) a1 MX MR h
  have h1 : sOff_takeAway a1 1 MX = some (r, MX1) := h1
  have h2 : sRef_take a1 1 MR = some (r, MR1) := h2
  exact ⟨r, MX1, MR1, by unfold sOff_eat; rw [h1]; rfl, by unfold sRef_eat; rw [h2]; rfl, h3⟩
theorem ok_throwOut (N : Nat) : Ok_throwOut Rel N := by
  intro a1 MX MR h
  obtain ⟨r, MX1, MR1, h1, h2, h3⟩ := ok_take (fn0 := 0) 2 (by omega) (by omega) a1 MX MR h
  have h1 : sOff_takeAway a1 2 MX = some (r, MX1) := h1
  have h2 : sRef_take a1 2 MR = some (r, MR1) := h2
  exact ⟨r, MX1, MR1, by unfold sOff_throwOut; rw [h1]; rfl, by unfold sRef_throwOut; rw [h2]; rfl, h3⟩
