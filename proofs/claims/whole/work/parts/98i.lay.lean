/-! PURE PART 28: fault, lay. By hand. -/
theorem RCel_R {cn : Nat} {x3 x4 r2 r6 r2' r6' : Int32} {w m o rw rm ro rw' rm' ro' : Nat → Int32} (h : RCel cn x3 x4 w m o r2 r6 rw rm ro) (e2 : r2' = r2) (e6 : r6' = r6) (e : ∀ c, c < cn → rw' c = rw c ∧ rm' c = rm c ∧ ro' c = ro c) : RCel cn x3 x4 w m o r2' r6' rw' rm' ro' := by
  obtain ⟨h1, h2, h3, h4, ⟨q, q1, q2, q3⟩, h6⟩ := h
  refine ⟨h1, h2, h3, e2.trans h4, ⟨q, q1, q2, e6.trans q3⟩, fun c hc => ?_⟩
  obtain ⟨a, b, d, b1, b2, b3, b4, y1, y2, y3, y4, y5, y6⟩ := h6 c hc
  obtain ⟨z1, z2, z3⟩ := e c hc
  exact ⟨a, b, d, b1, b2, b3, b4, y1, z1.trans y2, y3, z2.trans y4, y5, z3.trans y6⟩
theorem RFoo_R {fn : Nat} {x7 r7 r7' : Int32} {co li pr so os rco rli rpr rso rco' rli' rpr' rso' : Nat → Int32} (h : RFoo fn x7 co li pr so os r7 rco rli rpr rso) (e7 : r7' = r7) (e : ∀ i, i < fn → rco' i = rco i ∧ rli' i = rli i ∧ rpr' i = rpr i ∧ rso' i = rso i) : RFoo fn x7 co li pr so os r7' rco' rli' rpr' rso' := by
  obtain ⟨h1, h2, h3, h4, h5, h6⟩ := h
  refine ⟨h1, h2, h3, e7.trans h4, fun i hi => ?_, h6⟩
  obtain ⟨a, b, p, s, b1, b2, b3, b4, b5, y1, y2, y3, y4, y5, y6, y7, y8⟩ := h5 i hi
  obtain ⟨z1, z2, z3, z4⟩ := e i hi
  exact ⟨a, b, p, s, b1, b2, b3, b4, b5, y1, z1.trans y2, y3, z2.trans y4, y5, z3.trans y6, y7, z4.trans y8⟩
theorem RBit_R {most least : Nat} {x3 r r' : Int32} {xd rd rd' : Nat → Int32} (h : RBit most least x3 xd r rd) (er : r' = r) (e : ∀ d, d < most → rd' d = rd d) : RBit most least x3 xd r' rd' := by
  obtain ⟨dn, h1, h2, h3, h4⟩ := h
  refine ⟨dn, h1, h2, er.trans h3, fun d hd => ?_⟩
  obtain ⟨a, a1, a2, a3, a4⟩ := h4 d hd
  exact ⟨a, a1, a2, a3, (e d (by omega)).trans a4⟩
theorem RPar_R {x2 x3 x4 x7 r r' : Int32} {g w rg rw pr rg' rw' pr' : Nat → Int32} (h : RPar x2 g w x3 x4 x7 r rg rw pr) (er : r' = r) (e : ∀ j, j < 6 → rg' j = rg j ∧ rw' j = rw j) (ep : ∀ j, j < 3 → pr' j = pr j) : RPar x2 g w x3 x4 x7 r' rg' rw' pr' := by
  obtain ⟨⟨gn, h1, h2, h3, h4⟩, a, b, s, p1, p2, p3, p4, p5, p6, p7, p8, p9⟩ := h
  refine ⟨⟨gn, h1, h2, er.trans h3, fun j hj => ?_⟩, a, b, s, p1, p2, p3, p4, (ep 0 (by omega)).trans p5, p6, (ep 1 (by omega)).trans p7, p8, (ep 2 (by omega)).trans p9⟩
  obtain ⟨a, b, q1, q2, q3, q4, q5, q6⟩ := h4 j hj
  obtain ⟨z1, z2⟩ := e j (by omega)
  exact ⟨a, b, q1, q2, q3, z1.trans q4, q5, z2.trans q6⟩
theorem Rel_A {MX MR MR1 : Mm} (h : Rel MX MR) (hs : FrA MR MR1) : Rel MX MR1 := by
  obtain ⟨cn, fn, kp, hT, hC, hF, hD, hE, hP, hS, hk, hk1, hk2, hNn⟩ := h
  have hcn := hC.2.1
  have hfn := hF.2.1
  obtain ⟨a1, a2, a3⟩ := hs
  refine ⟨cn, fn, kp, ?_, RCel_R hC (a3 2 0 (show 0 < 1 by omega)) (a3 6 0 (show 0 < 1 by omega)) fun c hc => ⟨a3 3 c (show c < 6 by omega), a3 4 c (show c < 6 by omega), a3 5 c (show c < 6 by omega)⟩, RFoo_R hF (a3 7 0 (show 0 < 1 by omega)) fun i hi => ⟨a3 10 i (show i < 10 by omega), a3 11 i (show i < 10 by omega), a3 12 i (show i < 10 by omega), a3 13 i (show i < 10 by omega)⟩, RBit_R hD (a3 14 0 (show 0 < 1 by omega)) fun d hd => a3 15 d hd, RBit_R hE (a3 16 0 (show 0 < 1 by omega)) fun d hd => a3 17 d hd, RPar_R hP (a3 18 0 (show 0 < 1 by omega)) (fun j hj => ⟨a3 19 j hj, a3 20 j hj⟩) (fun j hj => a3 21 j hj), ?_, ?_, ?_, ?_, ?_⟩
  · rw [a1 0 (by omega), a2 1 (Or.inl rfl)]; exact hT
  · rw [a2 22 (by omega), a2 23 (by omega), a2 24 (by omega), a2 25 (by omega), a2 26 (by omega), a2 27 (by omega)]; exact hS
  · rw [a1 28 (by omega)]; exact hk
  · rw [a2 22 (by omega), a2 23 (by omega), a2 24 (by omega), a2 25 (by omega), a2 26 (by omega), a2 27 (by omega)]; exact hk1
  · rw [a2 22 (by omega), a2 23 (by omega), a2 24 (by omega), a2 25 (by omega), a2 26 (by omega), a2 27 (by omega)]; exact hk2
  · rw [a1 29 (by omega), a2 28 (by omega)]; exact hNn
theorem Rel_d {MX MX1 MR : Mm} (h : Rel MX MR) (hs : FrX 4 21 MX MX1) : Rel MX1 MR := by
  obtain ⟨cn, fn, kp, hT, hC, hF, hD, hE, hP, hS, hk, hk1, hk2, hNn⟩ := h
  have e : MX1 = fun r => if r = 1 then MX1 1 else if r = 3 then MX1 3 else if 4 ≤ r ∧ r ≤ 21 then MX1 r else MX r := funext fun r => by
    by_cases c1 : r = 1
    · rw [if_pos c1, c1]
    · rw [if_neg c1]
      by_cases c3 : r = 3
      · rw [if_pos c3, c3]
      · rw [if_neg c3]
        by_cases c : 4 ≤ r ∧ r ≤ 21
        · rw [if_pos c]
        · rw [if_neg c]; exact hs.1 r c1 c3 c
  have hT' : RTxt (MX1 1 1) (MX 2) (MR 0 0) (MR 1) := by rw [hs.2]; exact hT
  rw [e]
  exact ⟨cn, fn, kp, hT', hC, hF, hD, hE, hP, hS, hk, hk1, hk2, hNn⟩
theorem Rel_text {MX MR : Mm} (h : Rel MX MR) : ∃ (len : Nat) (B : Nat → Int32), TxX MX len B ∧ TxR MR len B := by
  obtain ⟨cn, fn, kp, ⟨len, t1, t2, t3, t4⟩, -⟩ := h
  refine ⟨len, fun j => if j < len then MX 2 j else 0, ⟨t1, t2, fun j hj => (if_pos hj).symm, fun j hj => if_neg (by omega)⟩, ⟨t1, t3, fun j hj => ?_, fun j hj => if_neg (by omega)⟩⟩
  show MR 1 j = if j < len then MX 2 j else 0
  rw [if_pos hj, t4 j hj]
theorem ok_fault {N : Nat} (hN : 1000 < N) : Ok_fault Rel N := by
  intro MX MR h
  obtain ⟨len, B, tx, tr⟩ := Rel_text h
  obtain ⟨v, M', MR', k1, k2, k3, k4, k5⟩ := read_d tx tr hN
  exact ⟨v, M', MR', by unfold sOff_fault; rw [k1]; rfl, by unfold sRef_fault; rw [k2]; rfl, Rel_A (Rel_d h k3) k4⟩
-- can it be laid
section CL
variable {M MR : Mm} {N cn fn : Nat} {u ro ce : Nat → Nat}
theorem canX (h5 : M 5 3 = nI cn) (hcn : cn ≤ 6) (h9 : M 9 7 = nI fn) (hfn : fn ≤ 10) (hce : ∀ i, i < fn → M 11 i = nI (ce i) ∧ ce i ≤ 1000) (hro : ∀ c, c < cn → M 8 c = nI (ro c) ∧ ro c ≤ 1000) (hN : 1000 < N) : sTold_canBeLaid_d N M = some (if 1 ≤ cn ∧ 1 ≤ fn ∧ mayN (fun g => ctb (fun i => decide (ce i = g)) fn) ro cn = 1 then 1 else 0) := by
  obtain ⟨u, hu⟩ : ∃ u : Nat → Nat, u = fun g => ctb (fun i => decide (ce i = g)) fn := ⟨_, rfl⟩
  rw [← hu]
  have hub : ∀ g, u g ≤ 10 := fun g => by rw [hu]; exact Nat.le_trans (ctb_n _ _) hfn
  have num : ∀ g, g < cn → sFoods_numberIn_d N (nI g) M = some (nI (u g)) := fun g hg => by
    rw [hu]
    unfold sFoods_numberIn_d
    generalize hp : (fun i => decide (ce i = g)) = p
    refine itr_b (fun i => (nI (ctb p i), nI i)) fn (r := nI (ctb p fn)) rfl (fun i hi => ?_) ?_ (by omega) (by rw [← hp])
    · show LFoods_numberIn_d_4_11 N (nI g) M (nI (ctb p i)) (nI i) = some (.inl (nI (ctb p (i + 1)), nI (i + 1)))
      obtain ⟨c1, c2⟩ := hce i hi
      have pi : p i = decide (ce i = g) := by rw [← hp]
      unfold LFoods_numberIn_d_4_11
      rw [h9, if_neg (by rw [nIle (by omega) (by omega)]; omega), atf_n (by omega) (by omega), c1]
      by_cases c : ce i = g
      · rw [if_pos (by rw [c]), ltI_u, ltI_u, nI_s, nI_s, ctb_T (by rw [pi]; exact decide_eq_true c)]
      · rw [if_neg (show ¬ nI (ce i) = nI g by rw [nIeq (by omega) (by omega)]; exact c), ltI_u, nI_s, ctb_F (by rw [pi]; simp [c])]
    · show LFoods_numberIn_d_4_11 N (nI g) M (nI (ctb p fn)) (nI fn) = _
      unfold LFoods_numberIn_d_4_11
      rw [h9, if_pos (by rw [nIle (by omega) (by omega)]; omega)]
  have go : ∀ dd g, g + dd = cn → (∀ g', g' < g → u g' ≤ ro g') → ∀ G, dd < G → itr (fun z : Int32 => LTold_canBeLaid_d_2_8 N M z) G (nI g) = some (if mayN u ro cn = 1 then .inr () else .inl ()) := by
    intro dd
    induction dd with
    | zero =>
      intro g hg hall G hG
      obtain ⟨G, rfl⟩ : ∃ m, G = m + 1 := ⟨G - 1, by omega⟩
      obtain rfl : g = cn := by omega
      have hm : mayN u ro g = 1 := by
        rcases mayN_e u ro g with ⟨h1, -⟩ | ⟨-, h2⟩
        · exact h1
        · exact absurd hall h2
      unfold itr
      have : LTold_canBeLaid_d_2_8 N M (nI g) = some (.inr (.inr ())) := by
        unfold LTold_canBeLaid_d_2_8
        rw [h5, if_pos (by rw [nIle (by omega) (by omega)]; omega)]
      rw [this, if_pos hm]
      rfl
    | succ dd ih =>
      intro g hg hall G hG
      obtain ⟨G, rfl⟩ : ∃ m, G = m + 1 := ⟨G - 1, by omega⟩
      obtain ⟨r1, r2⟩ := hro g (by omega)
      have hug := hub g
      unfold itr
      have head : LTold_canBeLaid_d_2_8 N M (nI g) = if u g ≤ ro g then some (.inl (nI (g + 1))) else some (.inr (.inl ())) := by
        unfold LTold_canBeLaid_d_2_8 sCells_roomOf_d
        rw [h5, if_neg (by rw [nIle (by omega) (by omega)]; omega), num g (by omega), some_bind, atf_n (by omega) (by omega), r1, some_bind]
        by_cases c : u g ≤ ro g
        · rw [if_pos (by rw [nIle (by omega) (by omega)]; exact c), if_pos c, ltI_u, nI_s]
        · rw [if_neg (by rw [nIle (by omega) (by omega)]; exact c), if_neg c]
      rw [head]
      by_cases c : u g ≤ ro g
      · rw [if_pos c]
        refine ih (g + 1) (by omega) (fun g' hg' => ?_) G (by omega)
        by_cases e : g' = g
        · subst e; exact c
        · exact hall g' (by omega)
      · have hm : ¬ mayN u ro cn = 1 := fun e => by
          rcases mayN_e u ro cn with ⟨-, h2⟩ | ⟨h1, -⟩
          · exact c (h2 g (by omega))
          · rw [h1] at e; omega
        rw [if_neg c, if_neg hm]
        rfl
  unfold sTold_canBeLaid_d
  rw [show (itr (fun z : Int32 => LTold_canBeLaid_d_2_8 N M z) N 0) = _ from go cn 0 (by omega) (fun g' hg' => absurd hg' (by omega)) N (by omega), some_bind]
  by_cases hm : mayN u ro cn = 1
  · rw [if_pos hm]
    show (if M 5 3 ≤ 0 then some 0 else (if M 9 7 ≤ 0 then some 0 else some 1)) = _
    rw [h5, h9]
    by_cases c1 : 1 ≤ cn
    · rw [if_neg (nI_nle (by omega) (by omega))]
      by_cases c2 : 1 ≤ fn
      · rw [if_neg (nI_nle (by omega) (by omega)), if_pos ⟨c1, c2, hm⟩]
      · rw [if_pos (show nI fn ≤ 0 by rw [show fn = 0 by omega]; decide), if_neg (fun z => c2 z.2.1)]
    · rw [if_pos (show nI cn ≤ 0 by rw [show cn = 0 by omega]; decide), if_neg (fun z => c1 z.1)]
  · rw [if_neg hm]
    show some 0 = _
    rw [if_neg (show ¬ (1 ≤ cn ∧ 1 ≤ fn ∧ mayN u ro cn = 1) from fun z => hm z.2.2)]
theorem roomyR (h2 : MR 2 1 = nI cn) (hcn : cn ≤ 6) (h7 : MR 7 1 = nI fn) (hfn : fn ≤ 10) (hce : ∀ i, i < fn → MR 9 (10 + i) = nI (ce i) ∧ ce i ≤ 1000) (hro : ∀ c, c < cn → MR 5 (6 + c) = nI (ro c) ∧ ro c ≤ 1000) (hN : 1000 < N) : sRef_isRoomy N MR = some (nI (mayN (fun g => ctb (fun i => decide (ce i = g)) fn) ro cn)) := by
  obtain ⟨u, hu⟩ : ∃ u : Nat → Nat, u = fun g => ctb (fun i => decide (ce i = g)) fn := ⟨_, rfl⟩
  rw [← hu]
  have hub : ∀ g, u g ≤ 10 := fun g => by rw [hu]; exact Nat.le_trans (ctb_n _ _) hfn
  have num : ∀ g, g < cn → itr (fun z : Int32 × Int32 => LRef_isRoomy_19_40 N MR (nI g) z.1 z.2) N (0, 0) = some (nI (u g)) := fun g hg => by
    rw [hu]
    generalize hp : (fun i => decide (ce i = g)) = p
    refine Eq.trans (itr_n (fun i => (nI (ctb p i), nI i)) fn (r := nI (ctb p fn)) rfl (fun i hi => ?_) ?_ (by omega)) (by rw [← hp])
    · show LRef_isRoomy_19_40 N MR (nI g) (nI (ctb p i)) (nI i) = some (.inl (nI (ctb p (i + 1)), nI (i + 1)))
      obtain ⟨c1, c2⟩ := hce i hi
      have pi : p i = decide (ce i = g) := by rw [← hp]
      unfold LRef_isRoomy_19_40
      rw [rdc_1 (by omega) (by omega), h7, if_neg (by rw [nIle (by omega) (by omega)]; omega), show (10 : Int32) + nI i = nI (10 + i) from nI_add 10 i, rdc_n (by omega) (by omega), c1]
      by_cases c : ce i = g
      · rw [if_pos (by rw [c]), ltI_u, ltI_u, nI_s, nI_s, ctb_T (by rw [pi]; exact decide_eq_true c)]
      · rw [if_neg (show ¬ nI (ce i) = nI g by rw [nIeq (by omega) (by omega)]; exact c), ltI_u, ltI_u, nI_s, add_z, ctb_F (by rw [pi]; simp [c])]
    · show LRef_isRoomy_19_40 N MR (nI g) (nI (ctb p fn)) (nI fn) = _
      unfold LRef_isRoomy_19_40
      rw [rdc_1 (by omega) (by omega), h7, if_pos (by rw [nIle (by omega) (by omega)]; omega)]
  have may01 : ∀ g, mayN u ro g = 0 ∨ mayN u ro g = 1 := fun g => by
    rcases mayN_e u ro g with ⟨h1, -⟩ | ⟨h1, -⟩
    · exact Or.inr h1
    · exact Or.inl h1
  have hmay : itr (fun y : Int32 × Int32 => LRef_isRoomy_4_47 N MR y.1 y.2) N (1, 0) = some (nI (mayN u ro cn)) := by
    refine itr_n (fun g => (nI (mayN u ro g), nI g)) cn rfl (fun g hg => ?_) ?_ (by omega)
    · show LRef_isRoomy_4_47 N MR (nI (mayN u ro g)) (nI g) = some (.inl (nI (mayN u ro (g + 1)), nI (g + 1)))
      obtain ⟨r1, r2⟩ := hro g hg
      have := hub g
      unfold LRef_isRoomy_4_47
      rw [rdc_1 (by omega) (by omega), h2, if_neg (by rw [nIle (by omega) (by omega)]; omega), num g hg, some_bind, mayN_s]
      rcases may01 g with h | h
      · rw [h, if_pos (show nI 0 = 0 from rfl), if_pos rfl, ltI_u, nI_s]; rfl
      · rw [h, if_neg (show ¬ nI 1 = 0 by decide), if_neg (by omega), show (6 : Int32) + nI g = nI (6 + g) from nI_add 6 g, rdc_n (by omega) (by omega), r1]
        by_cases cd : ro g < u g
        · rw [if_pos (by rw [nIlt (by omega) (by omega)]; exact cd), if_pos cd, ltI_u, nI_s]; rfl
        · rw [if_neg (by rw [nIlt (by omega) (by omega)]; exact cd), if_neg cd, ltI_u, nI_s]; rfl
    · show LRef_isRoomy_4_47 N MR (nI (mayN u ro cn)) (nI cn) = _
      unfold LRef_isRoomy_4_47
      rw [rdc_1 (by omega) (by omega), h2, if_pos (by rw [nIle (by omega) (by omega)]; omega)]
  unfold sRef_isRoomy
  rw [hmay, some_bind]
  unfold zck
  rw [if_pos]
  rcases may01 cn with h | h
  · rw [h]; exact Or.inl rfl
  · rw [h]; exact Or.inr rfl
-- what lay puts
theorem startX (h27 : M 27 7 = nI fn) (hf : fn ≤ 10) (hN : 1000 < N) : ∃ M', sStock_start N M = some M' ∧ (∀ r, r ≠ 40 → ¬ (41 ≤ r ∧ r ≤ 45) → M' r = M r) ∧ M' 40 5 = nI fn ∧ M' 40 6 = 0 ∧ ∀ i, i < fn → M' 41 i = M 28 i ∧ M' 42 i = M 29 i ∧ M' 43 i = 0 ∧ M' 44 i = 0 ∧ M' 45 i = 0 := by
  obtain ⟨M0, hM0⟩ : ∃ M0, M0 = mset (mset M 40 5 (nI fn)) 40 6 0 := ⟨_, rfl⟩
  have g0 : ∀ r, r ≠ 40 → M0 r = M r := fun r hr => by rw [hM0, mset_ne _ _ _ hr, mset_ne _ _ _ hr]
  have g5 : M0 40 5 = nI fn := by rw [hM0, mset_eq, upd_ne _ _ (by omega), mset_eq, upd_eq]
  have g6 : M0 40 6 = 0 := by rw [hM0, mset_eq, upd_eq]
  obtain ⟨M', p1, p2, p3⟩ := itr_i (f := fun z : Int32 × Mm => LStock_start_15_21 N z.1 z.2)
    (fun i s => ∃ m, s = (nI i, m) ∧ (∀ r, ¬ (41 ≤ r ∧ r ≤ 45) → m r = M0 r) ∧ ∀ j, j < i → m 41 j = M 28 j ∧ m 42 j = M 29 j ∧ m 43 j = 0 ∧ m 44 j = 0 ∧ m 45 j = 0)
    (fun m => (∀ r, ¬ (41 ≤ r ∧ r ≤ 45) → m r = M0 r) ∧ ∀ j, j < fn → m 41 j = M 28 j ∧ m 42 j = M 29 j ∧ m 43 j = 0 ∧ m 44 j = 0 ∧ m 45 j = 0) fn (s := (0, M0)) (N := N)
    ⟨M0, rfl, fun _ _ => rfl, fun j hj => absurd hj (by omega)⟩ (fun i s hi hP => by
      obtain ⟨m, rfl, y1, y2⟩ := hP
      refine ⟨(nI (i + 1), mset (mset (mset (mset (mset m 41 i (M 28 i)) 42 i (M 29 i)) 43 i 0) 44 i 0) 45 i 0), ?_, _, rfl, fun r hr => ?_, fun j hj => ?_⟩
      · show LStock_start_15_21 N (nI i) m = _
        unfold LStock_start_15_21 sFoods_kindOf_l sFoods_cellOf_l
        rw [y1 40 (by omega), g5, if_neg (by rw [nIle (by omega) (by omega)]; omega), atf_n (by omega) (by omega), some_bind, putf_n (by omega) (by omega), ltM_u, atf_n (by omega) (by omega), some_bind, putf_n (by omega) (by omega), ltM_u, putf_n (by omega) (by omega), ltM_u, putf_n (by omega) (by omega), ltM_u, putf_n (by omega) (by omega), ltM_u, ltI_u, nI_s, y1 28 (by omega), g0 28 (by omega), mset_ne _ _ _ (show (29 : Nat) ≠ 41 by omega), y1 29 (by omega), g0 29 (by omega)]
      · rw [mset_ne _ _ _ (by omega), mset_ne _ _ _ (by omega), mset_ne _ _ _ (by omega), mset_ne _ _ _ (by omega), mset_ne _ _ _ (by omega)]
        exact y1 r hr
      · show upd (m 41) i (M 28 i) j = M 28 j ∧ upd (m 42) i (M 29 i) j = M 29 j ∧ upd (m 43) i 0 j = 0 ∧ upd (m 44) i 0 j = 0 ∧ upd (m 45) i 0 j = 0
        by_cases e : j = i
        · subst e
          exact ⟨upd_eq _ _ _, upd_eq _ _ _, upd_eq _ _ _, upd_eq _ _ _, upd_eq _ _ _⟩
        · rw [upd_ne _ _ e, upd_ne _ _ e, upd_ne _ _ e, upd_ne _ _ e, upd_ne _ _ e]
          exact y2 j (by omega)) (fun s hP => by
      obtain ⟨m, rfl, y1, y2⟩ := hP
      refine ⟨m, ?_, y1, y2⟩
      show LStock_start_15_21 N (nI fn) m = _
      unfold LStock_start_15_21
      rw [y1 40 (by omega), g5, if_pos (by rw [nIle (by omega) (by omega)]; omega)]) (by omega)
  refine ⟨M', ?_, fun r h1 h2 => (p2 r h2).trans (g0 r h1), by rw [p2 40 (by omega)]; exact g5, by rw [p2 40 (by omega)]; exact g6, p3⟩
  unfold sStock_start
  rw [h27, ltM_u, ltM_u, ← hM0, p1, some_bind]
theorem layFrR (h7 : M 7 0 = nI fn) (hf : fn ≤ 10) (hN : 1000 < N) : ∃ M', sRef_layFridge N M = some M' ∧ (∀ r, r ≠ 0 → ¬ (22 ≤ r ∧ r ≤ 27) → M' r = M r) ∧ (∀ j, j ≠ 28 → j ≠ 29 → M' 0 j = M 0 j) ∧ M' 0 28 = 0 ∧ M' 0 29 = 0 ∧ M' 27 0 = 0 ∧ ∀ i, i < fn → M' 22 i = M 8 i ∧ M' 23 i = M 9 i ∧ M' 24 i = 0 ∧ M' 25 i = 0 ∧ M' 26 i = 0 := by
  obtain ⟨M1, p1, p2, p3⟩ := itr_i (f := fun z : Int32 × Mm => LRef_layFridge_2_27 N z.1 z.2)
    (fun i s => ∃ m, s = (nI i, m) ∧ (∀ r, ¬ (22 ≤ r ∧ r ≤ 26) → m r = M r) ∧ ∀ j, j < i → m 22 j = M 8 j ∧ m 23 j = M 9 j ∧ m 24 j = 0 ∧ m 25 j = (if j < fn then 0 else 2) ∧ m 26 j = 0)
    (fun m => (∀ r, ¬ (22 ≤ r ∧ r ≤ 26) → m r = M r) ∧ ∀ j, j < 10 → m 22 j = M 8 j ∧ m 23 j = M 9 j ∧ m 24 j = 0 ∧ m 25 j = (if j < fn then 0 else 2) ∧ m 26 j = 0) 10 (s := (0, M)) (N := N)
    ⟨M, rfl, fun _ _ => rfl, fun j hj => absurd hj (by omega)⟩ (fun i s hi hP => by
      obtain ⟨m, rfl, y1, y2⟩ := hP
      refine ⟨(nI (i + 1), mset (mset (mset (mset (mset m 22 i (M 8 i)) 23 i (M 9 i)) 24 i 0) 25 i (if i < fn then 0 else 2)) 26 i 0), ?_, _, rfl, fun r hr => ?_, fun j hj => ?_⟩
      · show LRef_layFridge_2_27 N (nI i) m = _
        unfold LRef_layFridge_2_27
        rw [if_neg (show ¬ (10 : Int32) ≤ nI i from by rw [show (10 : Int32) = nI 10 from rfl, nIle (by omega) (by omega)]; omega), rdc_n (by omega) (by omega), inc_n (by omega) (by omega), ltM_u, cl_n (by omega), rdc_n (by omega) (by omega), inc_n (by omega) (by omega), ltM_u, inc_n (by omega) (by omega), ltM_u, rdc_0 (by omega) (by omega), mset_ne _ _ _ (show (7 : Nat) ≠ 24 by omega), mset_ne _ _ _ (show (7 : Nat) ≠ 23 by omega), mset_ne _ _ _ (show (7 : Nat) ≠ 22 by omega), y1 7 (by omega), h7, mset_ne _ _ _ (show (9 : Nat) ≠ 22 by omega), y1 8 (by omega), y1 9 (by omega)]
        by_cases c : i < fn
        · rw [if_neg (by rw [nIle (by omega) (by omega)]; omega), if_pos c, inc_n (by omega) (by omega), ltM_u, inc_n (by omega) (by omega), ltM_u, ltI_u, nI_s]
        · rw [if_pos (by rw [nIle (by omega) (by omega)]; omega), if_neg c, inc_n (by omega) (by omega), ltM_u, inc_n (by omega) (by omega), ltM_u, ltI_u, nI_s]
      · rw [mset_ne _ _ _ (by omega), mset_ne _ _ _ (by omega), mset_ne _ _ _ (by omega), mset_ne _ _ _ (by omega), mset_ne _ _ _ (by omega)]
        exact y1 r hr
      · show upd (m 22) i (M 8 i) j = M 8 j ∧ upd (m 23) i (M 9 i) j = M 9 j ∧ upd (m 24) i 0 j = 0 ∧ upd (m 25) i (if i < fn then 0 else 2) j = (if j < fn then 0 else 2) ∧ upd (m 26) i 0 j = 0
        by_cases e : j = i
        · subst e
          exact ⟨upd_eq _ _ _, upd_eq _ _ _, upd_eq _ _ _, upd_eq _ _ _, upd_eq _ _ _⟩
        · rw [upd_ne _ _ e, upd_ne _ _ e, upd_ne _ _ e, upd_ne _ _ e, upd_ne _ _ e]
          exact y2 j (by omega)) (fun s hP => by
      obtain ⟨m, rfl, y1, y2⟩ := hP
      refine ⟨m, ?_, y1, y2⟩
      show LRef_layFridge_2_27 N (nI 10) m = _
      unfold LRef_layFridge_2_27
      rw [if_pos (by decide)]) (by omega)
  refine ⟨mset (mset (mset M1 27 0 0) 0 28 0) 0 29 0, ?_, fun r h0 hr => ?_, fun j h1 h2 => ?_, ?_, ?_, ?_, fun i hi => ?_⟩
  · unfold sRef_layFridge
    rw [p1, some_bind, inc_0 (by omega) (by omega), ltM_u, ltM_u, ltM_u, cl_0]
  · rw [mset_ne _ _ _ h0, mset_ne _ _ _ h0, mset_ne _ _ _ (by omega)]
    exact p2 r (by omega)
  · rw [mset_eq, upd_ne _ _ h2, mset_eq, upd_ne _ _ h1, mset_ne _ _ _ (by omega), p2 0 (by omega)]
  · rw [mset_eq, upd_ne _ _ (by omega), mset_eq, upd_eq]
  · rw [mset_eq, upd_eq]
  · rw [mset_ne _ _ _ (by omega), mset_ne _ _ _ (by omega), mset_eq, upd_eq]
  · obtain ⟨y1, y2, y3, y4, y5⟩ := p3 i (by omega)
    rw [if_pos hi] at y4
    exact ⟨y1, y2, y3, y4, y5⟩
end CL
/-- upper halves copied into lower ones, up to place k, in the regions S (of place k those below t too) -/
def Hc (M m : Mm) (h k : Nat) (S : Nat → Prop) (t : Nat) : Prop := (∀ r, ¬ S r → m r = M r) ∧ ∀ r, S r → ∀ j, m r j = if j < (if r < t then k + 1 else k) then M r (h + j) else M r j
theorem Hc_0 (M : Mm) (h : Nat) (S : Nat → Prop) : Hc M M h 0 S 0 := ⟨fun _ _ => rfl, fun r _ j => by rw [if_neg (show ¬ r < 0 by omega), if_neg (by omega)]⟩
theorem Hc_get {M m : Mm} {h k t r : Nat} {S : Nat → Prop} (hh : Hc M m h k S t) (hr : S r) (hk : k < h) : m r (h + k) = M r (h + k) := by
  rw [hh.2 r hr, if_neg]
  split <;> omega
theorem Hc_put {M m : Mm} {h k t r : Nat} {S : Nat → Prop} (hh : Hc M m h k S t) (hr : S r) (ht : t ≤ r) (hS : ∀ r', S r' → r' < t ∨ r ≤ r') : Hc M (mset m r k (M r (h + k))) h k S (r + 1) := by
  refine ⟨fun r' h' => ?_, fun r' h' j => ?_⟩
  · by_cases e : r' = r
    · subst e; exact absurd hr h'
    · rw [mset_ne _ _ _ e]; exact hh.1 r' h'
  · by_cases e : r' = r
    · subst e
      rw [mset_eq, if_pos (show r' < r' + 1 by omega)]
      by_cases ej : j = k
      · subst ej; rw [upd_eq, if_pos (by omega)]
      · rw [upd_ne _ _ ej, hh.2 r' h', if_neg (show ¬ r' < t by omega)]
        by_cases c : j < k
        · rw [if_pos c, if_pos (by omega)]
        · rw [if_neg c, if_neg (by omega)]
    · rw [mset_ne _ _ _ e, hh.2 r' h']
      rcases hS r' h' with c | c
      · rw [if_pos c, if_pos (show r' < r + 1 by omega)]
      · rw [if_neg (show ¬ r' < t by omega), if_neg (show ¬ r' < r + 1 by omega)]
theorem Hc_end {M m : Mm} {h k t : Nat} {S : Nat → Prop} (hh : Hc M m h k S t) (hS : ∀ r, S r → r < t) : Hc M m h (k + 1) S 0 := ⟨hh.1, fun r hr j => by rw [hh.2 r hr, if_pos (hS r hr), if_neg (show ¬ r < 0 by omega)]⟩
theorem Hc_in {M m : Mm} {h k : Nat} {S : Nat → Prop} (hh : Hc M m h k S 0) {r j : Nat} (hr : S r) (hj : j < k) : m r j = M r (h + j) := by
  rw [hh.2 r hr, if_neg (show ¬ r < 0 by omega), if_pos hj]
theorem Hc_up {M m : Mm} {h k : Nat} {S : Nat → Prop} (hh : Hc M m h k S 0) {r j : Nat} (hj : k ≤ j) : m r j = M r j := by
  by_cases hr : S r
  · rw [hh.2 r hr, if_neg (show ¬ r < 0 by omega), if_neg (by omega)]
  · rw [hh.1 r hr]
section CP
variable {M : Mm} {N : Nat}
theorem cp1 (hN : 1000 < N) : ∃ M', itr (fun z : Int32 × Mm => LRef_lay_111_46 N z.1 z.2) N (0, M) = some M' ∧ Hc M M' 10 10 (fun r => 8 ≤ r ∧ r ≤ 13) 0 := by
  refine itr_i (f := fun z : Int32 × Mm => LRef_lay_111_46 N z.1 z.2) (fun i s => ∃ m, s = (nI i, m) ∧ Hc M m 10 i (fun r => 8 ≤ r ∧ r ≤ 13) 0) (fun m => Hc M m 10 10 (fun r => 8 ≤ r ∧ r ≤ 13) 0) 10 (s := (0, M)) (N := N) ⟨M, rfl, Hc_0 M 10 _⟩ (fun i s hi hP => ?_) (fun s hP => ?_) (by omega)
  · obtain ⟨m, rfl, y⟩ := hP
    have z8 := Hc_put y (r := 8) (by omega) (by omega) (fun r' h => by omega)
    have z9 := Hc_put z8 (r := 9) (by omega) (by omega) (fun r' h => by omega)
    have z10 := Hc_put z9 (r := 10) (by omega) (by omega) (fun r' h => by omega)
    have z11 := Hc_put z10 (r := 11) (by omega) (by omega) (fun r' h => by omega)
    have z12 := Hc_put z11 (r := 12) (by omega) (by omega) (fun r' h => by omega)
    have z13 := Hc_put z12 (r := 13) (by omega) (by omega) (fun r' h => by omega)
    refine ⟨(nI (i + 1), _), ?_, _, rfl, Hc_end z13 (fun r h => by omega)⟩
    show LRef_lay_111_46 N (nI i) m = _
    unfold LRef_lay_111_46
    rw [if_neg (show ¬ (10 : Int32) ≤ nI i from by rw [show (10 : Int32) = nI 10 from rfl, nIle (by omega) (by omega)]; omega), show (10 : Int32) + nI i = nI (10 + i) from nI_add 10 i, rdc_n (by omega) (by omega), inc_n (by omega) (by omega), ltM_u, cl_n (by omega), Hc_get y (r := 8) (by omega) hi, rdc_n (by omega) (by omega), inc_n (by omega) (by omega), ltM_u, Hc_get z8 (r := 9) (by omega) hi, rdc_n (by omega) (by omega), inc_n (by omega) (by omega), ltM_u, Hc_get z9 (r := 10) (by omega) hi, rdc_n (by omega) (by omega), inc_n (by omega) (by omega), ltM_u, Hc_get z10 (r := 11) (by omega) hi, rdc_n (by omega) (by omega), inc_n (by omega) (by omega), ltM_u, Hc_get z11 (r := 12) (by omega) hi, rdc_n (by omega) (by omega), inc_n (by omega) (by omega), ltM_u, Hc_get z12 (r := 13) (by omega) hi, ltI_u, nI_s]
  · obtain ⟨m, rfl, y⟩ := hP
    refine ⟨m, ?_, y⟩
    show LRef_lay_111_46 N (nI 10) m = _
    unfold LRef_lay_111_46
    rw [if_pos (by decide)]
theorem cp2 (hN : 1000 < N) : ∃ M', itr (fun z : Int32 × Mm => LRef_lay_215_72 N z.1 z.2) N (0, M) = some M' ∧ Hc M M' 6 6 (fun r => (3 ≤ r ∧ r ≤ 5) ∨ (19 ≤ r ∧ r ≤ 20)) 0 := by
  refine itr_i (f := fun z : Int32 × Mm => LRef_lay_215_72 N z.1 z.2) (fun i s => ∃ m, s = (nI i, m) ∧ Hc M m 6 i (fun r => (3 ≤ r ∧ r ≤ 5) ∨ (19 ≤ r ∧ r ≤ 20)) 0) (fun m => Hc M m 6 6 (fun r => (3 ≤ r ∧ r ≤ 5) ∨ (19 ≤ r ∧ r ≤ 20)) 0) 6 (s := (0, M)) (N := N) ⟨M, rfl, Hc_0 M 6 _⟩ (fun i s hi hP => ?_) (fun s hP => ?_) (by omega)
  · obtain ⟨m, rfl, y⟩ := hP
    have z3 := Hc_put y (r := 3) (by omega) (by omega) (fun r' h => by omega)
    have z4 := Hc_put z3 (r := 4) (by omega) (by omega) (fun r' h => by omega)
    have z5 := Hc_put z4 (r := 5) (by omega) (by omega) (fun r' h => by omega)
    have z19 := Hc_put z5 (r := 19) (by omega) (by omega) (fun r' h => by omega)
    have z20 := Hc_put z19 (r := 20) (by omega) (by omega) (fun r' h => by omega)
    refine ⟨(nI (i + 1), _), ?_, _, rfl, Hc_end z20 (fun r h => by omega)⟩
    show LRef_lay_215_72 N (nI i) m = _
    unfold LRef_lay_215_72
    rw [if_neg (show ¬ (6 : Int32) ≤ nI i from by rw [show (6 : Int32) = nI 6 from rfl, nIle (by omega) (by omega)]; omega), show (6 : Int32) + nI i = nI (6 + i) from nI_add 6 i, rdc_n (by omega) (by omega), inc_n (by omega) (by omega), ltM_u, cl_n (by omega), Hc_get y (r := 3) (by omega) hi, rdc_n (by omega) (by omega), inc_n (by omega) (by omega), ltM_u, Hc_get z3 (r := 4) (by omega) hi, rdc_n (by omega) (by omega), inc_n (by omega) (by omega), ltM_u, Hc_get z4 (r := 5) (by omega) hi, rdc_n (by omega) (by omega), inc_n (by omega) (by omega), ltM_u, Hc_get z5 (r := 19) (by omega) hi, rdc_n (by omega) (by omega), inc_n (by omega) (by omega), ltM_u, Hc_get z19 (r := 20) (by omega) hi, ltI_u, nI_s]
  · obtain ⟨m, rfl, y⟩ := hP
    refine ⟨m, ?_, y⟩
    show LRef_lay_215_72 N (nI 6) m = _
    unfold LRef_lay_215_72
    rw [if_pos (by decide)]
theorem cp3 (hN : 1000 < N) : ∃ M', itr (fun z : Int32 × Mm => LRef_lay_304_82 N z.1 z.2) N (0, M) = some M' ∧ Hc M M' 5 5 (fun r => r = 15) 0 := by
  refine itr_i (f := fun z : Int32 × Mm => LRef_lay_304_82 N z.1 z.2) (fun i s => ∃ m, s = (nI i, m) ∧ Hc M m 5 i (fun r => r = 15) 0) (fun m => Hc M m 5 5 (fun r => r = 15) 0) 5 (s := (0, M)) (N := N) ⟨M, rfl, Hc_0 M 5 _⟩ (fun i s hi hP => ?_) (fun s hP => ?_) (by omega)
  · obtain ⟨m, rfl, y⟩ := hP
    have z := Hc_put y (r := 15) rfl (by omega) (fun r' h => by omega)
    refine ⟨(nI (i + 1), _), ?_, _, rfl, Hc_end z (fun r h => by omega)⟩
    show LRef_lay_304_82 N (nI i) m = _
    unfold LRef_lay_304_82
    rw [if_neg (show ¬ (5 : Int32) ≤ nI i from by rw [show (5 : Int32) = nI 5 from rfl, nIle (by omega) (by omega)]; omega), show (5 : Int32) + nI i = nI (5 + i) from nI_add 5 i, rdc_n (by omega) (by omega), inc_n (by omega) (by omega), ltM_u, cl_n (by omega), Hc_get y (r := 15) rfl hi, ltI_u, nI_s]
  · obtain ⟨m, rfl, y⟩ := hP
    refine ⟨m, ?_, y⟩
    show LRef_lay_304_82 N (nI 5) m = _
    unfold LRef_lay_304_82
    rw [if_pos (by decide)]
theorem cp4 (hN : 1000 < N) : ∃ M', itr (fun z : Int32 × Mm => LRef_lay_331_92 N z.1 z.2) N (0, M) = some M' ∧ Hc M M' 4 4 (fun r => r = 17) 0 := by
  refine itr_i (f := fun z : Int32 × Mm => LRef_lay_331_92 N z.1 z.2) (fun i s => ∃ m, s = (nI i, m) ∧ Hc M m 4 i (fun r => r = 17) 0) (fun m => Hc M m 4 4 (fun r => r = 17) 0) 4 (s := (0, M)) (N := N) ⟨M, rfl, Hc_0 M 4 _⟩ (fun i s hi hP => ?_) (fun s hP => ?_) (by omega)
  · obtain ⟨m, rfl, y⟩ := hP
    have z := Hc_put y (r := 17) rfl (by omega) (fun r' h => by omega)
    refine ⟨(nI (i + 1), _), ?_, _, rfl, Hc_end z (fun r h => by omega)⟩
    show LRef_lay_331_92 N (nI i) m = _
    unfold LRef_lay_331_92
    rw [if_neg (show ¬ (4 : Int32) ≤ nI i from by rw [show (4 : Int32) = nI 4 from rfl, nIle (by omega) (by omega)]; omega), show (4 : Int32) + nI i = nI (4 + i) from nI_add 4 i, rdc_n (by omega) (by omega), inc_n (by omega) (by omega), ltM_u, cl_n (by omega), Hc_get y (r := 17) rfl hi, ltI_u, nI_s]
  · obtain ⟨m, rfl, y⟩ := hP
    refine ⟨m, ?_, y⟩
    show LRef_lay_331_92 N (nI 4) m = _
    unfold LRef_lay_331_92
    rw [if_pos (by decide)]
theorem cp5 (hN : 1000 < N) : ∃ M', itr (fun z : Int32 × Mm => LRef_lay_358_102 N z.1 z.2) N (0, M) = some M' ∧ Hc M M' 3 3 (fun r => r = 21) 0 := by
  refine itr_i (f := fun z : Int32 × Mm => LRef_lay_358_102 N z.1 z.2) (fun i s => ∃ m, s = (nI i, m) ∧ Hc M m 3 i (fun r => r = 21) 0) (fun m => Hc M m 3 3 (fun r => r = 21) 0) 3 (s := (0, M)) (N := N) ⟨M, rfl, Hc_0 M 3 _⟩ (fun i s hi hP => ?_) (fun s hP => ?_) (by omega)
  · obtain ⟨m, rfl, y⟩ := hP
    have z := Hc_put y (r := 21) rfl (by omega) (fun r' h => by omega)
    refine ⟨(nI (i + 1), _), ?_, _, rfl, Hc_end z (fun r h => by omega)⟩
    show LRef_lay_358_102 N (nI i) m = _
    unfold LRef_lay_358_102
    rw [if_neg (show ¬ (3 : Int32) ≤ nI i from by rw [show (3 : Int32) = nI 3 from rfl, nIle (by omega) (by omega)]; omega), show (3 : Int32) + nI i = nI (3 + i) from nI_add 3 i, rdc_n (by omega) (by omega), inc_n (by omega) (by omega), ltM_u, cl_n (by omega), Hc_get y (r := 21) rfl hi, ltI_u, nI_s]
  · obtain ⟨m, rfl, y⟩ := hP
    refine ⟨m, ?_, y⟩
    show LRef_lay_358_102 N (nI 3) m = _
    unfold LRef_lay_358_102
    rw [if_pos (by decide)]
end CP
theorem Rel_make {MX MR : Mm} {cn fn : Nat} (hT : RTxt (MX 1 1) (MX 2) (MR 0 0) (MR 1)) (hC : RCel cn (MX 23 3) (MX 23 4) (MX 24) (MX 25) (MX 26) (MR 2 0) (MR 6 0) (MR 3) (MR 4) (MR 5)) (hF : RFo0 cn fn (MX 27 7) (MX 28) (MX 29) (MX 30) (MX 31) (MX 32) (MX 33) (MX 34) (MR 7 0) (MR 8) (MR 9) (MR 10) (MR 11) (MR 12) (MR 13)) (hf1 : 1 ≤ fn) (hD : RBit 5 1 (MX 22 3) (MX 35) (MR 14 0) (MR 15)) (hE : RBit 4 0 (MX 22 5) (MX 36) (MR 16 0) (MR 17)) (hP : RPar (MX 37 2) (MX 38) (MX 39) (MX 37 3) (MX 37 4) (MX 22 7) (MR 18 0) (MR 19) (MR 20) (MR 21))
    (s5 : MX 40 5 = nI fn) (s6 : MX 40 6 = 0) (sx : ∀ i, i < fn → MX 41 i = MX 28 i ∧ MX 42 i = MX 29 i ∧ MX 43 i = 0 ∧ MX 44 i = 0 ∧ MX 45 i = 0) (r27 : MR 27 0 = 0) (sr : ∀ i, i < fn → MR 22 i = MR 8 i ∧ MR 23 i = MR 9 i ∧ MR 24 i = 0 ∧ MR 25 i = 0 ∧ MR 26 i = 0) (room : ∀ g, g < cn → ∃ d : Nat, d ≤ 10 ∧ MX 26 g = nI d ∧ ctb (fun i => decide (MX 29 i = nI g)) fn ≤ d) (k1 : MX 0 6 = 0) (k2 : MR 0 28 = 0) (n1 : MX 71 2 = 0) (n2 : MR 0 29 = 0) : Rel MX MR := by
  obtain ⟨f1, f2, f3, f4, f5⟩ := hF
  refine ⟨cn, fn, 0, hT, hC, ⟨hf1, f1, f2, f3, fun i hi => ?_, f5⟩, hD, hE, hP, ⟨s5, 0, by omega, s6, r27, fun i hi => ?_, fun g hg => ?_⟩, ⟨by omega, k1, k2⟩, fun q => absurd q (by omega), fun q => absurd q (by omega), 0, by omega, n1, n2, fun j hj => absurd hj (by omega)⟩
  · obtain ⟨k, c, a, b, p, s, q1, q2, q3, q4, q5, q6, q7, w1, w2, w3, w4, w5, w6, w7, w8, w9, w10, w11, w12⟩ := f4 i hi
    exact ⟨a, b, p, s, q3, q4, q5, q6, q7, w5, w6, w7, w8, w9, w10, w11, w12⟩
  · obtain ⟨k, c, a, b, p, s, q1, q2, q3, q4, q5, q6, q7, w1, w2, w3, w4, -⟩ := f4 i hi
    obtain ⟨x1, x2, x3, x4, x5⟩ := sx i hi
    obtain ⟨y1, y2, y3, y4, y5⟩ := sr i hi
    rw [Nat.zero_add]
    exact ⟨k, c, 0, 0, 0, q1, q2, by omega, by omega, by omega, x1.trans w1, y1.trans w2, x2.trans w3, y2.trans w4, x3, y3, x4, y4, x5, y5⟩
  · obtain ⟨d, d1, d2, d3⟩ := room g hg
    refine ⟨d, d1, d2, Nat.le_trans (ctb_le fun i hi hp => ?_) d3⟩
    have hp := of_decide_eq_true hp
    rw [← (sx i hi).2.1]
    exact decide_eq_true hp.2
theorem ok_lay {N : Nat} (hN : 1000 < N) : Ok_lay Rel N := by
  intro MX MR h
  obtain ⟨len, B, tx, tr⟩ := Rel_text h
  obtain ⟨v, M1, R1, k1, k2, k3, k4, k5⟩ := read_d tx tr hN
  have hR1 := Rel_A (Rel_d h k3) k4
  by_cases hv : v = -4
  · subst hv
    have hD := k5 rfl
    have tx1 : TxX M1 len B := ⟨tx.1, by rw [k3.2]; exact tx.2.1, by rw [k3.1 2 (by omega) (by omega) (by omega)]; exact tx.2.2.1, tx.2.2.2⟩
    have tr1 : TxR R1 len B := ⟨tr.1, by rw [k4.1 0 (by omega)]; exact tr.2.1, by rw [k4.2.1 1 (Or.inl rfl)]; exact tr.2.2.1, tr.2.2.2⟩
    obtain ⟨v2, M2, R2, j1, j2, j3, j4, j5⟩ := read_l tx1 tr hN
    rw [k2] at j2
    have j2 := Option.some.inj j2
    obtain ⟨rfl, rfl⟩ : v2 = -4 ∧ R2 = R1 := ⟨(congrArg Prod.fst j2).symm, (congrArg Prod.snd j2).symm⟩
    have hL := j5 rfl
    obtain ⟨cn, fn, hC, hF, -, -, -⟩ := hD
    obtain ⟨cn', fn', hC', hF', hBd, hBe, hP⟩ := hL
    have hcn := hC.1
    have hfn := hF.1
    have hcn' := hC'.1
    have hfn' := hF'.1
    have ecn : cn' = cn := nI_inj (by omega) (by omega) (hC'.2.2.1.symm.trans hC.2.2.1)
    have efn : fn' = fn := nI_inj (by omega) (by omega) (hF'.2.2.1.symm.trans hF.2.2.1)
    subst ecn
    subst efn
    obtain ⟨ce, hce⟩ : ∃ ce : Nat → Nat, ∀ i, i < fn' → M1 11 i = nI (ce i) ∧ R2 9 (10 + i) = nI (ce i) ∧ M2 29 i = nI (ce i) ∧ ce i ≤ 1000 := by
      refine ⟨fun i => nN (M1 11 i), fun i hi => ?_⟩
      obtain ⟨k, c, a, b, p, s, q1, q2, q3, q4, q5, q6, q7, w1, w2, w3, w4, -⟩ := hF.2.2.2.1 i hi
      obtain ⟨k', c', a', b', p', s', q1', q2', q3', q4', q5', q6', q7', w1', w2', w3', w4', -⟩ := hF'.2.2.2.1 i hi
      have e : c' = c := nI_inj (by omega) (by omega) (w4'.symm.trans w4)
      subst e
      show M1 11 i = nI (nN (M1 11 i)) ∧ R2 9 (10 + i) = nI (nN (M1 11 i)) ∧ M2 29 i = nI (nN (M1 11 i)) ∧ nN (M1 11 i) ≤ 1000
      rw [w3, nN_I (by omega)]
      exact ⟨rfl, w4, w3', by omega⟩
    obtain ⟨ro, hro⟩ : ∃ ro : Nat → Nat, ∀ c, c < cn' → M1 8 c = nI (ro c) ∧ R2 5 (6 + c) = nI (ro c) ∧ M2 26 c = nI (ro c) ∧ ro c ≤ 10 := by
      refine ⟨fun c => nN (M1 8 c), fun c hc => ?_⟩
      obtain ⟨a, b, d, b1, b2, b3, b4, y1, y2, y3, y4, y5, y6⟩ := hC.2.2.2.2 c hc
      obtain ⟨a', b', d', b1', b2', b3', b4', y1', y2', y3', y4', y5', y6'⟩ := hC'.2.2.2.2 c hc
      have e : d' = d := nI_inj (by omega) (by omega) (y6'.symm.trans y6)
      subst e
      show M1 8 c = nI (nN (M1 8 c)) ∧ R2 5 (6 + c) = nI (nN (M1 8 c)) ∧ M2 26 c = nI (nN (M1 8 c)) ∧ nN (M1 8 c) ≤ 10
      rw [y5, nN_I (by omega)]
      exact ⟨rfl, y6, y5', by omega⟩
    have eX := canX (N := N) hC.2.1 hcn hF.2.1 hfn (fun i hi => ⟨(hce i hi).1, (hce i hi).2.2.2⟩) (fun c hc => ⟨(hro c hc).1, by have := (hro c hc).2.2.2; omega⟩) hN
    have eR := roomyR (N := N) hC.2.2.1 hcn hF.2.2.1 hfn (fun i hi => ⟨(hce i hi).2.1, (hce i hi).2.2.2⟩) (fun c hc => ⟨(hro c hc).2.1, by have := (hro c hc).2.2.2; omega⟩) hN
    obtain ⟨u, hu⟩ : ∃ u : Nat → Nat, u = fun g => ctb (fun i => decide (ce i = g)) fn' := ⟨_, rfl⟩
    rw [← hu] at eX eR
    by_cases hcan : 1 ≤ cn' ∧ 1 ≤ fn' ∧ mayN u ro cn' = 1
    · rw [if_pos hcan] at eX
      obtain ⟨hc1, hf1, hm⟩ := hcan
      rw [hm] at eR
      have hroom : ∀ g, g < cn' → u g ≤ ro g := by
        rcases mayN_e u ro cn' with ⟨-, h2⟩ | ⟨h1, -⟩
        · exact h2
        · rw [h1] at hm; omega
      -- the class
      obtain ⟨M3, s1, s2, s3, s4, s5⟩ := startX hF'.2.1 hfn hN
      have eXX : sOff_lay N MX = some (nI fn', mset (mset M3 71 2 0) 0 6 0) := by
        unfold sOff_lay
        rw [k1, some_bind]
        show (if (-4 : Int32) = -4 then _ else _) = _
        rw [if_pos rfl, eX, some_bind, if_neg (show ¬ (1 : Int32) = 0 by decide), j1, some_bind]
        show ((sStock_start N M2).bind fun zM6 => ltM (mset zM6 71 2 0) fun zM7 => ltM (mset zM7 0 6 0) fun zM8 => some ((zM8 27 7), zM8)) = _
        rw [s1, some_bind, ltM_u, ltM_u, mset_ne _ _ _ (by omega), mset_ne _ _ _ (by omega), s2 27 (by omega) (by omega), hF'.2.1]
      -- the reference
      obtain ⟨Q0, hQ0⟩ : ∃ Q0, Q0 = mset (mset (mset (mset (mset (mset R2 2 0 (R2 2 1)) 6 0 (R2 6 1)) 7 0 (R2 7 1)) 14 0 (R2 14 1)) 16 0 (R2 16 1)) 18 0 (R2 18 1) := ⟨_, rfl⟩
      obtain ⟨Q1, q1, h1⟩ := cp1 (M := Q0) hN
      obtain ⟨Q2, q2, h2⟩ := cp2 (M := Q1) hN
      obtain ⟨Q3, q3, h3⟩ := cp3 (M := Q2) hN
      obtain ⟨Q4, q4, h4⟩ := cp4 (M := Q3) hN
      obtain ⟨Q5, q5, h5⟩ := cp5 (M := Q4) hN
      have g0 : ∀ r, r ≠ 2 → r ≠ 6 → r ≠ 7 → r ≠ 14 → r ≠ 16 → r ≠ 18 → Q0 r = R2 r := fun r a1 a2 a3 a4 a5 a6 => by rw [hQ0, mset_ne _ _ _ a6, mset_ne _ _ _ a5, mset_ne _ _ _ a4, mset_ne _ _ _ a3, mset_ne _ _ _ a2, mset_ne _ _ _ a1]
      have gs : ∀ r, ¬ (8 ≤ r ∧ r ≤ 13) → ¬ ((3 ≤ r ∧ r ≤ 5) ∨ (19 ≤ r ∧ r ≤ 20)) → r ≠ 15 → r ≠ 17 → r ≠ 21 → Q5 r = Q0 r := fun r a1 a2 a3 a4 a5 => by rw [h5.1 r a5, h4.1 r a4, h3.1 r a3, h2.1 r a2, h1.1 r a1]
      have e2 : Q5 2 0 = R2 2 1 := by rw [gs 2 (by omega) (by omega) (by omega) (by omega) (by omega), hQ0]; rfl
      have e6 : Q5 6 0 = R2 6 1 := by rw [gs 6 (by omega) (by omega) (by omega) (by omega) (by omega), hQ0]; rfl
      have e7 : Q5 7 0 = R2 7 1 := by rw [gs 7 (by omega) (by omega) (by omega) (by omega) (by omega), hQ0]; rfl
      have e14 : Q5 14 0 = R2 14 1 := by rw [gs 14 (by omega) (by omega) (by omega) (by omega) (by omega), hQ0]; rfl
      have e16 : Q5 16 0 = R2 16 1 := by rw [gs 16 (by omega) (by omega) (by omega) (by omega) (by omega), hQ0]; rfl
      have e18 : Q5 18 0 = R2 18 1 := by rw [gs 18 (by omega) (by omega) (by omega) (by omega) (by omega), hQ0]; rfl
      have ea : ∀ r j, 8 ≤ r ∧ r ≤ 13 → j < 10 → Q5 r j = R2 r (10 + j) := fun r j hr hj => by
        rw [h5.1 r (by omega), h4.1 r (by omega), h3.1 r (by omega), h2.1 r (by omega), Hc_in h1 hr hj, g0 r (by omega) (by omega) (by omega) (by omega) (by omega) (by omega)]
      have eb : ∀ r j, ((3 ≤ r ∧ r ≤ 5) ∨ (19 ≤ r ∧ r ≤ 20)) → j < 6 → Q5 r j = R2 r (6 + j) := fun r j hr hj => by
        rw [h5.1 r (by omega), h4.1 r (by omega), h3.1 r (by omega), Hc_in h2 hr hj, h1.1 r (by omega), g0 r (by omega) (by omega) (by omega) (by omega) (by omega) (by omega)]
      have e15 : ∀ j, j < 5 → Q5 15 j = R2 15 (5 + j) := fun j hj => by
        rw [h5.1 15 (by omega), h4.1 15 (by omega), Hc_in h3 rfl hj, h2.1 15 (by omega), h1.1 15 (by omega), g0 15 (by omega) (by omega) (by omega) (by omega) (by omega) (by omega)]
      have e17 : ∀ j, j < 4 → Q5 17 j = R2 17 (4 + j) := fun j hj => by
        rw [h5.1 17 (by omega), Hc_in h4 rfl hj, h3.1 17 (by omega), h2.1 17 (by omega), h1.1 17 (by omega), g0 17 (by omega) (by omega) (by omega) (by omega) (by omega) (by omega)]
      have e21 : ∀ j, j < 3 → Q5 21 j = R2 21 (3 + j) := fun j hj => by
        rw [Hc_in h5 rfl hj, h4.1 21 (by omega), h3.1 21 (by omega), h2.1 21 (by omega), h1.1 21 (by omega), g0 21 (by omega) (by omega) (by omega) (by omega) (by omega) (by omega)]
      obtain ⟨Q6, t1, t2, t3, t4, t5, t6, t7⟩ := layFrR (M := Q5) (e7.trans hF.2.2.1) hfn hN
      have eRR : sRef_lay N MR = some (nI fn', Q6) := by
        unfold sRef_lay
        rw [k2, some_bind]
        show (if (-4 : Int32) = -4 then _ else _) = _
        rw [if_pos rfl, rdc_1 (by omega) (by omega), hC.2.2.1, if_neg (nI_ne0 (by omega) (by omega)), rdc_1 (by omega) (by omega), hF.2.2.1, if_neg (nI_ne0 (by omega) (by omega)), eR, some_bind, if_neg (show ¬ nI 1 = 0 by decide), rdc_1 (by omega) (by omega), inc_0 (by omega) (by omega), ltM_u, rdc_1 (by omega) (by omega), inc_0 (by omega) (by omega), ltM_u, rdc_1 (by omega) (by omega), inc_0 (by omega) (by omega), ltM_u, rdc_1 (by omega) (by omega), inc_0 (by omega) (by omega), ltM_u, rdc_1 (by omega) (by omega), inc_0 (by omega) (by omega), ltM_u, rdc_1 (by omega) (by omega), inc_0 (by omega) (by omega), ltM_u]
        show (itr (fun z : Int32 × Mm => LRef_lay_111_46 N z.1 z.2) N (0, mset (mset (mset (mset (mset (mset R2 2 0 (R2 2 1)) 6 0 (R2 6 1)) 7 0 (R2 7 1)) 14 0 (R2 14 1)) 16 0 (R2 16 1)) 18 0 (R2 18 1))).bind _ = _
        rw [← hQ0, q1, some_bind, q2, some_bind, q3, some_bind, q4, some_bind, q5, some_bind, t1, some_bind, rdc_0 (by omega) (by omega), t2 7 (by omega) (by omega), e7, hF.2.2.1]
      refine ⟨nI fn', mset (mset M3 71 2 0) 0 6 0, Q6, eXX, eRR, ?_⟩
      obtain ⟨Mf, hMf⟩ : ∃ Mf, Mf = mset (mset M3 71 2 0) 0 6 0 := ⟨_, rfl⟩
      have m2 : ∀ r, r ≠ 0 → r ≠ 71 → r ≠ 40 → ¬ (41 ≤ r ∧ r ≤ 45) → Mf r = M2 r := fun r a1 a2 a3 a4 => by rw [hMf, mset_ne _ _ _ a1, mset_ne _ _ _ a2, s2 r a3 a4]
      have m3 : ∀ r, r ≠ 0 → r ≠ 71 → Mf r = M3 r := fun r a1 a2 => by rw [hMf, mset_ne _ _ _ a1, mset_ne _ _ _ a2]
      have f6 : Mf 0 6 = 0 := by rw [hMf, mset_eq, upd_eq]
      have f71 : Mf 71 2 = 0 := by rw [hMf, mset_ne _ _ _ (by omega), mset_eq, upd_eq]
      rw [← hMf]
      have hf10 : fn' ≤ 10 := hfn
      refine Rel_make (cn := cn') (fn := fn') ?_ ?_ ?_ hf1 ?_ ?_ ?_ ?_ ?_ (fun i hi => ?_) t6 (fun i hi => ?_) (fun g hg => ?_) f6 t4 f71 t5
      · refine ⟨len, tx.1, ?_, ?_, fun j hj => ?_⟩
        · rw [m2 1 (by omega) (by omega) (by omega) (by omega), j3.2]; exact tx1.2.1
        · rw [t3 0 (by omega) (by omega), gs 0 (by omega) (by omega) (by omega) (by omega) (by omega), g0 0 (by omega) (by omega) (by omega) (by omega) (by omega) (by omega)]; exact tr1.2.1
        · rw [m2 2 (by omega) (by omega) (by omega) (by omega), j3.1 2 (by omega) (by omega) (by omega), t2 1 (by omega) (by omega), gs 1 (by omega) (by omega) (by omega) (by omega) (by omega), g0 1 (by omega) (by omega) (by omega) (by omega) (by omega) (by omega), tx1.2.2.1 j hj, tr1.2.2.1 j hj]
      · rw [m2 23 (by omega) (by omega) (by omega) (by omega), m2 24 (by omega) (by omega) (by omega) (by omega), m2 25 (by omega) (by omega) (by omega) (by omega), m2 26 (by omega) (by omega) (by omega) (by omega), t2 2 (by omega) (by omega), t2 6 (by omega) (by omega), t2 3 (by omega) (by omega), t2 4 (by omega) (by omega), t2 5 (by omega) (by omega)]
        exact RCel_R (⟨hc1, hC'⟩ : RCel cn' (M2 23 3) (M2 23 4) (M2 24) (M2 25) (M2 26) (R2 2 1) (R2 6 1) (fun c => R2 3 (6 + c)) (fun c => R2 4 (6 + c)) (fun c => R2 5 (6 + c))) e2 e6 fun c hc => ⟨eb 3 c (by omega) (by omega), eb 4 c (by omega) (by omega), eb 5 c (by omega) (by omega)⟩
      · rw [m2 27 (by omega) (by omega) (by omega) (by omega), m2 28 (by omega) (by omega) (by omega) (by omega), m2 29 (by omega) (by omega) (by omega) (by omega), m2 30 (by omega) (by omega) (by omega) (by omega), m2 31 (by omega) (by omega) (by omega) (by omega), m2 32 (by omega) (by omega) (by omega) (by omega), m2 33 (by omega) (by omega) (by omega) (by omega), m2 34 (by omega) (by omega) (by omega) (by omega), t2 7 (by omega) (by omega), t2 8 (by omega) (by omega), t2 9 (by omega) (by omega), t2 10 (by omega) (by omega), t2 11 (by omega) (by omega), t2 12 (by omega) (by omega), t2 13 (by omega) (by omega)]
        obtain ⟨f1, f2, f3, f4, f5⟩ := hF'
        refine ⟨f1, f2, e7.trans f3, fun i hi => ?_, f5⟩
        obtain ⟨k, c, a, b, p, s, q1, q2, q3, q4, q5, q6, q7, w1, w2, w3, w4, w5, w6, w7, w8, w9, w10, w11, w12⟩ := f4 i hi
        exact ⟨k, c, a, b, p, s, q1, q2, q3, q4, q5, q6, q7, w1, (ea 8 i (by omega) (by omega)).trans w2, w3, (ea 9 i (by omega) (by omega)).trans w4, w5, (ea 10 i (by omega) (by omega)).trans w6, w7, (ea 11 i (by omega) (by omega)).trans w8, w9, (ea 12 i (by omega) (by omega)).trans w10, w11, (ea 13 i (by omega) (by omega)).trans w12⟩
      · rw [m2 22 (by omega) (by omega) (by omega) (by omega), m2 35 (by omega) (by omega) (by omega) (by omega), t2 14 (by omega) (by omega), t2 15 (by omega) (by omega)]
        exact RBit_R hBd e14 fun d hd => e15 d hd
      · rw [m2 22 (by omega) (by omega) (by omega) (by omega), m2 36 (by omega) (by omega) (by omega) (by omega), t2 16 (by omega) (by omega), t2 17 (by omega) (by omega)]
        exact RBit_R hBe e16 fun d hd => e17 d hd
      · rw [m2 22 (by omega) (by omega) (by omega) (by omega), m2 37 (by omega) (by omega) (by omega) (by omega), m2 38 (by omega) (by omega) (by omega) (by omega), m2 39 (by omega) (by omega) (by omega) (by omega), t2 18 (by omega) (by omega), t2 19 (by omega) (by omega), t2 20 (by omega) (by omega), t2 21 (by omega) (by omega)]
        exact RPar_R hP e18 (fun j hj => ⟨eb 19 j (by omega) hj, eb 20 j (by omega) hj⟩) (fun j hj => e21 j hj)
      · rw [m3 40 (by omega) (by omega)]; exact s3
      · rw [m3 40 (by omega) (by omega)]; exact s4
      · rw [m3 41 (by omega) (by omega), m3 42 (by omega) (by omega), m3 43 (by omega) (by omega), m3 44 (by omega) (by omega), m3 45 (by omega) (by omega), m2 28 (by omega) (by omega) (by omega) (by omega), m2 29 (by omega) (by omega) (by omega) (by omega)]
        exact s5 i hi
      · rw [t2 8 (by omega) (by omega), t2 9 (by omega) (by omega)]
        exact t7 i hi
      · obtain ⟨o1, o2, o3, o4⟩ := hro g hg
        refine ⟨ro g, o4, by rw [m2 26 (by omega) (by omega) (by omega) (by omega)]; exact o3, Nat.le_trans (Nat.le_of_eq ?_) (hroom g hg)⟩
        rw [hu]
        refine ctb_congr fun i hi => ?_
        obtain ⟨p1, p2, p3, p4⟩ := hce i hi
        rw [m2 29 (by omega) (by omega) (by omega) (by omega), p3]
        simp only [nIeq (show ce i ≤ 1000000 by omega) (show g ≤ 1000000 by omega)]
    · rw [if_neg hcan] at eX
      refine ⟨-2, M1, R2, ?_, ?_, hR1⟩
      · unfold sOff_lay
        rw [k1, some_bind]
        show (if (-4 : Int32) = -4 then _ else _) = _
        rw [if_pos rfl, eX, some_bind, if_pos rfl]
      · unfold sRef_lay
        rw [k2, some_bind]
        show (if (-4 : Int32) = -4 then _ else _) = _
        rw [if_pos rfl, rdc_1 (by omega) (by omega), hC.2.2.1]
        by_cases c1 : 1 ≤ cn'
        · rw [if_neg (nI_ne0 (by omega) (by omega)), rdc_1 (by omega) (by omega), hF.2.2.1]
          by_cases c2 : 1 ≤ fn'
          · have hm : mayN u ro cn' = 0 := by
              rcases mayN_e u ro cn' with ⟨h1, -⟩ | ⟨h1, -⟩
              · exact absurd ⟨c1, c2, h1⟩ hcan
              · exact h1
            rw [if_neg (nI_ne0 (by omega) (by omega)), eR, some_bind, hm, if_pos (show nI 0 = 0 from rfl)]
          · rw [if_pos (show nI fn' = 0 by rw [show fn' = 0 by omega]; rfl)]
        · rw [if_pos (show nI cn' = 0 by rw [show cn' = 0 by omega]; rfl)]
  · refine ⟨-2, M1, R1, ?_, ?_, hR1⟩
    · unfold sOff_lay
      rw [k1, some_bind]
      exact if_neg hv
    · unfold sRef_lay
      rw [k2, some_bind]
      exact if_neg hv
