/-! PURE PART 10: count, write, move. By hand. -/
theorem ok_count {N : Nat} (hN : 1000 < N) : Ok_count Rel N := by
  intro a1 MX MR h
  have hR := h
  obtain ⟨cn, fn, kp, hT, hC, hF, hD, hE, hP, hS, hk, hk1, hk2, hNn⟩ := h
  obtain ⟨len, -, t1, t2, -⟩ := hT
  obtain ⟨dn, -, d1, d2, -⟩ := hD
  obtain ⟨en, -, g1, g2, -⟩ := hE
  obtain ⟨⟨gn, -, p1, p2, -⟩, -⟩ := hP
  obtain ⟨sn, -, s1, s2, -⟩ := hNn
  have hx := thereX hS.1 hF.2.1 hN
  have hr := thereR hF.2.2.2.1 hF.2.1 hN
  rw [there_eq hS] at hr
  have e : sRef_count N a1 MR = sOff_count N a1 MX := by
    unfold sRef_count sOff_count
    rw [hx, hr, rdc_0 (by omega) (by omega), rdc_0 (by omega) (by omega), rdc_0 (by omega) (by omega), rdc_0 (by omega) (by omega), rdc_0 (by omega) (by omega), rdc_0 (by omega) (by omega), hF.2.2.1, hF.2.2.2.1, hC.2.2.1, hC.2.2.2.1, d1, d2, g1, g2, p1, p2, s1, s2, Rel_h hS, t1, t2, hk.2.1, hk.2.2]
  have e2 : ∃ r, sOff_count N a1 MX = some r := by
    unfold sOff_count
    rw [hx, some_bind]
    (repeat' split) <;> exact ⟨_, rfl⟩
  obtain ⟨r, er⟩ := e2
  exact ⟨r, er, e.trans er, hR⟩
-- loops by what stays true
theorem itr_inv {σ ρ : Type} {f : σ → Option (σ ⊕ ρ)} (P : Nat → σ → Prop) (Q : ρ → Prop) (n : Nat) (hs : ∀ i s, i < n → P i s → ∃ s', f s = some (.inl s') ∧ P (i + 1) s') (he : ∀ s, P n s → ∃ r, f s = some (.inr r) ∧ Q r) : ∀ (d : Nat), d ≤ n → ∀ s, P (n - d) s → ∀ N, d < N → ∃ r, itr f N s = some r ∧ Q r
  | 0, _, s, h0, N, hN => by
    obtain ⟨N, rfl⟩ : ∃ m, N = m + 1 := ⟨N - 1, by omega⟩
    obtain ⟨r, e, q⟩ := he s h0
    refine ⟨r, ?_, q⟩
    unfold itr
    rw [e]
    rfl
  | d + 1, hd, s, h0, N, hN => by
    obtain ⟨N, rfl⟩ : ∃ m, N = m + 1 := ⟨N - 1, by omega⟩
    obtain ⟨s', e, q⟩ := hs _ s (by omega) h0
    rw [show n - (d + 1) + 1 = n - d by omega] at q
    obtain ⟨r, e2, q2⟩ := itr_inv P Q n hs he d (by omega) s' q N (by omega)
    refine ⟨r, ?_, q2⟩
    unfold itr
    rw [e]
    exact e2
theorem itr_i {σ ρ : Type} {f : σ → Option (σ ⊕ ρ)} (P : Nat → σ → Prop) (Q : ρ → Prop) (n : Nat) {s : σ} (h0 : P 0 s) (hs : ∀ i s, i < n → P i s → ∃ s', f s = some (.inl s') ∧ P (i + 1) s') (he : ∀ s, P n s → ∃ r, f s = some (.inr r) ∧ Q r) {N : Nat} (hN : n < N) : ∃ r, itr f N s = some r ∧ Q r :=
  itr_inv P Q n hs he n (Nat.le_refl n) s (by rw [Nat.sub_self]; exact h0) N hN
theorem itr_two {σ ρ τ υ : Type} {f : σ → Option (σ ⊕ ρ)} {g : τ → Option (τ ⊕ υ)} (P : Nat → σ → τ → Prop) (Q : ρ → υ → Prop) (n : Nat) (hs : ∀ i s t, i < n → P i s t → ∃ s' t', f s = some (.inl s') ∧ g t = some (.inl t') ∧ P (i + 1) s' t') (he : ∀ s t, P n s t → ∃ r q, f s = some (.inr r) ∧ g t = some (.inr q) ∧ Q r q) : ∀ (d : Nat), d ≤ n → ∀ s t, P (n - d) s t → ∀ N, d < N → ∃ r q, itr f N s = some r ∧ itr g N t = some q ∧ Q r q
  | 0, _, s, t, h0, N, hN => by
    obtain ⟨N, rfl⟩ : ∃ m, N = m + 1 := ⟨N - 1, by omega⟩
    obtain ⟨r, q, e, e2, h⟩ := he s t h0
    refine ⟨r, q, ?_, ?_, h⟩
    · unfold itr
      rw [e]
      rfl
    · unfold itr
      rw [e2]
      rfl
  | d + 1, hd, s, t, h0, N, hN => by
    obtain ⟨N, rfl⟩ : ∃ m, N = m + 1 := ⟨N - 1, by omega⟩
    obtain ⟨s', t', e, e2, q⟩ := hs _ s t (by omega) h0
    rw [show n - (d + 1) + 1 = n - d by omega] at q
    obtain ⟨r, u, k1, k2, k3⟩ := itr_two P Q n hs he d (by omega) s' t' q N (by omega)
    refine ⟨r, u, ?_, ?_, k3⟩
    · unfold itr
      rw [e]
      exact k1
    · unfold itr
      rw [e2]
      exact k2
theorem itr_t {σ ρ τ υ : Type} {f : σ → Option (σ ⊕ ρ)} {g : τ → Option (τ ⊕ υ)} (P : Nat → σ → τ → Prop) (Q : ρ → υ → Prop) (n : Nat) {s : σ} {t : τ} (h0 : P 0 s t) (hs : ∀ i s t, i < n → P i s t → ∃ s' t', f s = some (.inl s') ∧ g t = some (.inl t') ∧ P (i + 1) s' t') (he : ∀ s t, P n s t → ∃ r q, f s = some (.inr r) ∧ g t = some (.inr q) ∧ Q r q) {N : Nat} (hN : n < N) : ∃ r q, itr f N s = some r ∧ itr g N t = some q ∧ Q r q :=
  itr_two P Q n hs he n (Nat.le_refl n) s t (by rw [Nat.sub_self]; exact h0) N hN
-- write
theorem byteEq (x : Int64) : ∀ i : Nat, i < 8 → ((ushL x (nI (8 * i))) &&& 255) = ((shrL x (nI (8 * i))) &&& 255) := by
  have key : ∀ (y : BitVec 64) (k : Nat), k ≤ 56 → (y >>> k) &&& 255#64 = (y.sshiftRight k) &&& 255#64 := fun y k hk => by
    apply BitVec.eq_of_getLsbD_eq
    intro j hj
    rw [BitVec.getLsbD_and, BitVec.getLsbD_and, BitVec.getLsbD_ushiftRight, BitVec.getLsbD_sshiftRight]
    by_cases c : j < 8
    · simp [show ¬ 64 ≤ j by omega, show k + j < 64 by omega]
    · have : (255#64).getLsbD j = false := by
        rw [BitVec.getLsbD_ofNat]
        have : Nat.testBit 255 j = false := Nat.testBit_lt_two_pow (Nat.lt_of_lt_of_le (by decide : 255 < 2 ^ 8) (Nat.pow_le_pow_right (by omega) (by omega)))
        rw [this, Bool.and_false]
      rw [this, Bool.and_false, Bool.and_false]
  intro i hi
  apply Int64.toBitVec_inj.mp
  have e1 : ∀ i : Fin 8, (((nI (8 * i.val)).toInt64.toUInt64 &&& Int64.toUInt64 63).toBitVec.toNat % 64) = 8 * i.val := by decide +kernel
  have e2 : ∀ i : Fin 8, (((nI (8 * i.val)).toInt64 &&& 63).toBitVec.smod 64).toNat = 8 * i.val := by decide +kernel
  have f1 := e1 ⟨i, hi⟩
  have f2 := e2 ⟨i, hi⟩
  have g1 : (ushL x (nI (8 * i))).toBitVec = x.toBitVec >>> (8 * i) := by
    show (x.toUInt64 >>> ((nI (8 * i)).toInt64.toUInt64 &&& Int64.toUInt64 63)).toBitVec = _
    rw [UInt64.toBitVec_shiftRight]
    show x.toBitVec >>> (((nI (8 * i)).toInt64.toUInt64 &&& Int64.toUInt64 63).toBitVec % 64#64) = _
    rw [BitVec.ushiftRight_eq', BitVec.toNat_umod]
    show x.toBitVec >>> (((nI (8 * i)).toInt64.toUInt64 &&& Int64.toUInt64 63).toBitVec.toNat % 64) = _
    rw [f1]
  have g2 : (shrL x (nI (8 * i))).toBitVec = x.toBitVec.sshiftRight (8 * i) := by
    show (x >>> ((nI (8 * i)).toInt64 &&& 63)).toBitVec = _
    rw [Int64.toBitVec_shiftRight]
    show x.toBitVec.sshiftRight (((nI (8 * i)).toInt64 &&& 63).toBitVec.smod 64).toNat = _
    rw [f2]
  rw [Int64.toBitVec_and, Int64.toBitVec_and, g1, g2]
  exact key _ _ (by omega)
theorem in18 (a : Int32) : sRef_in (Int32.toInt64 a) 1 8 = sOff_isWithin a 1 8 := in_eq a 1 8
theorem dec_n {m : Nat} (h : 1 ≤ m) : nI m - 1 = nI (m - 1) := pk_sub h
theorem addm1 (x : Int32) : x + (-1) = x - 1 := by rw [Int32.sub_eq_add_neg]
theorem eight_n (a : Nat) : 8 * nI a = nI (8 * a) := pk_mul 8 a
theorem ok_write {N : Nat} (hN : 1000 < N) : Ok_write Rel N := by
  intro a1 a2 MX MR h
  have hR := h
  obtain ⟨cn, fn, kp, hT, hC, hF, hD, hE, hP, hS, hk, hk1, hk2, hNn⟩ := h
  obtain ⟨len, t0, t1, t2, t3⟩ := hT
  by_cases w : (1 : Int32).toInt ≤ a1.toInt ∧ a1.toInt ≤ (8 : Int32).toInt
  · have w1 : (1 : Int) ≤ a1.toInt := w.1
    have w2 : a1.toInt ≤ 8 := w.2
    obtain ⟨a, ha, rfl⟩ := nI_ofRange (n := 9) (a := a1) (by omega) (by omega) (by omega)
    rw [nI_t (by omega)] at w1
    by_cases c : len + a ≤ 400
    · have lp := itr_t (f := fun z : Int32 × Mm => LText_append_19_10 N a2 z.1 z.2) (g := fun z : Int32 × Mm => LRef_write_34_11 N a2 z.1 z.2) (N := N)
        (fun j s t => s.1 = nI (a - j) - 1 ∧ t.1 = nI (a - j) - 1 ∧ Rel s.2 t.2 ∧ s.2 1 1 = nI (len + j)) (fun r q => Rel r q ∧ r 1 1 = nI (len + a)) a (s := (nI a - 1, MX)) (t := (nI a - 1, MR)) ⟨rfl, rfl, hR, t1⟩ ?_ ?_ (by omega)
      · obtain ⟨r, q, l1, l2, l3, l4⟩ := lp
        have hh := l3
        obtain ⟨_, _, _, ⟨len', t0', t1', t2', t3'⟩, -⟩ := hh
        refine ⟨nI (len + a), r, q, ?_, ?_, l3⟩
        · unfold sOff_write sText_append
          rw [within_T w.1 w.2, some_bind, i10, t1, if_pos (by rw [show (400 : Int32) = nI 400 from rfl, pk_sub t0, nIle (by omega) (by omega)]; omega), ltI_u, l1, some_bind, some_bind]
          show (if (1 : Int32) = 0 then _ else _) = _
          rw [i10, l4]
        · unfold sRef_write
          rw [in18, within_T w.1 w.2, some_bind, i10, t2, if_pos (by rw [show (400 : Int32) = nI 400 from rfl, nI_add, nIle (by omega) (by omega)]; omega), ltI_u, l2, some_bind, t2', ← t1', l4]
      · intro j s t hj hp
        obtain ⟨z, M⟩ := s
        obtain ⟨z', M'⟩ := t
        obtain ⟨e1, e2, hr, e4⟩ := hp
        have e1 : z = nI (a - j) - 1 := e1
        have e2 : z' = nI (a - j) - 1 := e2
        have e4 : M 1 1 = nI (len + j) := e4
        have hr : Rel M M' := hr
        rw [dec_n (by omega)] at e1 e2
        subst e1
        subst e2
        obtain ⟨cn, fn, kp, hT, hC, hF, hD, hE, hP, hS, hk, hk1, hk2, hNn⟩ := hr
        obtain ⟨len', u0, u1, u2, u3⟩ := hT
        have : len' = len + j := nI_inj (by omega) (by omega) (u1.symm.trans e4)
        subst this
        have e4 : M 1 1 = nI (len + j) := e4
        have u2 : M' 0 0 = nI (len + j) := u2
        refine ⟨(nI (a - j - 1) - 1, mset (mset M 2 (len + j) (Int64.toInt32 ((shrL a2 (nI (8 * (a - j - 1)))) &&& 255))) 1 1 (nI (len + j + 1))), (nI (a - j - 1) - 1, mset (mset M' 1 (len + j) (Int64.toInt32 ((shrL a2 (nI (8 * (a - j - 1)))) &&& 255))) 0 0 (nI (len + j + 1))), ?_, ?_, ?_, ?_, ?_, ?_⟩
        · show LText_append_19_10 N a2 (nI (a - j - 1)) M = _
          unfold LText_append_19_10
          rw [if_neg (nI_pos (by omega)), e4, putf_n (by omega) (by omega), ltM_u, ltM_u, ltI_u, eight_n, byteEq a2 _ (by omega), show mset M 2 (len + j) (Int64.toInt32 (shrL a2 (nI (8 * (a - j - 1))) &&& 255)) 1 1 = nI (len + j) from e4, nI_s, addm1]
        · show LRef_write_34_11 N a2 (nI (a - j - 1)) M' = _
          unfold LRef_write_34_11
          rw [if_neg (nI_pos (by omega)), u2, inc_n (by omega) (by omega), ltM_u, ltM_u, ltI_u, eight_n, cl_n (by omega), show mset M' 1 (len + j) (Int64.toInt32 (shrL a2 (nI (8 * (a - j - 1))) &&& 255)) 0 0 = nI (len + j) from u2, nI_s, addm1]
        · show nI (a - j - 1) - 1 = nI (a - (j + 1)) - 1
          rw [show a - j - 1 = a - (j + 1) by omega]
        · show nI (a - j - 1) - 1 = nI (a - (j + 1)) - 1
          rw [show a - j - 1 = a - (j + 1) by omega]
        · refine ⟨cn, fn, kp, ⟨len + j + 1, by omega, rfl, rfl, fun i hi => ?_⟩, hC, hF, hD, hE, hP, hS, hk, hk1, hk2, hNn⟩
          show upd (M 2) (len + j) _ i = upd (M' 1) (len + j) _ i
          by_cases c : i = len + j
          · subst c; rw [upd_eq, upd_eq]
          · rw [upd_ne _ _ c, upd_ne _ _ c]; exact u3 i (by omega)
        · rfl
      · intro s t hp
        obtain ⟨z, M⟩ := s
        obtain ⟨z', M'⟩ := t
        obtain ⟨e1, e2, hr, e4⟩ := hp
        have e1 : z = nI (a - a) - 1 := e1
        have e2 : z' = nI (a - a) - 1 := e2
        rw [Nat.sub_self] at e1 e2
        subst e1
        subst e2
        refine ⟨M, M', ?_, ?_, hr, e4⟩
        · show LText_append_19_10 N a2 (nI 0 - 1) M = _
          unfold LText_append_19_10
          rw [if_pos (by decide)]
        · show LRef_write_34_11 N a2 (nI 0 - 1) M' = _
          unfold LRef_write_34_11
          rw [if_pos (by decide)]
    · refine ⟨-3, MX, MR, ?_, ?_, hR⟩
      · unfold sOff_write sText_append
        rw [within_T w.1 w.2, some_bind, i10, t1, if_neg (by rw [show (400 : Int32) = nI 400 from rfl, pk_sub t0, nIle (by omega) (by omega)]; omega)]
        rfl
      · unfold sRef_write
        rw [in18, within_T w.1 w.2, some_bind, i10, t2, if_neg (by rw [show (400 : Int32) = nI 400 from rfl, nI_add, nIle (by omega) (by omega)]; omega)]
  · exact ⟨-1, MX, MR, by unfold sOff_write; rw [within_F w]; rfl, by unfold sRef_write; rw [in18, within_F w]; rfl, hR⟩
-- move
theorem ctb_up {p p' : Nat → Bool} {i : Nat} : ∀ {n : Nat}, (∀ j, j < n → p' j = true → p j = true ∨ j = i) → ctb p' n ≤ ctb p n + 1
  | 0, _ => Nat.zero_le _
  | n + 1, h => by
    by_cases e : n = i
    · subst e
      have : ctb p' n ≤ ctb p n := ctb_le fun j hj q => (h j (by omega) q).resolve_right (by omega)
      rw [ctb_s, ctb_s]
      have h1 : (if p' n = true then 1 else 0) ≤ 1 := by split <;> omega
      omega
    · have ih := ctb_up (p := p) (p' := p') (i := i) (n := n) (fun j hj q => h j (by omega) q)
      rw [ctb_s, ctb_s]
      have h1 : (if p' n = true then 1 else 0) ≤ (if p n = true then 1 else 0) := by
        by_cases c : p' n = true
        · rw [if_pos c, if_pos ((h n (by omega) c).resolve_right e)]; exact Nat.le_refl 1
        · rw [if_neg c]; exact Nat.zero_le _
      omega
theorem numX {M : Mm} {N fn : Nat} (h5 : M 40 5 = nI fn) (hf : fn ≤ 10) (hN : 1000 < N) (c : Int32) : sStock_numberIn N c M = some (nI (ctb (fun i => decide (M 44 i = 0 ∧ M 42 i = c)) fn)) := by
  unfold sStock_numberIn
  generalize hp : (fun i => decide (M 44 i = 0 ∧ M 42 i = c)) = p
  have hpi : ∀ i, p i = decide (M 44 i = 0 ∧ M 42 i = c) := fun i => by rw [← hp]
  refine itr_b (fun i => (nI (ctb p i), nI i)) fn (r := nI (ctb p fn)) rfl ?_ ?_ (by omega) rfl
  · intro i hi
    show LStock_numberIn_4_17 N c M (nI (ctb p i)) (nI i) = some (.inl (nI (ctb p (i + 1)), nI (i + 1)))
    unfold LStock_numberIn_4_17
    rw [h5, if_neg (by rw [nIle (by omega) (by omega)]; omega), isThereX h5 hf hi, some_bind, atf_n (by omega) (by omega)]
    by_cases c1 : M 44 i = 0
    · rw [if_pos c1, i10]
      by_cases c2 : M 42 i = c
      · rw [if_pos c2, ltI_u, ltI_u, nI_s, nI_s, ctb_T (by rw [hpi]; exact decide_eq_true ⟨c1, c2⟩)]
      · rw [if_neg c2, ltI_u, nI_s, ctb_F (by rw [hpi]; exact fun q => c2 (of_decide_eq_true q).2)]
    · rw [if_neg c1, i00, ltI_u, nI_s, ctb_F (by rw [hpi]; exact fun q => c1 (of_decide_eq_true q).1)]
  · show LStock_numberIn_4_17 N c M (nI (ctb p fn)) (nI fn) = _
    unfold LStock_numberIn_4_17
    rw [h5, if_pos (by rw [nIle (by omega) (by omega)]; omega)]
theorem numR {M : Mm} {N fn : Nat} (h7 : M 7 0 = nI fn) (hf : fn ≤ 10) (hN : 1000 < N) (c : Int32) : sRef_inCell N c M = some (nI (ctb (fun i => decide (M 25 i = 0 ∧ M 23 i = c)) fn)) := by
  unfold sRef_inCell
  generalize hp : (fun i => decide (M 25 i = 0 ∧ M 23 i = c)) = p
  have hpi : ∀ i, p i = decide (M 25 i = 0 ∧ M 23 i = c) := fun i => by rw [← hp]
  refine itr_b (fun i => (nI (ctb p i), nI i)) fn (r := nI (ctb p fn)) rfl ?_ ?_ (by omega) rfl
  · intro i hi
    show LRef_inCell_4_23 N c M (nI (ctb p i)) (nI i) = some (.inl (nI (ctb p (i + 1)), nI (i + 1)))
    unfold LRef_inCell_4_23
    rw [rdc_0 (by omega) (by omega), h7, if_neg (by rw [nIle (by omega) (by omega)]; omega), rdc_n (by omega) (by omega)]
    by_cases c1 : M 25 i = 0
    · rw [if_pos c1, rdc_n (by omega) (by omega)]
      by_cases c2 : M 23 i = c
      · rw [if_pos c2, ltI_u, ltI_u, nI_s, nI_s, ctb_T (by rw [hpi]; exact decide_eq_true ⟨c1, c2⟩)]
      · rw [if_neg c2, ltI_u, ltI_u, nI_s, add_z, ctb_F (by rw [hpi]; exact fun q => c2 (of_decide_eq_true q).2)]
    · rw [if_neg c1, ltI_u, ltI_u, nI_s, add_z, ctb_F (by rw [hpi]; exact fun q => c1 (of_decide_eq_true q).1)]
  · show LRef_inCell_4_23 N c M (nI (ctb p fn)) (nI fn) = _
    unfold LRef_inCell_4_23
    rw [rdc_0 (by omega) (by omega), h7, if_pos (by rw [nIle (by omega) (by omega)]; omega)]
theorem num_eq {MX MR : Mm} {cn fn : Nat} (hS : RStk cn fn (MX 26) (MX 40 5) (MX 40 6) (MX 41) (MX 42) (MX 43) (MX 44) (MX 45) 0 (MR 27 0) (MR 22) (MR 23) (MR 24) (MR 25) (MR 26)) (c : Int32) : ctb (fun i => decide (MR 25 i = 0 ∧ MR 23 i = c)) fn = ctb (fun i => decide (MX 44 i = 0 ∧ MX 42 i = c)) fn := by
  refine ctb_congr fun i hi => ?_
  obtain ⟨-, e2, -, e4, -⟩ := Rel_stk hS hi
  rw [Nat.zero_add] at e2 e4
  rw [e2, e4]
theorem ok_move {N : Nat} (hN : 1000 < N) : Ok_move Rel N := by
  intro a1 a2 MX MR h
  have hR := h
  obtain ⟨cn, fn, kp, hT, hC, hF, hD, hE, hP, hS, hk, hk1, hk2, hNn⟩ := h
  have hf10 := hF.2.1
  have hx7 := hF.2.2.1
  have hr7 := hF.2.2.2.1
  have hc6 := hC.2.1
  by_cases hin : 0 ≤ a1.toInt ∧ a1.toInt < fn
  · obtain ⟨i, hi, rfl⟩ := nI_ofRange hin.1 hin.2 (by omega)
    have e : sFridge_hasFood (nI i) MX = some 1 := by
      rcases hasFood_iff hx7 hf10 (nI i) with ⟨j, hj, ej, e⟩ | ⟨hout, e⟩
      · exact e
      · exact absurd hin hout
    by_cases hic : 0 ≤ a2.toInt ∧ a2.toInt < cn
    · obtain ⟨c, hc, rfl⟩ := nI_ofRange hic.1 hic.2 (by omega)
      have ec : sCells_has_l (nI c) MX = some 1 := by
        rcases hasCell_iff hC.2.2.1 hc6 (nI c) with ⟨j, hj, ej, e⟩ | ⟨hout, e⟩
        · exact e
        · exact absurd hic hout
      obtain ⟨e1, e2, e3, e4, e5, f1, f2, f3, f4⟩ := Rel_i hF hS hi
      have hS2 := hS
      obtain ⟨h5, hr, h0, h1, h2, h3, h4⟩ := hS2
      obtain ⟨d, d1, d2, d3⟩ := h4 c hc
      have rm : MR 5 c = nI d := by
        obtain ⟨-, -, q⟩ := Rel_cell hC hc
        exact q.symm.trans d2
      by_cases cf : MX 44 i = 0
      · by_cases cc : MX 42 i = nI c
        · refine ⟨-2, MX, MR, ?_, ?_, hR⟩
          · unfold sOff_move
            rw [e, some_bind, i10, ec, some_bind, i10, isThereX h5 hf10 hi, some_bind, if_pos cf, i10, cellX (by omega), some_bind, if_pos cc]
          · unfold sRef_move
            rw [isFood_T hr7 hf10 hi, some_bind, i10, isCell_T hC.2.2.2.1 hc6 hc, some_bind, i10, rdc_n (by omega) (by omega), e4, if_pos cf, rdc_n (by omega) (by omega), e2, if_pos cc]
        · have nx := numX h5 hf10 hN (nI c)
          have nr := numR hr7 hf10 hN (nI c)
          rw [num_eq hS] at nr
          generalize hn : ctb (fun i => decide (MX 44 i = 0 ∧ MX 42 i = nI c)) fn = n at nx nr d3
          by_cases full : n = d
          · subst full
            refine ⟨-2, MX, MR, ?_, ?_, hR⟩
            · unfold sOff_move sCells_roomOf_l
              rw [e, some_bind, i10, ec, some_bind, i10, isThereX h5 hf10 hi, some_bind, if_pos cf, i10, cellX (by omega), some_bind, if_neg cc, nx, some_bind, some_bind, atf_n (by omega) (by omega), d2, if_neg (nI_nlt (by omega) (by omega))]
            · unfold sRef_move
              rw [isFood_T hr7 hf10 hi, some_bind, i10, isCell_T hC.2.2.2.1 hc6 hc, some_bind, i10, rdc_n (by omega) (by omega), e4, if_pos cf, rdc_n (by omega) (by omega), e2, if_neg cc, nr, some_bind, rdc_n (by omega) (by omega), rm, if_pos rfl]
          · have hnd : n < d := by omega
            have hRel : Rel (mset MX 42 i (nI c)) (mset MR 23 i (nI c)) := by
              refine ⟨cn, fn, kp, hT, hC, hF, hD, hE, hP, ⟨h5, hr, h0, h1, h2, fun m hm => ?_, fun c' hc' => ?_⟩, hk, fun q => RStk_R (hk1 q) rfl (fun j hj => ⟨rfl, upd_ne _ _ (by omega), rfl, rfl, rfl⟩), fun q => RStk_R (hk2 q) rfl (fun j hj => ⟨rfl, upd_ne _ _ (by omega), rfl, rfl, rfl⟩), hNn⟩
              · obtain ⟨zk, zc, za, zf, zl, p1, p2, p3, p4, p5, p6, p7, p8, p9, p10, p11, p12, p13, p14, p15⟩ := h3 m hm
                by_cases im : m = i
                · subst im
                  exact ⟨zk, c, za, zf, zl, p1, hc, p3, p4, p5, p6, p7, upd_eq _ _ _, by rw [Nat.zero_add]; exact upd_eq _ _ _, p10, p11, p12, p13, p14, p15⟩
                · exact ⟨zk, zc, za, zf, zl, p1, p2, p3, p4, p5, p6, p7, (upd_ne _ _ im).trans p8, (upd_ne _ _ (by omega)).trans p9, p10, p11, p12, p13, p14, p15⟩
              · obtain ⟨d', d1', d2', d3'⟩ := h4 c' hc'
                refine ⟨d', d1', d2', ?_⟩
                show ctb (fun j => decide (MX 44 j = 0 ∧ upd (MX 42) i (nI c) j = nI c')) fn ≤ d'
                by_cases cce : c' = c
                · subst cce
                  have hdd : d' = d := nI_inj (by omega) (by omega) (d2'.symm.trans d2)
                  subst hdd
                  have up : ctb (fun j => decide (MX 44 j = 0 ∧ upd (MX 42) i (nI c') j = nI c')) fn ≤ ctb (fun i => decide (MX 44 i = 0 ∧ MX 42 i = nI c')) fn + 1 := ctb_up (i := i) fun j hj q => by
                    by_cases ij : j = i
                    · exact Or.inr ij
                    · have q := of_decide_eq_true q
                      rw [upd_ne _ _ ij] at q
                      exact Or.inl (decide_eq_true q)
                  omega
                · refine Nat.le_trans (ctb_le fun j hj q => ?_) d3'
                  have q := of_decide_eq_true q
                  by_cases ij : j = i
                  · subst ij
                    rw [upd_eq] at q
                    exact absurd (nI_inj (by omega) (by omega) q.2).symm cce
                  · rw [upd_ne _ _ ij] at q
                    exact decide_eq_true q
            have hR2 := hRel
            obtain ⟨cn', fn', kp', hT', hC', hF', hD', hE', hP', hS', -⟩ := hR2
            have ef : fn' = fn := nI_inj (by have := hF'.2.1; omega) (by omega) (hF'.2.2.1.symm.trans hx7)
            subst ef
            obtain ⟨n2, nx2, nr2⟩ : ∃ n2, sStock_numberIn N (nI c) (mset MX 42 i (nI c)) = some n2 ∧ sRef_inCell N (nI c) (mset MR 23 i (nI c)) = some n2 := ⟨_, numX (M := mset MX 42 i (nI c)) h5 hf10 hN (nI c), (numR (M := mset MR 23 i (nI c)) hr7 hf10 hN (nI c)).trans (congrArg (fun z => some (nI z)) (num_eq hS' (nI c)))⟩
            refine ⟨n2, mset MX 42 i (nI c), mset MR 23 i (nI c), ?_, ?_, hRel⟩
            · unfold sOff_move sCells_roomOf_l sStock_putInto
              rw [e, some_bind, i10, ec, some_bind, i10, isThereX h5 hf10 hi, some_bind, if_pos cf, i10, cellX (by omega), some_bind, if_neg cc, nx, some_bind, some_bind, atf_n (by omega) (by omega), d2, if_pos (nI_lt hnd (by omega)), putf_n (by omega) (by omega), ltM_u, some_bind, nx2, some_bind]
            · unfold sRef_move
              rw [isFood_T hr7 hf10 hi, some_bind, i10, isCell_T hC.2.2.2.1 hc6 hc, some_bind, i10, rdc_n (by omega) (by omega), e4, if_pos cf, rdc_n (by omega) (by omega), e2, if_neg cc, nr, some_bind, rdc_n (by omega) (by omega), rm, if_neg (by rw [nIeq (by omega) (by omega)]; exact full), inc_n (by omega) (by omega), ltM_u, cl_n (by omega), nr2, some_bind]
      · refine ⟨-2, MX, MR, ?_, ?_, hR⟩
        · unfold sOff_move
          rw [e, some_bind, i10, ec, some_bind, i10, isThereX h5 hf10 hi, some_bind, if_neg cf, i00]
        · unfold sRef_move
          rw [isFood_T hr7 hf10 hi, some_bind, i10, isCell_T hC.2.2.2.1 hc6 hc, some_bind, i10, rdc_n (by omega) (by omega), e4, if_neg cf]
    · refine ⟨-1, MX, MR, ?_, ?_, hR⟩
      · unfold sOff_move
        rcases hasCell_iff hC.2.2.1 hc6 a2 with ⟨j, hj, rfl, e'⟩ | ⟨hout, e'⟩
        · rw [nI_t (by omega)] at hic; omega
        · rw [e, some_bind, i10, e', some_bind, i00]
      · unfold sRef_move; rw [isFood_T hr7 hf10 hi, some_bind, i10, isCell_F hC.2.2.2.1 hC.1 hc6 hic, some_bind, i00]
  · refine ⟨-1, MX, MR, ?_, ?_, hR⟩
    · unfold sOff_move
      rcases hasFood_iff hx7 hf10 a1 with ⟨j, hj, rfl, e⟩ | ⟨hout, e⟩
      · rw [nI_t (by omega)] at hin; omega
      · rw [e, some_bind, i00]
    · unfold sRef_move; rw [isFood_F hr7 hF.1 hf10 hin, some_bind, i00]
