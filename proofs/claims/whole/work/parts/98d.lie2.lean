/-! PURE PART 23: lie by the reference; lie. By hand. -/
theorem Rel_inn {MX MR : Mm} (h : Rel MX MR) {cn fn q hr : Nat} {w r d co li so k c a f : Nat → Nat} (xC : VXc MX cn q w r d) (xF : VXf MX fn co li so) (xS : VXs MX fn hr k c a f) (bC : BC cn q w r d) (bF : BF fn co li so) (bS : BS cn fn hr k c a f) : ∀ g, g < cn → ctb (fun i => decide (f i = 0 ∧ c i = g)) fn ≤ d g := by
  obtain ⟨cn', fn', kp, hT, hC, hF, hD, hE, hP, hS, hk, hk1, hk2, hNn⟩ := h
  have hf := bF.2.1
  have hcn := bC.2.1
  have h1 := hF.2.1
  have h2 := hC.2.1
  have efn : fn' = fn := nI_inj (by omega) (by omega) (hF.2.2.1.symm.trans xF.1)
  have ecn : cn' = cn := nI_inj (by omega) (by omega) (hC.2.2.1.symm.trans xC.1)
  subst efn
  subst ecn
  obtain ⟨s1, hr', s2, s3, s4, s5, s6⟩ := hS
  intro g hg
  obtain ⟨e, e1, e2, e3⟩ := s6 g hg
  have hd := (bC.2.2.2 g hg).2.2.2
  have ed : e = d g := nI_inj (by omega) (by omega) (e2.symm.trans (xC.2.2 g hg).2.2)
  subst ed
  refine Nat.le_trans (ctb_le fun i hi hp => ?_) e3
  have hp := of_decide_eq_true hp
  obtain ⟨t1, t2, t3, t4⟩ := xS.2.2 i hi
  refine decide_eq_true ⟨?_, ?_⟩
  · rw [t4, hp.1]; rfl
  · rw [t2, hp.2]
theorem xs_lt {f : Nat → Nat} {p : Nat} : ∀ n, 0 < n → xs f n p < n
  | 0, h => absurd h (by omega)
  | n + 1, _ => by
    show (if f n = 0 ∧ cnt f n = p then n else xs f n p) < n + 1
    by_cases c : f n = 0 ∧ cnt f n = p
    · rw [if_pos c]; omega
    · rw [if_neg c]
      by_cases hn : n = 0
      · subst hn; exact Nat.lt_succ_self 0
      · have := xs_lt (f := f) (p := p) n (by omega)
        omega
theorem exCode {B : Nat} {dg : Nat → Nat} : ∀ z, (∀ p, p < z → dg p < B) → ∃ C, C < B ^ z ∧ RwX (fun p => nI (dg p)) B dgL z C
  | 0, _ => ⟨0, Nat.lt_succ_self 0, trivial⟩
  | z + 1, h => by
    obtain ⟨C, c1, c2⟩ := exCode z fun p hp => h p (by omega)
    have hz := h z (by omega)
    refine ⟨C * B + dg z, ?_, RwX_child c2 hz rfl⟩
    have : (C + 1) * B ≤ B ^ z * B := Nat.mul_le_mul_right _ c1
    rw [Nat.add_mul, Nat.one_mul] at this
    rw [Nat.pow_succ]
    omega
def mayN (u d : Nat → Nat) : Nat → Nat
  | 0 => 1
  | g + 1 => if mayN u d g = 0 then 0 else if d g < u g then 0 else 1
theorem mayN_s (u d : Nat → Nat) (g : Nat) : mayN u d (g + 1) = if mayN u d g = 0 then 0 else if d g < u g then 0 else 1 := rfl
theorem mayN_e (u d : Nat → Nat) : ∀ n, (mayN u d n = 1 ∧ ∀ g, g < n → u g ≤ d g) ∨ (mayN u d n = 0 ∧ ¬ ∀ g, g < n → u g ≤ d g)
  | 0 => Or.inl ⟨rfl, fun g hg => absurd hg (by omega)⟩
  | n + 1 => by
    rw [mayN_s]
    rcases mayN_e u d n with ⟨h1, h2⟩ | ⟨h1, h2⟩
    · rw [h1, if_neg (by omega)]
      by_cases c : d n < u n
      · rw [if_pos c]
        exact Or.inr ⟨rfl, fun h => by have := h n (by omega); omega⟩
      · rw [if_neg c]
        refine Or.inl ⟨rfl, fun g hg => ?_⟩
        by_cases e : g = n
        · subst e; omega
        · exact h2 g (by omega)
    · rw [h1, if_pos rfl]
      exact Or.inr ⟨rfl, fun h => h2 fun g hg => h g (by omega)⟩
section LR2
variable {cn fn q hr n z : Nat} {w r d co li so k c a f fr : Nat → Nat} {M M' M3 MR : Mm} {N : Nat} {L : Nat → Nat → Nat}
theorem VRs_c {b h : Nat} {c' : Nat → Nat} (hs : VRs M b fn h k c a f) (e : ∀ i, i < fn → c i = c' i) : VRs M b fn h k c' a f := ⟨hs.1, fun i hi => by rw [← e i hi]; exact hs.2 i hi⟩
theorem layAsR (hv : VRc MR cn q w r d) (hb : BC cn q w r d) (hF : VRf MR fn co li so) (hBF : BF fn co li so) (hBS : BS cn fn hr k c a f) (hs : VRs MR 0 fn hr k c a f) (hN : 1000 < N) (hz : z ≤ 4) {C : Nat} (hC : C ≤ 2000) (hM : Scr MR M) : ∃ M', sRef_layAs N (nI C) (nI z) M = some (nI (mayN (fun g => ctb (fun i => decide (f i = 0 ∧ cL f c z (dgt C cn z) i = g)) fn) d cn), M') ∧ Scr MR M' ∧ VRs M' 1 fn hr k (cL f c z (dgt C cn z)) a f := by
  have hf := hBF.2.1
  have hcn := hb.2.1
  have hcn1 := hb.1
  obtain ⟨m1, c1, c2, c3⟩ := copy01 hN hf (hs.scr hf hM)
  have go : ∀ dd i m, i + dd = fn → cnt f i ≤ z → Scr MR m → VRs m 1 fn hr k (fun j => if j < i then cL f c z (dgt C cn z) j else c j) a f → ∀ G, dd < G → ∃ M', itr (fun y : Int32 × Int32 × Mm => LRef_layAs_11_29 N (nI C) (nI z) y.1 y.2.1 y.2.2) G (nI (cnt f i), nI i, m) = some M' ∧ Scr MR M' ∧ VRs M' 1 fn hr k (cL f c z (dgt C cn z)) a f := by
    intro dd
    induction dd with
    | zero =>
      intro i m hi hci hsc hvr G hG
      obtain ⟨G, rfl⟩ : ∃ m, G = m + 1 := ⟨G - 1, by omega⟩
      obtain rfl : i = fn := by omega
      refine ⟨m, ?_, hsc, VRs_c hvr fun j hj => if_pos hj⟩
      unfold itr
      have : LRef_layAs_11_29 N (nI C) (nI z) (nI (cnt f i)) (nI i) m = some (.inr m) := by
        unfold LRef_layAs_11_29
        rw [rdc_0 (by omega) (by omega), hsc.at (by omega), hF.1, if_pos (by rw [nIle (by omega) (by omega)]; omega)]
      show (LRef_layAs_11_29 N (nI C) (nI z) (nI (cnt f i)) (nI i) m).bind _ = _
      rw [this]
      rfl
    | succ dd ih =>
      intro i m hi hci hsc hvr G hG
      obtain ⟨G, rfl⟩ : ∃ m, G = m + 1 := ⟨G - 1, by omega⟩
      have hif : i < fn := by omega
      unfold itr
      show ∃ M', (LRef_layAs_11_29 N (nI C) (nI z) (nI (cnt f i)) (nI i) m).bind _ = _ ∧ _
      have hfi : m 25 i = nI (f i) := by
        rw [hsc 25 i (by omega) (by omega)]
        have := (hs.2 i hif).2.2.2
        rw [show 10 * 0 + i = i by omega] at this
        exact this
      have hf2 := (hBS.2 i hif).2.2.2
      by_cases cz : z ≤ cnt f i
      · have : LRef_layAs_11_29 N (nI C) (nI z) (nI (cnt f i)) (nI i) m = some (.inr m) := by
          unfold LRef_layAs_11_29
          rw [rdc_0 (by omega) (by omega), hsc.at (by omega), hF.1, if_neg (by rw [nIle (by omega) (by omega)]; omega), if_pos (by rw [nIle (by omega) (by omega)]; omega)]
        rw [this]
        refine ⟨m, rfl, hsc, VRs_c hvr fun j hj => ?_⟩
        show (if j < i then cL f c z (dgt C cn z) j else c j) = _
        by_cases hji : j < i
        · rw [if_pos hji]
        · rw [if_neg hji]
          have := cnt_mono f i (j - i)
          rw [show i + (j - i) = j by omega] at this
          exact (if_neg (fun q => q.2 (by omega))).symm
      · by_cases c0 : f i = 0
        · have : LRef_layAs_11_29 N (nI C) (nI z) (nI (cnt f i)) (nI i) m = some (.inl (nI (cnt f (i + 1)), nI (i + 1), mset m 23 (10 + i) (nI (dgt C cn z (cnt f i))))) := by
            unfold LRef_layAs_11_29
            rw [rdc_0 (by omega) (by omega), hsc.at (by omega), hF.1, if_neg (by rw [nIle (by omega) (by omega)]; omega), if_neg (by rw [nIle (by omega) (by omega)]; omega), rdc_n (by omega) (by omega), hfi, c0, if_pos (show nI 0 = 0 from rfl), rdc_0 (by omega) (by omega), hsc.at (by omega), hv.1, figureR hN (by omega) (by omega) (by omega) (by omega) (by omega), some_bind, show (10 : Int32) + nI i = nI (10 + i) from nI_add 10 i, inc_n (by omega) (by omega), ltM_u, cl_n (by omega), ltI_u, ltI_u, nI_s, nI_s, cnt_T c0]
            rfl
          rw [this, some_bind]
          refine ih (i + 1) _ (by omega) (by rw [cnt_T c0]; omega) (hsc.trans fun r j h1 h2 => ?_) ⟨by rw [mset_ne _ _ _ (by omega)]; exact hvr.1, fun j hj => ?_⟩ G (by omega)
          · by_cases h23 : r = 23
            · subst h23; rw [mset_eq, upd_ne _ _ (by omega)]
            · rw [mset_ne _ _ _ h23]
          · obtain ⟨u1, u2, u3, u4⟩ := hvr.2 j hj
            rw [mset_eq, mset_ne _ _ _ (show (22 : Nat) ≠ 23 by omega), mset_ne _ _ _ (show (24 : Nat) ≠ 23 by omega), mset_ne _ _ _ (show (25 : Nat) ≠ 23 by omega)]
            refine ⟨u1, ?_, u3, u4⟩
            show _ = nI (if j < i + 1 then cL f c z (dgt C cn z) j else c j)
            by_cases hji : j = i
            · subst hji
              rw [show 10 * 1 + j = 10 + j by omega, upd_eq, if_pos (by omega), show cL f c z (dgt C cn z) j = dgt C cn z (cnt f j) from if_pos ⟨c0, cz⟩]
            · rw [upd_ne _ _ (by omega), u2]
              show nI (if j < i then cL f c z (dgt C cn z) j else c j) = _
              by_cases hl : j < i
              · rw [if_pos hl, if_pos (by omega)]
              · rw [if_neg hl, if_neg (by omega)]
        · have : LRef_layAs_11_29 N (nI C) (nI z) (nI (cnt f i)) (nI i) m = some (.inl (nI (cnt f (i + 1)), nI (i + 1), m)) := by
            unfold LRef_layAs_11_29
            rw [rdc_0 (by omega) (by omega), hsc.at (by omega), hF.1, if_neg (by rw [nIle (by omega) (by omega)]; omega), if_neg (by rw [nIle (by omega) (by omega)]; omega), rdc_n (by omega) (by omega), hfi, if_neg (nI_ne0 (by omega) (by omega)), ltI_u, nI_s, cnt_F c0]
          rw [this, some_bind]
          refine ih (i + 1) m (by omega) (by rw [cnt_F c0]; omega) hsc (VRs_c hvr fun j hj => ?_) G (by omega)
          show (if j < i then cL f c z (dgt C cn z) j else c j) = if j < i + 1 then cL f c z (dgt C cn z) j else c j
          by_cases hji : j = i
          · subst hji
            rw [if_neg (by omega), if_pos (by omega)]
            exact (if_neg (fun q => c0 q.1)).symm
          · by_cases hl : j < i
            · rw [if_pos hl, if_pos (by omega)]
            · rw [if_neg hl, if_neg (by omega)]
  obtain ⟨M', g1, g2, g3⟩ := go fn 0 m1 (by omega) (Nat.zero_le _) (hM.trans c2) (VRs_c c3 fun j _ => rfl) N (by omega)
  obtain ⟨u, hu⟩ : ∃ u : Nat → Nat, u = fun g => ctb (fun i => decide (f i = 0 ∧ cL f c z (dgt C cn z) i = g)) fn := ⟨_, rfl⟩
  have cLb : ∀ i, i < fn → cL f c z (dgt C cn z) i < cn := fun i hi => by
    unfold cL
    split
    · exact Nat.mod_lt _ (by omega)
    · exact (hBS.2 i hi).2.1
  have hcount : ∀ g, g < cn → itr (fun y : Int32 × Int32 => LRef_layAs_93_86 N M' (nI g) y.1 y.2) N (0, 10) = some (nI (u g)) := fun g hg => by
    rw [hu]
    show _ = some (nI (ctb (fun i => decide (f i = 0 ∧ cL f c z (dgt C cn z) i = g)) fn))
    generalize hp : (fun i => decide (f i = 0 ∧ cL f c z (dgt C cn z) i = g)) = p
    refine itr_n (fun i => (nI (ctb p i), nI (10 + i))) fn rfl (fun i hi => ?_) ?_ (by omega)
    · show LRef_layAs_93_86 N M' (nI g) (nI (ctb p i)) (nI (10 + i)) = some (.inl (nI (ctb p (i + 1)), nI (10 + (i + 1))))
      obtain ⟨u1, u2, u3, u4⟩ := g3.2 i hi
      rw [show 10 * 1 + i = 10 + i by omega] at u1 u2 u3 u4
      have hf2 := (hBS.2 i hi).2.2.2
      have hcl := cLb i hi
      have pi : p i = decide (f i = 0 ∧ cL f c z (dgt C cn z) i = g) := by rw [← hp]
      unfold LRef_layAs_93_86
      rw [rdc_0 (by omega) (by omega), g2.at (by omega), hF.1, show (10 : Int32) = nI 10 from rfl, nI_add, if_neg (by rw [nIle (by omega) (by omega)]; omega), rdc_n (by omega) (by omega), u4, show 10 + (i + 1) = 10 + i + 1 by omega]
      simp only [nI_is0 (show f i ≤ 1000 by omega)]
      by_cases c0 : f i = 0
      · rw [if_pos c0, rdc_n (by omega) (by omega), u2]
        by_cases cg : cL f c z (dgt C cn z) i = g
        · rw [if_pos (by rw [cg]), ltI_u, ltI_u, nI_s, nI_s, ctb_T (by rw [pi]; exact decide_eq_true ⟨c0, cg⟩)]
        · rw [if_neg (show ¬ nI (cL f c z (dgt C cn z) i) = nI g by rw [nIeq (by omega) (by omega)]; exact cg), ltI_u, ltI_u, nI_s, add_z, ctb_F (by rw [pi]; simp [cg])]
      · rw [if_neg c0, ltI_u, ltI_u, nI_s, add_z, ctb_F (by rw [pi]; simp [c0])]
    · show LRef_layAs_93_86 N M' (nI g) (nI (ctb p fn)) (nI (10 + fn)) = _
      unfold LRef_layAs_93_86
      rw [rdc_0 (by omega) (by omega), g2.at (by omega), hF.1, show (10 : Int32) = nI 10 from rfl, nI_add, if_pos (by rw [nIle (by omega) (by omega)]; omega)]
  have hub : ∀ g, u g ≤ 10 := fun g => by
    rw [hu]
    exact Nat.le_trans (ctb_n _ _) hf
  have may01 : ∀ g, mayN u d g = 0 ∨ mayN u d g = 1 := fun g => by
    rcases mayN_e u d g with ⟨h1, -⟩ | ⟨h1, -⟩
    · exact Or.inr h1
    · exact Or.inl h1
  have hmay : itr (fun y : Int32 × Int32 => LRef_layAs_75_93 N M' y.1 y.2) N (1, 0) = some (nI (mayN u d cn)) := by
    refine itr_n (fun g => (nI (mayN u d g), nI g)) cn rfl (fun g hg => ?_) ?_ (by omega)
    · show LRef_layAs_75_93 N M' (nI (mayN u d g)) (nI g) = some (.inl (nI (mayN u d (g + 1)), nI (g + 1)))
      have hd := (hb.2.2.2 g hg).2.2.2
      have h5 : M' 5 g = nI (d g) := by rw [g2.at (by omega)]; exact (hv.2.2 g hg).2.2
      have := hub g
      unfold LRef_layAs_75_93
      rw [rdc_0 (by omega) (by omega), g2.at (by omega), hv.1, if_neg (by rw [nIle (by omega) (by omega)]; omega), hcount g hg, some_bind, mayN_s]
      rcases may01 g with h | h
      · rw [h, if_pos (show nI 0 = 0 from rfl), if_pos rfl, ltI_u, nI_s]; rfl
      · rw [h, if_neg (show ¬ nI 1 = 0 by decide), if_neg (by omega), rdc_n (by omega) (by omega), h5]
        by_cases cd : d g < u g
        · rw [if_pos (by rw [nIlt (by omega) (by omega)]; exact cd), if_pos cd, ltI_u, nI_s]; rfl
        · rw [if_neg (by rw [nIlt (by omega) (by omega)]; exact cd), if_neg cd, ltI_u, nI_s]; rfl
    · show LRef_layAs_75_93 N M' (nI (mayN u d cn)) (nI cn) = _
      unfold LRef_layAs_75_93
      rw [rdc_0 (by omega) (by omega), g2.at (by omega), hv.1, if_pos (by rw [nIle (by omega) (by omega)]; omega)]
  refine ⟨M', ?_, g2, g3⟩
  rw [← hu]
  unfold sRef_layAs
  rw [c1, some_bind, show (itr (fun y : Int32 × Int32 × Mm => LRef_layAs_11_29 N (nI C) (nI z) y.1 y.2.1 y.2.2) N (0, 0, m1)) = some M' from g1, some_bind, hmay, some_bind]
  unfold zck
  rw [if_pos]
  rcases may01 cn with h | h
  · rw [h]; exact Or.inl rfl
  · rw [h]; exact Or.inr rfl
theorem vLie (hb : BC cn q w r d) (hBF : BF fn co li so) (hBS : BS cn fn hr k c a f) (hin : ∀ g, g < cn → ctb (fun i => decide (f i = 0 ∧ c i = g)) fn ≤ d g) (hzc : z ≤ cnt f fn) (v : Nat → Option Nat) (hv : ∀ C, v C = (rch cn (stL (fun g => d g - ctb (fun i => decide (f i = 0 ∧ z ≤ cnt f i ∧ c i = g)) fn) (fun p g => lcN q hr n w r k a li co (xs f fn p) g)) (fun _ => 0, smN (fun i => if f i = 0 ∧ z ≤ cnt f i then lcN q hr n w r k a li co i (c i) else 0) fn) z C).map fun s => s.2) (C : Nat) : ((∀ g, g < cn → ctb (fun i => decide (f i = 0 ∧ cL f c z (dgt C cn z) i = g)) fn ≤ d g) → v C = some (sOf f (fun i => limN (k i) (li i)) (agF q hr w r k (cL f c z (dgt C cn z)) a f n) co fn)) ∧ ((¬ ∀ g, g < cn → ctb (fun i => decide (f i = 0 ∧ cL f c z (dgt C cn z) i = g)) fn ≤ d g) → v C = none) := by
  have hcn1 := hb.1
  obtain ⟨r1, r2⟩ := lieRch (fr := fun g => d g - ctb (fun i => decide (f i = 0 ∧ z ≤ cnt f i ∧ c i = g)) fn) (L := fun p g => lcN q hr n w r k a li co (xs f fn p) g) (B := cn) (C := C) (z := z) (O := smN (fun i => if f i = 0 ∧ z ≤ cnt f i then lcN q hr n w r k a li co i (c i) else 0) fn) (by omega) z (Nat.le_refl z)
  rw [Nat.sub_self, Nat.pow_zero, Nat.div_one] at r1 r2
  have hiff : ∀ g, g < cn → (ctb (fun i => decide (f i = 0 ∧ cL f c z (dgt C cn z) i = g)) fn ≤ d g ↔ ctb (fun p => decide (dgt C cn z p = g)) z ≤ d g - ctb (fun i => decide (f i = 0 ∧ z ≤ cnt f i ∧ c i = g)) fn) := fun g hg => by
    have h1 := split_cnt (f := f) (c := c) (z := z) (dg := dgt C cn z) (g := g) fn
    have h2 := inn_split (f := f) (c := c) (z := z) (g := g) fn
    have h3 := hin g hg
    rw [show min (cnt f fn) z = z by omega] at h1
    omega
  constructor
  · intro h
    rw [hv, r1 fun g hg => (hiff g hg).mp (h g hg)]
    show some _ = _
    congr 1
    have h1 := split_sum (f := f) (c := c) (z := z) (dg := dgt C cn z) (lc := lcN q hr n w r k a li co) (fn := fn) fn (Nat.le_refl fn)
    rw [show min (cnt f fn) z = z by omega] at h1
    unfold sOf
    refine Eq.trans h1.symm (smN_congr fun i hi => ?_)
    show _ = if f i = 0 ∧ limN (k i) (li i) ≤ (if f i = 0 then a i + agN (k i) (w (cL f c z (dgt C cn z) i)) (r (cL f c z (dgt C cn z) i)) q hr n else a i) then co i else 0
    by_cases c0 : f i = 0
    · rw [if_pos c0, if_pos c0]
      unfold lcN
      by_cases cl : limN (k i) (li i) ≤ a i + agN (k i) (w (cL f c z (dgt C cn z) i)) (r (cL f c z (dgt C cn z) i)) q hr n
      · rw [if_pos cl, if_pos ⟨c0, cl⟩]
      · rw [if_neg cl, if_neg (fun q => cl q.2)]
    · rw [if_neg c0, if_neg (fun q => c0 q.1)]
  · intro h
    rw [hv, r2 fun h' => h fun g hg => (hiff g hg).mpr (h' g hg)]
    rfl
end LR2
theorem ok_lie {N : Nat} (hN : 10000 < N) : Ok_lie Rel N := by
  intro a1 a2 a3 MX MR h0
  obtain ⟨cn, fn, q, hr, w, r, d, co, li, so, k, c, a, f, bC, bF, bS, xC, xF, xS, rC, rF, rS⟩ := Rel_view h0
  have hin := Rel_inn h0 xC xF xS bC bF bS
  have hf := bF.2.1
  have hf1 := bF.1
  have hh := bS.1
  have hcn := bC.2.1
  have hcn1 := bC.1
  have hN1 : 1000 < N := by omega
  by_cases hw : (1 : Int32).toInt ≤ a1.toInt ∧ a1.toInt ≤ (4 : Int32).toInt
  · have w1 : (1 : Int) ≤ a1.toInt := hw.1
    have w2 : a1.toInt ≤ (4 : Int) := hw.2
    obtain ⟨z, hz, rfl⟩ := nI_ofRange (n := 5) (a := a1) (by omega) (by omega) (by omega)
    rw [nI_t (by omega)] at w1
    have en1 : nI z - 1 = nI (z - 1) := pk_sub (b := 1) (by omega)
    by_cases hwn : (0 : Int32).toInt ≤ a2.toInt ∧ a2.toInt ≤ (500 : Int32).toInt
    · obtain ⟨n, hn, rfl⟩ := nI_ofRange (n := 501) (a := a2) hwn.1 (by have t : a2.toInt ≤ 500 := hwn.2; omega) (by omega)
      by_cases hw2 : (-1 : Int32).toInt ≤ a3.toInt ∧ a3.toInt ≤ (nI z - 1).toInt
      · have thX : sStock_numberThere N MX = some (nI (cnt f fn)) := by
          rw [thereX xS.1 hf hN1]
          congr 2
          refine ctb_congr fun i hi => ?_
          have s4 := (bS.2 i hi).2.2.2
          rw [(xS.2.2 i hi).2.2.2]
          simp only [nI_is0 (show f i ≤ 1000 by omega)]
        have thR : sRef_thereMany N MR = some (nI (cnt f fn)) := by
          rw [thereR rF.1 hf hN1]
          congr 2
          refine ctb_congr fun i hi => ?_
          have s4 := (bS.2 i hi).2.2.2
          have u4 := (rS.2 i hi).2.2.2
          rw [show 10 * 0 + i = i by omega] at u4
          rw [u4]
          simp only [nI_is0 (show f i ≤ 1000 by omega)]
        have hcnb : cnt f fn ≤ fn := ctb_n _ fn
        have headX : sOff_lie N (nI z) (nI n) a3 MX = if nI z ≤ nI (cnt f fn) then ((sLayer_findBest N (nI z) (nI n) MX).bind fun zM5 => (if 0 ≤ a3 then (sLayer_cellFor a3 zM5).bind fun zv7 => some (zv7, zM5) else some ((zM5 66 6), zM5))) else some (-4, MX) := by
          unfold sOff_lie
          rw [within_T hw.1 hw.2, some_bind, i10, within_T hwn.1 hwn.2, some_bind, i10, within_T hw2.1 hw2.2, some_bind, i10, thX, some_bind]
        by_cases hzc : z ≤ cnt f fn
        · obtain ⟨v, hv⟩ : ∃ v : Nat → Option Nat, v = fun C => (rch cn (stL (fun g => d g - ctb (fun i => decide (f i = 0 ∧ z ≤ cnt f i ∧ c i = g)) fn) (fun p g => lcN q hr n w r k a li co (xs f fn p) g)) (fun _ => 0, smN (fun i => if f i = 0 ∧ z ≤ cnt f i then lcN q hr n w r k a li co i (c i) else 0) fn) z C).map fun s => s.2 := ⟨_, rfl⟩
          have hvC : ∀ C, v C = (rch cn (stL (fun g => d g - ctb (fun i => decide (f i = 0 ∧ z ≤ cnt f i ∧ c i = g)) fn) (fun p g => lcN q hr n w r k a li co (xs f fn p) g)) (fun _ => 0, smN (fun i => if f i = 0 ∧ z ≤ cnt f i then lcN q hr n w r k a li co i (c i) else 0) fn) z C).map fun s => s.2 := fun C => by rw [hv]
          have hvl := vLie (n := n) bC bF bS hin hzc v hvC
          have hpw := pow_b (B := cn) (n := z) (by omega) (by omega)
          -- there is a way
          obtain ⟨C0, hC0, hR0⟩ := exCode (B := cn) (dg := fun p => c (xs f fn p)) z fun p hp => (bS.2 _ (xs_lt fn hf1)).2.1
          have hdg : ∀ p, p < z → dgt C0 cn z p = c (xs f fn p) := fun p hp => by
            have e := RwX_at hR0 p hp
            have b1 := (bS.2 _ (xs_lt (f := f) (p := p) fn hf1)).2.1
            have b2 : C0 / cn ^ (z - 1 - p) % cn < cn := Nat.mod_lt _ (by omega)
            exact (nI_inj (by omega) (by omega) e).symm
          obtain ⟨x0, h00⟩ : ∃ x, v C0 = some x := ⟨_, (hvl C0).1 fun g hg => by
            refine Nat.le_trans (Nat.le_of_eq (ctb_congr fun i hi => ?_)) (hin g hg)
            by_cases c0 : f i = 0
            · have : cL f c z (dgt C0 cn z) i = c i := by
                unfold cL
                by_cases cz : z ≤ cnt f i
                · rw [if_neg (fun x => x.2 cz)]
                · rw [if_pos ⟨c0, cz⟩, hdg _ (by omega), xs_eq hi c0]
              rw [this]
            · simp [c0]⟩
          obtain ⟨bl, hbl⟩ : ∃ bl, scn v (cn ^ z) = some bl := by
            cases hs : scn v (cn ^ z) with
            | none => exact absurd hs (scn_ne h00 hC0)
            | some bl => exact ⟨bl, rfl⟩
          obtain ⟨bb, l⟩ := bl
          have hbb := (scn_in hbl).1
          -- the class
          obtain ⟨M1, hM1⟩ : ∃ M1, M1 = mset (mset MX 66 5 (nI z)) 66 6 1000000000 := ⟨_, rfl⟩
          have sc1 : ∀ r, r ≠ 66 → M1 r = MX r := fun r hr => by rw [hM1, mset_ne _ _ _ hr, mset_ne _ _ _ hr]
          have m665 : M1 66 5 = nI z := by rw [hM1, mset_eq, upd_ne _ _ (by omega), mset_eq, upd_eq]
          have m666 : M1 66 6 = 1000000000 := by rw [hM1, mset_eq, upd_eq]
          obtain ⟨M2, p1, p2, p3⟩ := itr_i (f := fun y : Int32 × Mm => LLayer_findBest_13_13 N y.1 y.2)
            (fun g s => ∃ m, s = (nI g, m) ∧ (∀ r, r ≠ 68 → m r = M1 r) ∧ ∀ g', g' < g → m 68 g' = nI (d g' - ctb (fun i => decide (f i = 0 ∧ c i = g')) fn))
            (fun m => (∀ r, r ≠ 68 → m r = M1 r) ∧ ∀ g', g' < cn → m 68 g' = nI (d g' - ctb (fun i => decide (f i = 0 ∧ c i = g')) fn)) cn (s := (0, M1)) (N := N)
            ⟨M1, rfl, fun _ _ => rfl, fun g' hg' => absurd hg' (by omega)⟩ (fun g s hg hP => by
              obtain ⟨m, rfl, y1, y2⟩ := hP
              have ym : ∀ r, r ≠ 66 → r ≠ 68 → m r = MX r := fun r r1 r2 => by rw [y1 r r2]; exact sc1 r r1
              have hnum : sStock_numberIn N (nI g) m = some (nI (ctb (fun i => decide (f i = 0 ∧ c i = g)) fn)) := by
                rw [numX (M := m) (by rw [ym 40 (by omega) (by omega)]; exact xS.1) hf hN1]
                congr 2
                refine ctb_congr fun i hi => ?_
                obtain ⟨s1, s2, s3, s4⟩ := bS.2 i hi
                rw [ym 44 (by omega) (by omega), ym 42 (by omega) (by omega), (xS.2.2 i hi).2.2.2, (xS.2.2 i hi).2.1]
                simp only [nI_is0 (show f i ≤ 1000 by omega), nIeq (show c i ≤ 1000000 by omega) (show g ≤ 1000000 by omega)]
              refine ⟨(nI (g + 1), mset m 68 g (nI (d g - ctb (fun i => decide (f i = 0 ∧ c i = g)) fn))), ?_, _, rfl, fun r hr => by rw [mset_ne _ _ _ hr]; exact y1 r hr, fun g' hg' => ?_⟩
              · show LLayer_findBest_13_13 N (nI g) m = _
                unfold LLayer_findBest_13_13 sCells_roomOf_l
                rw [ym 23 (by omega) (by omega), xC.1, if_neg (by rw [nIle (by omega) (by omega)]; omega), atf_n (by omega) (by omega), some_bind, hnum, some_bind, ym 26 (by omega) (by omega), (xC.2.2 g hg).2.2, pk_sub (hin g hg), putf_n (by omega) (by omega), ltM_u, ltI_u, nI_s]
              · rw [mset_eq]
                by_cases cg : g' = g
                · subst cg; rw [upd_eq]
                · rw [upd_ne _ _ cg]; exact y2 g' (by omega)) (fun s hP => by
              obtain ⟨m, rfl, y1, y2⟩ := hP
              refine ⟨m, ?_, y1, y2⟩
              show LLayer_findBest_13_13 N (nI cn) m = _
              unfold LLayer_findBest_13_13
              rw [y1 23 (by omega), sc1 23 (by omega), xC.1, if_pos (by rw [nIle (by omega) (by omega)]; omega)]) (by omega)
          have g2 : ∀ r, r ≠ 66 → r ≠ 68 → M2 r = MX r := fun r r1 r2 => by rw [p2 r r2]; exact sc1 r r1
          have xC2 : VXc M2 cn q w r d := by unfold VXc; rw [g2 23 (by omega) (by omega), g2 24 (by omega) (by omega), g2 25 (by omega) (by omega), g2 26 (by omega) (by omega)]; exact xC
          have xF2 : VXf M2 fn co li so := by unfold VXf; rw [g2 27 (by omega) (by omega), g2 30 (by omega) (by omega), g2 31 (by omega) (by omega), g2 33 (by omega) (by omega)]; exact xF
          have xS2 : VXs M2 fn hr k c a f := by unfold VXs; rw [g2 40 (by omega) (by omega), g2 41 (by omega) (by omega), g2 42 (by omega) (by omega), g2 43 (by omega) (by omega), g2 44 (by omega) (by omega)]; exact xS
          obtain ⟨M3, q1, q2, q3, q4⟩ := layLookX xC2 bC xS2 xF2 bF bS hN1 (n := n) (z := z) (by omega) (by omega) (by rw [p2 66 (by omega)]; exact m665) hin p3
          have g3 : ∀ r, r ≠ 66 → r ≠ 67 → r ≠ 68 → M3 r = MX r := fun r r1 r2 r3 => by rw [q2 r r2 r3]; exact g2 r r1 r3
          have h665 : M3 66 5 = nI z := by rw [q2 66 (by omega) (by omega), p2 66 (by omega)]; exact m665
          have h666 : M3 66 6 = 1000000000 := by rw [q2 66 (by omega) (by omega), p2 66 (by omega)]; exact m666
          have lcb : ∀ i g, i < fn → lcN q hr n w r k a li co i g ≤ 99 := fun i g hi => by
            have := (bF.2.2 i hi).1
            unfold lcN
            split <;> omega
          have Ob : smN (fun i => if f i = 0 ∧ z ≤ cnt f i then lcN q hr n w r k a li co i (c i) else 0) fn ≤ 990 := by
            have := smN_le (e := fun i => if f i = 0 ∧ z ≤ cnt f i then lcN q hr n w r k a li co i (c i) else 0) (b := 99) (n := fn) fun i hi => by
              have := lcb i (c i) hi
              show (if f i = 0 ∧ z ≤ cnt f i then lcN q hr n w r k a li co i (c i) else 0) ≤ 99
              split <;> omega
            omega
          obtain ⟨M4, t1, t2, t3⟩ := tryL (M3 := M3) (fr := fun g => d g - ctb (fun i => decide (f i = 0 ∧ z ≤ cnt f i ∧ c i = g)) fn) (L := fun p g => lcN q hr n w r k a li co (xs f fn p) g) (by rw [g3 23 (by omega) (by omega) (by omega)]; exact xC.1) hcn1 hcn (fun g hg => by
              have := (bC.2.2.2 g hg).2.2.2
              show d g - _ ≤ 10
              omega) (fun j g hj hg => ⟨q4 j g (by omega) hg, lcb _ g (xs_lt fn hf1)⟩) hN1 (by omega) v hvC z 6 0 0 (fun _ => 0) (smN (fun i => if f i = 0 ∧ z ≤ cnt f i then lcN q hr n w r k a li co i (c i) else 0) fn) M3 (by omega) (by omega) rfl (by omega) (fun g hg => Nat.zero_le _) ⟨fun _ _ _ _ _ => rfl, h665, fun g hg => by rw [q3 g hg]; rfl, trivial⟩ (by rw [Nat.zero_mul]; exact h666)
          rw [Nat.zero_add, Nat.one_mul, hbl] at t3
          obtain ⟨t4, t5, t6⟩ := t3
          have t4 : M4 66 6 = nI l := t4
          have t5 : l ≤ 5000 := t5
          have hfind : sLayer_findBest N (nI z) (nI n) MX = some M4 := by
            unfold sLayer_findBest
            rw [ltM_u, ltM_u, ← hM1]
            show (itr (fun y : Int32 × Mm => LLayer_findBest_13_13 N y.1 y.2) N (0, M1)).bind _ = _
            rw [p1, some_bind, q1, some_bind]
            show (sLayer_tryFood N 6 (nI 0) _ M3).bind _ = _
            rw [t1, some_bind]
          have hsX : ScX MX M4 := fun r hr => by
            rw [t2.1 r (by omega) (by omega) (by omega) (by omega)]
            exact g3 r (by omega) (by omega) (by omega)
          -- the reference
          have hrows : itr (fun y : Int32 × Int32 => LRef_lie_53_13 N (nI z) MR y.1 y.2) N (1, 0) = some (nI (cn ^ z)) := by
            refine itr_n (fun i => (nI (cn ^ i), nI i)) z rfl (fun i hi => ?_) ?_ (by omega)
            · show LRef_lie_53_13 N (nI z) MR (nI (cn ^ i)) (nI i) = some (.inl (nI (cn ^ (i + 1)), nI (i + 1)))
              unfold LRef_lie_53_13
              rw [if_neg (by rw [nIle (by omega) (by omega)]; omega), rdc_0 (by omega) (by omega), rC.1, pk_mul, ltI_u, ltI_u, nI_s, Nat.pow_succ]
            · show LRef_lie_53_13 N (nI z) MR (nI (cn ^ z)) (nI z) = _
              unfold LRef_lie_53_13
              rw [if_pos (by rw [nIle (by omega) (by omega)]; omega)]
          have cost : ∀ C m, C ≤ 2000 → Scr MR m → ∃ m', (sRef_layAs N (nI C) (nI z) m).bind (fun y => ((if y.1 = 0 then some (-4, y.2) else (sRef_lostOf N (nI n) y.2).bind fun t => some (t.1, t.2) : Option (Int32 × Mm)))) = some (vEnc (v C), m') ∧ Scr MR m' ∧ ∀ x, v C = some x → x ≤ 5000 := fun C m hC hm => by
            obtain ⟨m1, y1, y2, y3⟩ := layAsR rC bC rF bF bS rS hN1 (z := z) (by omega) hC hm
            rw [y1, some_bind]
            rcases mayN_e (fun g => ctb (fun i => decide (f i = 0 ∧ cL f c z (dgt C cn z) i = g)) fn) d cn with ⟨e1, e2⟩ | ⟨e1, e2⟩
            · have hv1 := (hvl C).1 e2
              have bS' : BS cn fn hr k (cL f c z (dgt C cn z)) a f := ⟨hh, fun i hi => by
                obtain ⟨s1, s2, s3, s4⟩ := bS.2 i hi
                refine ⟨s1, ?_, s3, s4⟩
                unfold cL
                split
                · exact Nat.mod_lt _ (by omega)
                · exact s2⟩
              obtain ⟨m2, o1, o2⟩ := lostOfR (HB_of (b := 1) (by omega) (rC.scr y2) bC (rF.scr y2) bF bS' y3) (rF.scr y2) bF y3 hN1 (n := n) (by omega) (by omega) fun i hi => (bS.2 i hi).2.2.1
              rw [e1, hv1]
              refine ⟨m2, ?_, y2.trans o2, fun x hx => ?_⟩
              · show (if nI 1 = 0 then _ else (sRef_lostOf N (nI n) m1).bind fun t => some (t.1, t.2)) = _
                rw [if_neg (by decide), o1]
                rfl
              · have hx := Option.some.inj hx
                rw [← hx]
                have := sOf_le (f := f) (lim := fun i => limN (k i) (li i)) (a := agF q hr w r k (cL f c z (dgt C cn z)) a f n) (co := co) (n := fn) fun i hi => (bF.2.2 i hi).1
                omega
            · have hv1 := (hvl C).2 e2
              rw [e1, hv1]
              exact ⟨m1, rfl, y2, fun x hx => by cases hx⟩
          obtain ⟨rr, u1, M', u2, u3⟩ := itr_i (f := fun y : Int32 × Int32 × Int32 × Mm => LRef_lie_86_45 N (nI z) (nI n) (nI (cn ^ z)) y.1 y.2.1 y.2.2.1 y.2.2.2)
            (fun i s => ∃ m, s = (bE (scn v i), lE (scn v i), nI i, m) ∧ Scr MR m ∧ ∀ b' l', scn v i = some (b', l') → b' ≤ 2000 ∧ l' ≤ 5000)
            (fun rr => ∃ m, rr = (nI bb, nI l, m) ∧ Scr MR m) (cn ^ z) (s := (-4, 0, 0, MR)) (N := N)
            ⟨MR, rfl, Scr.refl MR, fun _ _ z => by cases z⟩ (fun i s hi hPi => by
              obtain ⟨m, rfl, y1, y2⟩ := hPi
              obtain ⟨m', z1, z2, z3⟩ := cost i m (by omega) y1
              have head : LRef_lie_86_45 N (nI z) (nI n) (nI (cn ^ z)) (bE (scn v i)) (lE (scn v i)) (nI i) m = (if vEnc (v i) < 0 then some (.inl (bE (scn v i), lE (scn v i), nI (i + 1), m')) else (if bE (scn v i) < 0 then some (.inl (nI i, vEnc (v i), nI (i + 1), m')) else (if lE (scn v i) ≤ vEnc (v i) then some (.inl (bE (scn v i), lE (scn v i), nI (i + 1), m')) else some (.inl (nI i, vEnc (v i), nI (i + 1), m'))))) := by
                obtain ⟨y, e1, e2⟩ := bnd_e z1
                unfold LRef_lie_86_45
                rw [if_neg (by rw [nIle (by omega) (by omega)]; omega), e1, some_bind, ← nI_s]
                show ((if y.1 = 0 then some (-4, y.2) else (sRef_lostOf N (nI n) y.2).bind fun t => some (t.1, t.2) : Option (Int32 × Mm))).bind _ = _
                rw [e2]
                rfl
              show ∃ s', LRef_lie_86_45 N (nI z) (nI n) (nI (cn ^ z)) (bE (scn v i)) (lE (scn v i)) (nI i) m = some (.inl s') ∧ _
              rw [head]
              cases hvi : v i with
              | none =>
                rw [if_pos (show vEnc none < 0 from by decide)]
                exact ⟨_, rfl, m', by rw [scn_none hvi], z2, by rw [scn_none hvi]; exact y2⟩
              | some x =>
                have hx := z3 x hvi
                rw [if_neg (show ¬ vEnc (some x) < 0 from nI_pos (by omega))]
                cases hs : scn v i with
                | none =>
                  rw [if_pos (show bE none < 0 from by decide)]
                  refine ⟨_, rfl, m', by rw [scn_first hvi hs]; rfl, z2, fun b' l' e => ?_⟩
                  rw [scn_first hvi hs] at e
                  cases e
                  exact ⟨by omega, hx⟩
                | some bl =>
                  obtain ⟨b1, l1⟩ := bl
                  obtain ⟨y3, y4⟩ := y2 b1 l1 hs
                  rw [if_neg (show ¬ bE (some (b1, l1)) < 0 from nI_pos (by omega))]
                  by_cases cc : l1 ≤ x
                  · rw [if_pos (show lE (some (b1, l1)) ≤ vEnc (some x) from by show nI l1 ≤ nI x; rw [nIle (by omega) (by omega)]; exact cc)]
                    refine ⟨_, rfl, m', by rw [scn_more hvi hs, if_pos cc], z2, fun b' l' e => ?_⟩
                    rw [scn_more hvi hs, if_pos cc] at e
                    cases e
                    exact ⟨y3, y4⟩
                  · rw [if_neg (show ¬ lE (some (b1, l1)) ≤ vEnc (some x) from by show ¬ nI l1 ≤ nI x; rw [nIle (by omega) (by omega)]; exact cc)]
                    refine ⟨_, rfl, m', by rw [scn_more hvi hs, if_neg cc]; rfl, z2, fun b' l' e => ?_⟩
                    rw [scn_more hvi hs, if_neg cc] at e
                    cases e
                    exact ⟨by omega, hx⟩) (fun s hPi => by
              obtain ⟨m, rfl, y1, y2⟩ := hPi
              refine ⟨_, ?_, m, rfl, y1⟩
              show LRef_lie_86_45 N (nI z) (nI n) (nI (cn ^ z)) (bE (scn v (cn ^ z))) (lE (scn v (cn ^ z))) (nI (cn ^ z)) m = _
              unfold LRef_lie_86_45
              rw [if_pos (by rw [nIle (by omega) (by omega)]; omega), hbl]
              rfl) (by omega)
          have eX' : sOff_lie N (nI z) (nI n) a3 MX = if 0 ≤ a3 then some (atf 4 (M4 70) a3, M4) else some (nI l, M4) := by
            rw [headX, if_pos (by rw [nIle (by omega) (by omega)]; exact hzc), hfind, some_bind, t4]
            rfl
          have eR' : sRef_lie N (nI z) (nI n) a3 MR = if 0 ≤ a3 then (sRef_figure N (nI bb) (nI cn) (nI z) a3).bind fun zv52 => some (zv52, M') else some (nI l, M') := by
            unfold sRef_lie sRef_isLater
            rw [in1_4, within_T hw.1 hw.2, some_bind, i10, in0_500, within_T hwn.1 hwn.2, some_bind, some_bind, i10, inm1, within_T hw2.1 hw2.2, some_bind, i10, thR, some_bind, if_pos (by rw [nIle (by omega) (by omega)]; exact hzc), hrows, some_bind]
            show ((itr (fun y : Int32 × Int32 × Int32 × Mm => LRef_lie_86_45 N (nI z) (nI n) (nI (cn ^ z)) y.1 y.2.1 y.2.2.1 y.2.2.2) N (-4, 0, 0, MR)).bind _) = _
            rw [u1, some_bind, u2]
            show (if 0 ≤ a3 then rdc 2 (M' 2) 0 fun zv51 => _ else _) = _
            rw [rdc_0 (by omega) (by omega), u3.at (by omega), rC.1]
          rw [eX', eR']
          by_cases ca : (0 : Int32) ≤ a3
          · rw [if_pos ca, if_pos ca]
            have ca' : (0 : Int) ≤ a3.toInt := by rw [Int32.le_iff_toInt_le] at ca; exact ca
            have cb := hw2.2
            rw [en1, nI_t (by omega)] at cb
            obtain ⟨i, hi, rfl⟩ := nI_ofRange (n := z) (a := a3) ca' (by omega) (by omega)
            rw [figureR hN1 (by omega) (by omega) (by omega) hi (by omega), some_bind, atf_n (by omega) (by omega), RwX_at t6 i hi]
            exact ⟨_, _, _, rfl, rfl, Rel_scr (Rel_scX h0 hsX) u3⟩
          · rw [if_neg ca, if_neg ca]
            exact ⟨_, _, _, rfl, rfl, Rel_scr (Rel_scX h0 hsX) u3⟩
        · refine ⟨-4, MX, MR, ?_, ?_, h0⟩
          · rw [headX, if_neg (by rw [nIle (by omega) (by omega)]; exact hzc)]
          · unfold sRef_lie sRef_isLater
            rw [in1_4, within_T hw.1 hw.2, some_bind, i10, in0_500, within_T hwn.1 hwn.2, some_bind, some_bind, i10, inm1, within_T hw2.1 hw2.2, some_bind, i10, thR, some_bind, if_neg (by rw [nIle (by omega) (by omega)]; exact hzc)]
      · refine ⟨-1, MX, MR, ?_, ?_, h0⟩
        · unfold sOff_lie
          rw [within_T hw.1 hw.2, some_bind, i10, within_T hwn.1 hwn.2, some_bind, i10, within_F hw2]; rfl
        · unfold sRef_lie sRef_isLater
          rw [in1_4, within_T hw.1 hw.2, some_bind, i10, in0_500, within_T hwn.1 hwn.2, some_bind, some_bind, i10, inm1, within_F hw2]; rfl
    · refine ⟨-1, MX, MR, ?_, ?_, h0⟩
      · unfold sOff_lie
        rw [within_T hw.1 hw.2, some_bind, i10, within_F hwn]; rfl
      · unfold sRef_lie sRef_isLater
        rw [in1_4, within_T hw.1 hw.2, some_bind, i10, in0_500, within_F hwn]; rfl
  · exact ⟨-1, MX, MR, by unfold sOff_lie; rw [within_F hw]; rfl, by unfold sRef_lie; rw [in1_4, within_F hw]; rfl, h0⟩
