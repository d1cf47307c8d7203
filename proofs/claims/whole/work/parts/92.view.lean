/-! PURE PART 13: views in naturals; what both sides do in time. By hand. -/
def VXc (M : Mm) (cn q : Nat) (w r d : Nat → Nat) : Prop := M 23 3 = nI cn ∧ M 23 4 = nI q ∧ ∀ c, c < cn → M 24 c = nI (w c) ∧ M 25 c = nI (r c) ∧ M 26 c = nI (d c)
def VRc (M : Mm) (cn q : Nat) (w r d : Nat → Nat) : Prop := M 2 0 = nI cn ∧ M 6 0 = nI q ∧ ∀ c, c < cn → M 3 c = nI (w c) ∧ M 4 c = nI (r c) ∧ M 5 c = nI (d c)
def VXf (M : Mm) (fn : Nat) (co li so : Nat → Nat) : Prop := M 27 7 = nI fn ∧ ∀ i, i < fn → M 30 i = nI (co i) ∧ M 31 i = nI (li i) ∧ M 33 i = nI (so i)
def VRf (M : Mm) (fn : Nat) (co li so : Nat → Nat) : Prop := M 7 0 = nI fn ∧ ∀ i, i < fn → M 10 i = nI (co i) ∧ M 11 i = nI (li i) ∧ M 13 i = nI (so i)
def VXs (M : Mm) (fn hr : Nat) (k c a f : Nat → Nat) : Prop := M 40 5 = nI fn ∧ M 40 6 = nI hr ∧ ∀ i, i < fn → M 41 i = nI (k i) ∧ M 42 i = nI (c i) ∧ M 43 i = nI (a i) ∧ M 44 i = nI (f i)
def VRs (M : Mm) (b fn hr : Nat) (k c a f : Nat → Nat) : Prop := M 27 b = nI hr ∧ ∀ i, i < fn → M 22 (10 * b + i) = nI (k i) ∧ M 23 (10 * b + i) = nI (c i) ∧ M 24 (10 * b + i) = nI (a i) ∧ M 25 (10 * b + i) = nI (f i)
def BC (cn q : Nat) (w r d : Nat → Nat) : Prop := 1 ≤ cn ∧ cn ≤ 6 ∧ q < 2 ^ 24 ∧ ∀ c, c < cn → w c ≤ 200 ∧ r c ≤ 99 ∧ 1 ≤ d c ∧ d c ≤ 10
def BF (fn : Nat) (co li so : Nat → Nat) : Prop := 1 ≤ fn ∧ fn ≤ 10 ∧ ∀ i, i < fn → co i ≤ 99 ∧ 1 ≤ li i ∧ li i ≤ 240 ∧ so i ≤ 3
def BS (cn fn hr : Nat) (k c a f : Nat → Nat) : Prop := hr ≤ 99999 ∧ ∀ i, i < fn → k i ≤ 3 ∧ c i < cn ∧ a i ≤ 618 * hr ∧ f i ≤ 2
theorem Rel_view {MX MR : Mm} (h : Rel MX MR) : ∃ (cn fn q hr : Nat) (w r d co li so k c a f : Nat → Nat), BC cn q w r d ∧ BF fn co li so ∧ BS cn fn hr k c a f ∧ VXc MX cn q w r d ∧ VXf MX fn co li so ∧ VXs MX fn hr k c a f ∧ VRc MR cn q w r d ∧ VRf MR fn co li so ∧ VRs MR 0 fn hr k c a f := by
  obtain ⟨cn, fn, kp, hT, hC, hF, hD, hE, hP, hS, hk, hk1, hk2, hNn⟩ := h
  obtain ⟨c1, c2, c3, c4, ⟨q, q1, q2, q3⟩, c6⟩ := hC
  obtain ⟨f1, f2, f3, f4, f5, -⟩ := hF
  obtain ⟨s1, hr, s2, s3, s4, s5, -⟩ := hS
  refine ⟨cn, fn, q, hr, fun c => nN (MX 24 c), fun c => nN (MX 25 c), fun c => nN (MX 26 c), fun i => nN (MX 30 i), fun i => nN (MX 31 i), fun i => nN (MX 33 i), fun i => nN (MX 41 i), fun i => nN (MX 42 i), fun i => nN (MX 43 i), fun i => nN (MX 44 i), ⟨c1, c2, q1, fun c hc => ?_⟩, ⟨f1, f2, fun i hi => ?_⟩, ⟨s2, fun i hi => ?_⟩, ⟨c3, q2, fun c hc => ?_⟩, ⟨f3, fun i hi => ?_⟩, ⟨s1, s3, fun i hi => ?_⟩, ⟨c4, q3, fun c hc => ?_⟩, ⟨f4, fun i hi => ?_⟩, ⟨s4, fun i hi => ?_⟩⟩
  · obtain ⟨a, b, d, b1, b2, b3, b4, e1, e2, e3, e4, e5, e6⟩ := c6 c hc
    show nN (MX 24 c) ≤ 200 ∧ nN (MX 25 c) ≤ 99 ∧ 1 ≤ nN (MX 26 c) ∧ nN (MX 26 c) ≤ 10
    rw [e1, e3, e5, nN_I (by omega), nN_I (by omega), nN_I (by omega)]
    exact ⟨b1, b2, b3, b4⟩
  · obtain ⟨a, b, p, s, b1, b2, b3, b4, b5, e1, e2, e3, e4, e5, e6, e7, e8⟩ := f5 i hi
    show nN (MX 30 i) ≤ 99 ∧ 1 ≤ nN (MX 31 i) ∧ nN (MX 31 i) ≤ 240 ∧ nN (MX 33 i) ≤ 3
    rw [e1, e3, e7, nN_I (by omega), nN_I (by omega), nN_I (by omega)]
    exact ⟨b1, b2, b3, b5⟩
  · obtain ⟨zk, zc, za, zf, zl, b1, b2, b3, b4, b5, e1, e2, e3, e4, e5, e6, e7, e8, e9, e10⟩ := s5 i hi
    show nN (MX 41 i) ≤ 3 ∧ nN (MX 42 i) < cn ∧ nN (MX 43 i) ≤ 618 * hr ∧ nN (MX 44 i) ≤ 2
    rw [e1, e3, e5, e7, nN_I (by omega), nN_I (by omega), nN_I (by omega), nN_I (by omega)]
    exact ⟨b1, b2, b3, b4⟩
  · obtain ⟨a, b, d, b1, b2, b3, b4, e1, e2, e3, e4, e5, e6⟩ := c6 c hc
    exact ⟨(nN_of e1 (by omega)).1, (nN_of e3 (by omega)).1, (nN_of e5 (by omega)).1⟩
  · obtain ⟨a, b, p, s, b1, b2, b3, b4, b5, e1, e2, e3, e4, e5, e6, e7, e8⟩ := f5 i hi
    exact ⟨(nN_of e1 (by omega)).1, (nN_of e3 (by omega)).1, (nN_of e7 (by omega)).1⟩
  · obtain ⟨zk, zc, za, zf, zl, b1, b2, b3, b4, b5, e1, e2, e3, e4, e5, e6, e7, e8, e9, e10⟩ := s5 i hi
    exact ⟨(nN_of e1 (by omega)).1, (nN_of e3 (by omega)).1, (nN_of e5 (by omega)).1, (nN_of e7 (by omega)).1⟩
  · obtain ⟨a, b, d, b1, b2, b3, b4, e1, e2, e3, e4, e5, e6⟩ := c6 c hc
    show MR 3 c = nI (nN (MX 24 c)) ∧ MR 4 c = nI (nN (MX 25 c)) ∧ MR 5 c = nI (nN (MX 26 c))
    rw [e1, e3, e5, nN_I (by omega), nN_I (by omega), nN_I (by omega)]
    exact ⟨e2, e4, e6⟩
  · obtain ⟨a, b, p, s, b1, b2, b3, b4, b5, e1, e2, e3, e4, e5, e6, e7, e8⟩ := f5 i hi
    show MR 10 i = nI (nN (MX 30 i)) ∧ MR 11 i = nI (nN (MX 31 i)) ∧ MR 13 i = nI (nN (MX 33 i))
    rw [e1, e3, e7, nN_I (by omega), nN_I (by omega), nN_I (by omega)]
    exact ⟨e2, e4, e8⟩
  · obtain ⟨zk, zc, za, zf, zl, b1, b2, b3, b4, b5, e1, e2, e3, e4, e5, e6, e7, e8, e9, e10⟩ := s5 i hi
    show MR 22 (10 * 0 + i) = nI (nN (MX 41 i)) ∧ MR 23 (10 * 0 + i) = nI (nN (MX 42 i)) ∧ MR 24 (10 * 0 + i) = nI (nN (MX 43 i)) ∧ MR 25 (10 * 0 + i) = nI (nN (MX 44 i))
    rw [e1, e3, e5, e7, nN_I (by omega), nN_I (by omega), nN_I (by omega), nN_I (by omega)]
    exact ⟨e2, e4, e6, e8⟩
/-- only the scratch of the reference differs -/
def Scr (M M' : Mm) : Prop := ∀ r i, ¬ ((22 ≤ r ∧ r ≤ 26) ∧ 10 ≤ i ∧ i < 20) → ¬ (r = 27 ∧ i = 1) → M' r i = M r i
theorem Scr.refl (M : Mm) : Scr M M := fun _ _ _ _ => rfl
theorem Scr.trans {M M1 M2 : Mm} (h : Scr M M1) (h2 : Scr M1 M2) : Scr M M2 := fun r i a b => (h2 r i a b).trans (h r i a b)
theorem Scr.at {M M' : Mm} (h : Scr M M') {r : Nat} (hr : ¬ (22 ≤ r ∧ r ≤ 27)) : M' r = M r := funext fun i => h r i (by omega) (by omega)
theorem Rel_scr {MX MR MR1 : Mm} (h : Rel MX MR) (hs : Scr MR MR1) : Rel MX MR1 := by
  obtain ⟨cn, fn, kp, hT, hC, hF, hD, hE, hP, hS, hk, hk1, hk2, hNn⟩ := h
  have hf10 := hF.2.1
  have e : ∀ o, (o + 10 ≤ 10 ∨ 20 ≤ o) → ∀ r, 22 ≤ r ∧ r ≤ 26 → ∀ j, j < fn → MR1 r (o + j) = MR r (o + j) := fun o ho r hr j hj => hs r (o + j) (by omega) (by omega)
  have e27 : ∀ i, i ≠ 1 → MR1 27 i = MR 27 i := fun i hi => hs 27 i (by omega) (by omega)
  refine ⟨cn, fn, kp, ?_, ?_, ?_, ?_, ?_, ?_, RStk_R hS (e27 0 (by omega)) fun j hj => ⟨e 0 (by omega) 22 (by omega) j hj, e 0 (by omega) 23 (by omega) j hj, e 0 (by omega) 24 (by omega) j hj, e 0 (by omega) 25 (by omega) j hj, e 0 (by omega) 26 (by omega) j hj⟩, ?_, fun q => RStk_R (hk1 q) (e27 2 (by omega)) fun j hj => ⟨e 20 (by omega) 22 (by omega) j hj, e 20 (by omega) 23 (by omega) j hj, e 20 (by omega) 24 (by omega) j hj, e 20 (by omega) 25 (by omega) j hj, e 20 (by omega) 26 (by omega) j hj⟩, fun q => RStk_R (hk2 q) (e27 3 (by omega)) fun j hj => ⟨e 30 (by omega) 22 (by omega) j hj, e 30 (by omega) 23 (by omega) j hj, e 30 (by omega) 24 (by omega) j hj, e 30 (by omega) 25 (by omega) j hj, e 30 (by omega) 26 (by omega) j hj⟩, ?_⟩
  · rw [hs.at (r := 0) (by omega), hs.at (r := 1) (by omega)]; exact hT
  · rw [hs.at (r := 2) (by omega), hs.at (r := 3) (by omega), hs.at (r := 4) (by omega), hs.at (r := 5) (by omega), hs.at (r := 6) (by omega)]; exact hC
  · rw [hs.at (r := 7) (by omega), hs.at (r := 10) (by omega), hs.at (r := 11) (by omega), hs.at (r := 12) (by omega), hs.at (r := 13) (by omega)]; exact hF
  · rw [hs.at (r := 14) (by omega), hs.at (r := 15) (by omega)]; exact hD
  · rw [hs.at (r := 16) (by omega), hs.at (r := 17) (by omega)]; exact hE
  · rw [hs.at (r := 18) (by omega), hs.at (r := 19) (by omega), hs.at (r := 20) (by omega), hs.at (r := 21) (by omega)]; exact hP
  · rw [hs.at (r := 0) (by omega)]; exact hk
  · rw [hs.at (r := 0) (by omega), hs.at (r := 28) (by omega)]; exact hNn
section TI
variable {cn fn q hr b n h : Nat} {w r d co li so k c a f A : Nat → Nat} {M M' : Mm} {N : Nat}
theorem VRc.scr (hv : VRc M cn q w r d) (hs : Scr M M') : VRc M' cn q w r d := by
  unfold VRc
  rw [hs.at (r := 2) (by omega), hs.at (r := 3) (by omega), hs.at (r := 4) (by omega), hs.at (r := 5) (by omega), hs.at (r := 6) (by omega)]
  exact hv
theorem VRf.scr (hv : VRf M fn co li so) (hs : Scr M M') : VRf M' fn co li so := by
  unfold VRf
  rw [hs.at (r := 7) (by omega), hs.at (r := 10) (by omega), hs.at (r := 11) (by omega), hs.at (r := 13) (by omega)]
  exact hv
theorem VRs.scr (hv : VRs M 0 fn hr k c a f) (hf : fn ≤ 10) (hs : Scr M M') : VRs M' 0 fn hr k c a f := by
  refine ⟨(hs 27 0 (by omega) (by omega)).trans hv.1, fun i hi => ?_⟩
  rw [hs 22 (10 * 0 + i) (by omega) (by omega), hs 23 (10 * 0 + i) (by omega) (by omega), hs 24 (10 * 0 + i) (by omega) (by omega), hs 25 (10 * 0 + i) (by omega) (by omega)]
  exact hv.2 i hi
-- the class: warmth over hours, ages
theorem warmOverX (hv : VXc M cn q w r d) (hb : BC cn q w r d) (hN : 1000 < N) {cc : Nat} (hc : cc < cn) (hh : h ≤ 200000) (hn : n ≤ 5000) : sCells_warmthOver_l N (nI cc) (nI h) (nI n) M = some (nI (n * w cc + OC q h n * r cc)) := by
  obtain ⟨v1, v2, v3⟩ := hv
  obtain ⟨b1, b2, b3, b4⟩ := hb
  obtain ⟨w1, w2, -⟩ := v3 cc hc
  unfold sCells_warmthOver_l
  rw [v2, bitCount24 b3, some_bind, show (24 : Int32) = nI 24 from rfl, div_n (by omega) (by omega) (by omega), pk_mul, ltI_u]
  refine itr_b (fun i => (nI (n / 24 * ctb q.testBit 24 + OC q h i), nI i)) (n % 24) (r := nI (OC q h n)) rfl ?_ ?_ (by omega) ?_
  · intro i hi
    show LCells_warmthOver_l_17_15 N (nI h) (nI n) M (nI (n / 24 * ctb q.testBit 24 + OC q h i)) (nI i) = some (.inl (nI (n / 24 * ctb q.testBit 24 + OC q h (i + 1)), nI (i + 1)))
    unfold LCells_warmthOver_l_17_15
    rw [show (24 : Int32) = nI 24 from rfl, rem_n (by omega) (by omega) (by omega), if_neg (by rw [nIle (by omega) (by omega)]; omega), opnX, v2, nI_add, opnI_n b3 (by omega), some_bind, OC_s]
    have o1 := opN_1 q (h + i)
    rcases (show opN q (h + i) = 0 ∨ opN q (h + i) = 1 by omega) with e | e
    · rw [e, if_pos (show nI 0 = 0 from rfl), ltI_u, nI_s]
      rfl
    · rw [e, if_neg (by decide), ltI_u, ltI_u, nI_s, nI_s]
      rfl
  · show LCells_warmthOver_l_17_15 N (nI h) (nI n) M (nI (n / 24 * ctb q.testBit 24 + OC q h (n % 24))) (nI (n % 24)) = _
    unfold LCells_warmthOver_l_17_15
    rw [show (24 : Int32) = nI 24 from rfl, rem_n (by omega) (by omega) (by omega), if_pos (by rw [nIle (by omega) (by omega)]; omega), ← OC_days, Nat.div_add_mod]
  · show some (nI n * atf 6 (M 24) (nI cc) + nI (OC q h n) * atf 6 (M 25) (nI cc)) = _
    rw [atf_n (by omega) (by omega), atf_n (by omega) (by omega), w1, w2, pk_mul, pk_mul, nI_add]
theorem ageing_n {kk v : Nat} (hk : kk ≤ 3) : sOff_ageing (nI kk) (nI n) (nI v) = some (nI (if kk = 3 then n else if kk = 1 then 2 * (10 * n + v) else 10 * n + v)) := by
  unfold sOff_ageing
  rcases (show kk = 0 ∨ kk = 1 ∨ kk = 2 ∨ kk = 3 by omega) with rfl | rfl | rfl | rfl
  · rw [if_neg (by decide), ltI_u, if_neg (by decide), ten_n, nI_add]; rfl
  · rw [if_neg (by decide), ltI_u, if_pos (by decide), ten_n, nI_add, two_n]; rfl
  · rw [if_neg (by decide), ltI_u, if_neg (by decide), ten_n, nI_add]; rfl
  · rw [if_pos (by decide)]; rfl
theorem ageAsX (hv : VXc M cn q w r d) (hb : BC cn q w r d) (hs : VXs M fn hr k c a f) (hh : hr ≤ 200000) (hf : fn ≤ 10) (hN : 1000 < N) {i kk cc : Nat} (hi : i < fn) (hk : kk ≤ 3) (hc : cc < cn) (hn : n ≤ 5000) : sFridge_ageAs N (nI i) (nI kk) (nI cc) (nI n) M = some (nI (a i + agN kk (w cc) (r cc) q hr n)) := by
  unfold sFridge_ageAs
  rw [ageX (by omega), some_bind, hs.2.1, warmOverX hv hb hN hc hh hn, some_bind, ageing_n hk, some_bind, (hs.2.2 i hi).2.2.1, nI_add]
  rfl
theorem coinLostX (hv : VXc M cn q w r d) (hb : BC cn q w r d) (hs : VXs M fn hr k c a f) (hF : VXf M fn co li so) (hBF : BF fn co li so) (hBS : BS cn fn hr k c a f) (hN : 1000 < N) {i kk cc : Nat} (hi : i < fn) (hk : kk ≤ 3) (hc : cc < cn) (hn : n ≤ 5000) : sFridge_coinLostAs N (nI i) (nI kk) (nI cc) (nI n) M = some (nI (if limN kk (li i) ≤ a i + agN kk (w cc) (r cc) q hr n then co i else 0)) := by
  have hf := hBF.2.1
  obtain ⟨f1, f2, f3, f4⟩ := hBF.2.2 i hi
  obtain ⟨s1, s2, s3, s4⟩ := hBS.2 i hi
  have hh := hBS.1
  obtain ⟨y1, y2, y3, -⟩ := hb.2.2.2 cc hc
  have b1 := agN_le (k := kk) (q := q) (h := hr) y1 y2 n
  have b2 := limN_b (k := kk) f2 f3
  unfold sFridge_coinLostAs
  rw [ageAsX hv hb hs (by omega) hf hN hi hk hc hn, some_bind, limAsX (by omega), some_bind, (hF.2 i hi).2.1, limI_n (by omega), coinX (by omega), some_bind, (hF.2 i hi).1]
  by_cases c0 : limN kk (li i) ≤ a i + agN kk (w cc) (r cc) q hr n
  · rw [if_pos c0, if_neg (nI_nlt c0 (by omega))]
  · rw [if_neg c0, if_pos (nI_lt (by omega) (by omega))]; rfl
/-- coin of what is off and there -/
def sOf (f lim a co : Nat → Nat) (n : Nat) : Nat := smN (fun i => if f i = 0 ∧ lim i ≤ a i then co i else 0) n
theorem nI_is0 {x : Nat} (h : x ≤ 1000) : (nI x = 0) = (x = 0) := by
  rw [show (0 : Int32) = nI 0 from rfl]
  exact nIeq (by omega) (by omega)
/-- ages behind n hours -/
def agF (q hr : Nat) (w r k c a f : Nat → Nat) (n : Nat) : Nat → Nat := fun i => if f i = 0 then a i + agN (k i) (w (c i)) (r (c i)) q hr n else a i
theorem lostX (hv : VXc M cn q w r d) (hb : BC cn q w r d) (hs : VXs M fn hr k c a f) (hF : VXf M fn co li so) (hBF : BF fn co li so) (hBS : BS cn fn hr k c a f) (hN : 1000 < N) (hn : n ≤ 5000) : sFridge_lostBehind N (nI n) M = some (nI (sOf f (fun i => limN (k i) (li i)) (agF q hr w r k c a f n) co fn)) := by
  have hf := hBF.2.1
  unfold sFridge_lostBehind sOf
  generalize he : (fun i => if f i = 0 ∧ limN (k i) (li i) ≤ agF q hr w r k c a f n i then co i else 0) = e
  have hei : ∀ i, e i = if f i = 0 ∧ limN (k i) (li i) ≤ agF q hr w r k c a f n i then co i else 0 := fun i => by rw [← he]
  refine itr_b (fun i => (nI (smN e i), nI i)) fn (r := nI (smN e fn)) rfl ?_ ?_ (by omega) rfl
  · intro i hi
    show LFridge_lostBehind_4_25 N (nI n) M (nI (smN e i)) (nI i) = some (.inl (nI (smN e (i + 1)), nI (i + 1)))
    obtain ⟨s1, s2, s3, s4⟩ := hBS.2 i hi
    obtain ⟨t1, t2, t3, t4⟩ := hs.2.2 i hi
    unfold LFridge_lostBehind_4_25
    rw [hF.1, if_neg (by rw [nIle (by omega) (by omega)]; omega), isThereX hs.1 hf hi, some_bind, t4, smN_s, hei]
    simp only [nI_is0 (show f i ≤ 1000 by omega)]
    by_cases c0 : f i = 0
    · rw [if_pos c0, i10, kindX (by omega), some_bind, cellX (by omega), some_bind, t1, t2, coinLostX hv hb hs hF hBF hBS hN hi s1 s2 hn, some_bind, ltI_u, ltI_u, nI_s, nI_add]
      unfold agF
      rw [if_pos c0]
      by_cases c1 : limN (k i) (li i) ≤ a i + agN (k i) (w (c i)) (r (c i)) q hr n
      · rw [if_pos c1, if_pos ⟨c0, c1⟩]
      · rw [if_neg c1, if_neg (fun z => c1 z.2)]
    · rw [if_neg c0, i00, ltI_u, nI_s, if_neg (fun z => c0 z.1)]
      rfl
  · show LFridge_lostBehind_4_25 N (nI n) M (nI (smN e fn)) (nI fn) = _
    unfold LFridge_lostBehind_4_25
    rw [hF.1, if_pos (by rw [nIle (by omega) (by omega)]; omega)]
-- the reference: hours of a block
def aset (b n : Nat) (A : Nat → Nat) (M : Mm) : Mm := fun r i => if r = 24 ∧ 10 * b ≤ i ∧ i < 10 * b + n then nI (A (i - 10 * b)) else M r i
def tB (b n : Nat) (A : Nat → Nat) (h : Nat) (M : Mm) : Mm := mset (aset b n A M) 27 b (nI h)
theorem aset_ne {r : Nat} (hr : r ≠ 24) : aset b n A M r = M r := funext fun i => if_neg fun z => hr z.1
theorem aset_in {j : Nat} (hj : j < n) : aset b n A M 24 (10 * b + j) = nI (A j) := by
  unfold aset
  rw [if_pos ⟨rfl, by omega, by omega⟩, show 10 * b + j - 10 * b = j by omega]
theorem aset_out {j : Nat} (hj : ¬ (10 * b ≤ j ∧ j < 10 * b + n)) : aset b n A M 24 j = M 24 j := if_neg fun z => hj z.2
theorem aset_s : mset (aset b n A M) 24 (10 * b + n) (nI (A n)) = aset b (n + 1) A M := by
  funext r i
  by_cases hr : r = 24
  · subst hr
    rw [mset_eq]
    by_cases hi : i = 10 * b + n
    · subst hi
      rw [upd_eq, aset_in (by omega)]
    · rw [upd_ne _ _ hi]
      unfold aset
      by_cases c0 : 24 = 24 ∧ 10 * b ≤ i ∧ i < 10 * b + n
      · rw [if_pos c0, if_pos ⟨rfl, by omega, by omega⟩]
      · rw [if_neg c0, if_neg (fun z => c0 ⟨rfl, by omega, by omega⟩)]
  · rw [mset_ne _ _ _ hr, aset_ne hr, aset_ne hr]
theorem aset_congr {A' : Nat → Nat} (h : ∀ j, j < n → A j = A' j) : aset b n A M = aset b n A' M := by
  funext r i
  unfold aset
  by_cases c0 : r = 24 ∧ 10 * b ≤ i ∧ i < 10 * b + n
  · rw [if_pos c0, if_pos c0, h _ (by omega)]
  · rw [if_neg c0, if_neg c0]
theorem tB_congr {A' : Nat → Nat} (e : ∀ j, j < n → A j = A' j) : tB b n A h M = tB b n A' h M := by unfold tB; rw [aset_congr e]
theorem tB_ne {r : Nat} (h1 : r ≠ 24) (h2 : r ≠ 27) : tB b n A h M r = M r := by unfold tB; rw [mset_ne _ _ _ h2, aset_ne h1]
theorem tB_24 {j : Nat} (hj : j < n) : tB b n A h M 24 (10 * b + j) = nI (A j) := by unfold tB; rw [mset_ne _ _ _ (by omega), aset_in hj]
theorem tB_24o {j : Nat} (hj : ¬ (10 * b ≤ j ∧ j < 10 * b + n)) : tB b n A h M 24 j = M 24 j := by unfold tB; rw [mset_ne _ _ _ (by omega), aset_out hj]
theorem tB_27 : tB b n A h M 27 b = nI h := by unfold tB; rw [mset_eq, upd_eq]
theorem tB_27o {j : Nat} (hj : j ≠ b) : tB b n A h M 27 j = M 27 j := by unfold tB; rw [mset_eq, upd_ne _ _ hj, aset_ne (by omega)]
theorem tB_self (hs : VRs M b fn hr k c a f) : tB b fn a hr M = M := by
  funext r i
  unfold tB
  by_cases h27 : r = 27
  · subst h27
    rw [mset_eq]
    by_cases hi : i = b
    · subst hi; rw [upd_eq, hs.1]
    · rw [upd_ne _ _ hi, aset_ne (by omega)]
  · rw [mset_ne _ _ _ h27]
    unfold aset
    by_cases c0 : r = 24 ∧ 10 * b ≤ i ∧ i < 10 * b + fn
    · rw [if_pos c0]
      obtain ⟨rfl, c1, c2⟩ := c0
      have := (hs.2 (i - 10 * b) (by omega)).2.2.1
      rw [show 10 * b + (i - 10 * b) = i by omega] at this
      exact this.symm
    · rw [if_neg c0]
theorem agesBy_n {kk v : Nat} (hk : kk ≤ 3) : sRef_agesBy (nI kk) (nI v) = some (nI (agH kk v)) := by
  unfold sRef_agesBy agH
  rcases (show kk = 0 ∨ kk = 1 ∨ kk = 2 ∨ kk = 3 by omega) with rfl | rfl | rfl | rfl
  · rw [if_neg (by decide), if_neg (by decide), show (10 : Int32) = nI 10 from rfl, nI_add, show (1 : Int32) = nI 1 from rfl, pk_mul, Nat.mul_one]; rfl
  · rw [if_neg (by decide), if_pos (by decide), show (10 : Int32) = nI 10 from rfl, nI_add, show (2 : Int32) = nI 2 from rfl, pk_mul]; rfl
  · rw [if_neg (by decide), if_neg (by decide), show (10 : Int32) = nI 10 from rfl, nI_add, show (1 : Int32) = nI 1 from rfl, pk_mul, Nat.mul_one]; rfl
  · rw [if_pos (by decide)]; rfl
/-- what an hour of a block stands on -/
def HB (M : Mm) (b fn cn q : Nat) (w r d k c f : Nat → Nat) : Prop := b < 4 ∧ fn ≤ 10 ∧ M 7 0 = nI fn ∧ VRc M cn q w r d ∧ BC cn q w r d ∧ ∀ i, i < fn → k i ≤ 3 ∧ c i < cn ∧ f i ≤ 2 ∧ M 22 (10 * b + i) = nI (k i) ∧ M 23 (10 * b + i) = nI (c i) ∧ M 25 (10 * b + i) = nI (f i)
theorem goHourR (H : HB M b fn cn q w r d k c f) (hN : 1000 < N) (hh : h ≤ 200000) : sRef_goHour N (nI b) (tB b fn A h M) = some (tB b fn (fun i => if f i = 0 then A i + agH (k i) (w (c i) + opN q h * r (c i)) else A i) (h + 1) M) := by
  obtain ⟨hb4, hf10, h7, ⟨v1, v2, v3⟩, ⟨b1, b2, b3, b4⟩, hs⟩ := H
  obtain ⟨A', hA⟩ : ∃ A' : Nat → Nat, A' = fun i => if f i = 0 then A i + agH (k i) (w (c i) + opN q h * r (c i)) else A i := ⟨_, rfl⟩
  rw [← hA]
  have hAi : ∀ i, A' i = if f i = 0 then A i + agH (k i) (w (c i) + opN q h * r (c i)) else A i := fun i => by rw [hA]
  unfold sRef_goHour
  -- the memory at food n
  have e0 : ∀ n, n ≤ fn → ∀ j, n ≤ j → j < fn → aset b n A' (tB b fn A h M) 24 (10 * b + j) = nI (A j) := fun n hn j h1 h2 => by
    rw [aset_out (by omega), tB_24 h2]
  refine itr_b (fun n => (nI n, aset b n A' (tB b fn A h M))) fn (r := aset b fn A' (tB b fn A h M)) ?_ ?_ ?_ (by omega) ?_
  · have : aset b 0 A' (tB b fn A h M) = tB b fn A h M := by
      funext r i
      unfold aset
      rw [if_neg (by omega)]
    rw [this]
    rfl
  · intro n hn
    show LRef_goHour_2_39 N (nI b) (nI n) (aset b n A' (tB b fn A h M)) = some (.inl (nI (n + 1), aset b (n + 1) A' (tB b fn A h M)))
    obtain ⟨k1, c1, f1, g1, g2, g3⟩ := hs n hn
    have e7 : aset b n A' (tB b fn A h M) 7 = M 7 := by rw [aset_ne (by omega), tB_ne (by omega) (by omega)]
    have e22 : aset b n A' (tB b fn A h M) 22 = M 22 := by rw [aset_ne (by omega), tB_ne (by omega) (by omega)]
    have e23 : aset b n A' (tB b fn A h M) 23 = M 23 := by rw [aset_ne (by omega), tB_ne (by omega) (by omega)]
    have e25 : aset b n A' (tB b fn A h M) 25 = M 25 := by rw [aset_ne (by omega), tB_ne (by omega) (by omega)]
    have e27 : aset b n A' (tB b fn A h M) 27 b = nI h := by rw [aset_ne (by omega), tB_27]
    have e24 := e0 n (by omega) n (Nat.le_refl n) hn
    have e3 : aset b n A' (tB b fn A h M) 3 = M 3 := by rw [aset_ne (by omega), tB_ne (by omega) (by omega)]
    have e4 : aset b n A' (tB b fn A h M) 4 = M 4 := by rw [aset_ne (by omega), tB_ne (by omega) (by omega)]
    have e6 : aset b n A' (tB b fn A h M) 6 = M 6 := by rw [aset_ne (by omega), tB_ne (by omega) (by omega)]
    rw [← aset_s]
    generalize aset b n A' (tB b fn A h M) = m at e7 e22 e23 e25 e27 e24 e3 e4 e6
    unfold LRef_goHour_2_39
    rw [rdc_0 (by omega) (by omega), e7, h7, if_neg (by rw [nIle (by omega) (by omega)]; omega), ltI_u, ten_n, nI_add, rdc_n (by omega) (by omega), rdc_n (by omega) (by omega), e25, g3, e24, hAi]
    by_cases c0 : f n = 0
    · obtain ⟨w1, w2, w3⟩ := v3 (c n) c1
      rw [if_pos c0, c0, if_pos (show nI 0 = 0 from rfl), rdc_n (by omega) (by omega), rdc_n (by omega) (by omega), rdc_n (by omega) (by omega), e22, e23, e27, g1, g2, warmR (by omega), some_bind, e3, e4, e6, v2, w1, w2, wrmI_n b3 (by omega), agesBy_n k1, some_bind, inc_n (by omega) (by omega), ltM_u, ltI_u, nI_s, cl_n (by omega), nI_add]
    · rw [if_neg c0, if_neg (nI_ne0 (by omega) (by omega)), inc_n (by omega) (by omega), ltM_u, ltI_u, nI_s, cl_n (by omega), add_z]
  · show LRef_goHour_2_39 N (nI b) (nI fn) (aset b fn A' (tB b fn A h M)) = _
    unfold LRef_goHour_2_39
    rw [rdc_0 (by omega) (by omega), show aset b fn A' (tB b fn A h M) 7 0 = nI fn from by rw [aset_ne (by omega), tB_ne (by omega) (by omega)]; exact h7, if_pos (by rw [nIle (by omega) (by omega)]; omega)]
  · show rdc 4 (aset b fn A' (tB b fn A h M) 27) (nI b) _ = _
    rw [rdc_n hb4 (by omega), inc_n hb4 (by omega), ltM_u, cl_n (by omega), aset_ne (by omega), tB_27, nI_s]
    refine congrArg some ?_
    unfold tB
    funext r i
    by_cases h27 : r = 27
    · subst h27
      rw [mset_eq, mset_eq]
      by_cases hi : i = b
      · subst hi; rw [upd_eq, upd_eq]
      · rw [upd_ne _ _ hi, upd_ne _ _ hi, aset_ne (by omega), mset_eq, upd_ne _ _ hi, aset_ne (by omega), aset_ne (by omega)]
    · rw [mset_ne _ _ _ h27, mset_ne _ _ _ h27]
      by_cases h24 : r = 24
      · subst h24
        unfold aset
        by_cases c0 : 24 = 24 ∧ 10 * b ≤ i ∧ i < 10 * b + fn
        · rw [if_pos c0, if_pos c0]
        · rw [if_neg c0, if_neg c0, mset_ne _ _ _ (by omega), if_neg c0]
      · rw [aset_ne h24, aset_ne h24, mset_ne _ _ _ h27, aset_ne h24]
theorem agF_s (i : Nat) : agF q hr w r k c a f (n + 1) i = if f i = 0 then agF q hr w r k c a f n i + agH (k i) (w (c i) + opN q (hr + n) * r (c i)) else agF q hr w r k c a f n i := by
  unfold agF
  by_cases c0 : f i = 0
  · rw [if_pos c0, if_pos c0, if_pos c0, agN_s, Nat.add_assoc]
  · rw [if_neg c0, if_neg c0, if_neg c0]
theorem agF_0 : agF q hr w r k c a f 0 = a := by
  funext i
  unfold agF
  rw [agN_0, Nat.add_zero]
  by_cases c0 : f i = 0
  · rw [if_pos c0]
  · rw [if_neg c0]
theorem goHourF (H : HB M b fn cn q w r d k c f) (hN : 1000 < N) (hh : hr + n ≤ 200000) : sRef_goHour N (nI b) (tB b fn (agF q hr w r k c a f n) (hr + n) M) = some (tB b fn (agF q hr w r k c a f (n + 1)) (hr + (n + 1)) M) := by
  rw [goHourR H hN hh]
  refine congrArg some ?_
  rw [show hr + (n + 1) = hr + n + 1 by omega]
  exact tB_congr fun j hj => (agF_s j).symm
theorem offCoinR (hb : b < 4) (h7 : VRf M fn co li so) (hBF : BF fn co li so) (hN : 1000 < N) (hs : ∀ i, i < fn → k i ≤ 3 ∧ f i ≤ 2 ∧ a i ≤ 100000000 ∧ M 22 (10 * b + i) = nI (k i) ∧ M 24 (10 * b + i) = nI (a i) ∧ M 25 (10 * b + i) = nI (f i)) : sRef_offCoin N (nI b) M = some (nI (sOf f (fun i => limN (k i) (li i)) a co fn)) := by
  have hf := hBF.2.1
  unfold sRef_offCoin sOf
  generalize he : (fun i => if f i = 0 ∧ limN (k i) (li i) ≤ a i then co i else 0) = e
  have hei : ∀ i, e i = if f i = 0 ∧ limN (k i) (li i) ≤ a i then co i else 0 := fun i => by rw [← he]
  refine itr_b (fun i => (nI (smN e i), nI i)) fn (r := nI (smN e fn)) rfl ?_ ?_ (by omega) rfl
  · intro i hi
    show LRef_offCoin_4_29 N (nI b) M (nI (smN e i)) (nI i) = some (.inl (nI (smN e (i + 1)), nI (i + 1)))
    obtain ⟨k1, f1, a1, g1, g2, g3⟩ := hs i hi
    obtain ⟨l1, l2, l3, l4⟩ := hBF.2.2 i hi
    obtain ⟨m1, m2, m3⟩ := h7.2 i hi
    have b2 := limN_b (k := k i) l2 l3
    unfold LRef_offCoin_4_29
    rw [rdc_0 (by omega) (by omega), h7.1, if_neg (by rw [nIle (by omega) (by omega)]; omega), ten_n, nI_add, rdc_n (by omega) (by omega), g3, isOffR (by omega), show (10 * b + i) % 10 = i by omega, g1, g2, m2, smN_s, hei]
    simp only [nI_is0 (show f i ≤ 1000 by omega)]
    by_cases c0 : f i = 0
    · rw [if_pos c0, some_bind]
      unfold offI
      rw [limI_n (by omega)]
      by_cases c1 : limN (k i) (li i) ≤ a i
      · rw [if_neg (nI_nlt c1 (by omega)), if_pos (show f i = 0 ∧ limN (k i) (li i) ≤ a i from ⟨c0, c1⟩), i10, rdc_n (by omega) (by omega), m1, ltI_u, ltI_u, nI_s, nI_add]
      · rw [if_pos (nI_lt (by omega) (by omega)), if_neg (show ¬ (f i = 0 ∧ limN (k i) (li i) ≤ a i) from fun z => c1 z.2), i00, ltI_u, ltI_u, nI_s, add_z]
        rfl
    · rw [if_neg c0, if_neg (fun z => c0 z.1), ltI_u, ltI_u, nI_s, add_z]
      rfl
  · show LRef_offCoin_4_29 N (nI b) M (nI (smN e fn)) (nI fn) = _
    unfold LRef_offCoin_4_29
    rw [rdc_0 (by omega) (by omega), h7.1, if_pos (by rw [nIle (by omega) (by omega)]; omega)]
theorem copy01 (hN : 1000 < N) (hf : fn ≤ 10) (hs : VRs M 0 fn hr k c a f) : ∃ M', sRef_copy N 0 1 M = some M' ∧ Scr M M' ∧ VRs M' 1 fn hr k c a f := by
  refine ⟨_, copyR (a := 0) (b := 1) hN (by omega) (by omega) (by omega) M, fun r i h1 h2 => ?_, ?_, fun i hi => ?_⟩
  · by_cases h27 : r = 27
    · subst h27
      rw [mset_eq, upd_ne _ _ (by omega), cpR_ne (by omega)]
    · rw [mset_ne _ _ _ h27]
      unfold cpR
      rw [if_neg (by omega)]
  · rw [mset_eq, upd_eq]; exact hs.1
  · rw [mset_ne _ _ _ (by omega), mset_ne _ _ _ (by omega), mset_ne _ _ _ (by omega), mset_ne _ _ _ (by omega), cpR_in (by omega) (by omega), cpR_in (by omega) (by omega), cpR_in (by omega) (by omega), cpR_in (by omega) (by omega)]
    exact hs.2 i hi
theorem tB_scr : fn ≤ 10 → Scr M (tB 1 fn A h M) := fun hf r i h1 h2 => by
  by_cases h27 : r = 27
  · subst h27
    rw [tB_27o (by omega)]
  · by_cases h24 : r = 24
    · subst h24
      rw [tB_24o (by omega)]
    · rw [tB_ne h24 h27]
theorem agF_le (hb : BC cn q w r d) {i : Nat} (hc : c i < cn) (ha : a i ≤ 618 * hr) : agF q hr w r k c a f n i ≤ 618 * (hr + n) := by
  obtain ⟨y1, y2, -⟩ := hb.2.2.2 (c i) hc
  have b1 := agN_le (k := k i) (q := q) (h := hr) y1 y2 n
  unfold agF
  split <;> omega
theorem lostOfR (H : HB M 1 fn cn q w r d k c f) (hF : VRf M fn co li so) (hBF : BF fn co li so) (hs : VRs M 1 fn hr k c a f) (hN : 1000 < N) (hh : hr + n ≤ 150000) (hn : n ≤ 600) (ha : ∀ i, i < fn → a i ≤ 618 * hr) : ∃ M', sRef_lostOf N (nI n) M = some (nI (sOf f (fun i => limN (k i) (li i)) (agF q hr w r k c a f n) co fn), M') ∧ Scr M M' := by
  have hf := hBF.2.1
  have H2 := H
  obtain ⟨-, -, -, -, hB, hst⟩ := H2
  refine ⟨tB 1 fn (agF q hr w r k c a f n) (hr + n) M, ?_, tB_scr hf⟩
  have lp : itr (fun z : Int32 × Mm => LRef_lostOf_2_7 N (nI n) z.1 z.2) N (0, M) = some (tB 1 fn (agF q hr w r k c a f n) (hr + n) M) := by
    refine itr_n (fun j => (nI j, tB 1 fn (agF q hr w r k c a f j) (hr + j) M)) n ?_ ?_ ?_ (by omega)
    · rw [agF_0, Nat.add_zero, tB_self hs]; rfl
    · intro j hj
      show LRef_lostOf_2_7 N (nI n) (nI j) (tB 1 fn (agF q hr w r k c a f j) (hr + j) M) = some (.inl (nI (j + 1), tB 1 fn (agF q hr w r k c a f (j + 1)) (hr + (j + 1)) M))
      unfold LRef_lostOf_2_7
      rw [if_neg (by rw [nIle (by omega) (by omega)]; omega), show (1 : Int32) = nI 1 from rfl, goHourF H hN (by omega), some_bind, ltI_u, nI_add]
    · show LRef_lostOf_2_7 N (nI n) (nI n) (tB 1 fn (agF q hr w r k c a f n) (hr + n) M) = _
      unfold LRef_lostOf_2_7
      rw [if_pos (by rw [nIle (by omega) (by omega)]; omega)]
  unfold sRef_lostOf
  rw [lp, some_bind, show (1 : Int32) = nI 1 from rfl, offCoinR (b := 1) (by omega) (hF.scr (tB_scr hf)) hBF hN (fun i hi => ?_), some_bind]
  obtain ⟨k1, c1, f1, g1, g2, g3⟩ := hst i hi
  have := agF_le (k := k) (f := f) (n := n) hB c1 (ha i hi)
  refine ⟨k1, f1, by omega, ?_, tB_24 hi, ?_⟩
  · rw [tB_ne (by omega) (by omega)]; exact g1
  · rw [tB_ne (by omega) (by omega)]; exact g3
theorem HB_of (hb : b < 4) (hC : VRc M cn q w r d) (hB : BC cn q w r d) (hF : VRf M fn co li so) (hBF : BF fn co li so) (hBS : BS cn fn hr k c a f) (hs : VRs M b fn hr k c a f) : HB M b fn cn q w r d k c f :=
  ⟨hb, hBF.2.1, hF.1, hC, hB, fun i hi => ⟨(hBS.2 i hi).1, (hBS.2 i hi).2.1, (hBS.2 i hi).2.2.2, (hs.2 i hi).1, (hs.2 i hi).2.1, (hs.2 i hi).2.2.2⟩⟩
end TI
theorem in0_500 (a : Int32) : sRef_in (Int32.toInt64 a) 0 500 = sOff_isWithin a 0 500 := in_eq a 0 500
theorem ok_lost {N : Nat} (hN : 1000 < N) : Ok_lost Rel N := by
  intro a1 MX MR h
  obtain ⟨cn, fn, q, hr, w, r, d, co, li, so, k, c, a, f, bC, bF, bS, xC, xF, xS, rC, rF, rS⟩ := Rel_view h
  by_cases hw : (0 : Int32).toInt ≤ a1.toInt ∧ a1.toInt ≤ (500 : Int32).toInt
  · obtain ⟨n, hn, rfl⟩ := nI_ofRange (n := 501) (a := a1) hw.1 (by have t : a1.toInt ≤ 500 := hw.2; omega) (by omega)
    have hh := bS.1
    obtain ⟨M1, m1, m2, m3⟩ := copy01 hN bF.2.1 rS
    obtain ⟨S, hx, M2, m4, m5⟩ : ∃ S, sFridge_lostBehind N (nI n) MX = some S ∧ ∃ M2, sRef_lostOf N (nI n) M1 = some (S, M2) ∧ Scr M1 M2 := ⟨_, lostX xC bC xS xF bF bS hN (by omega), lostOfR (HB_of (by omega) (rC.scr m2) bC (rF.scr m2) bF bS m3) (rF.scr m2) bF m3 hN (n := n) (by omega) (by omega) fun i hi => (bS.2 i hi).2.2.1⟩
    refine ⟨S, M2, ?_, ?_, Rel_scr h (m2.trans m5)⟩
    · unfold sOff_lost
      rw [within_T hw.1 hw.2, some_bind, i10, hx, some_bind]
    · unfold sRef_lost sRef_isLater
      rw [in0_500, within_T hw.1 hw.2, some_bind, some_bind, i10, m1, some_bind, m4, some_bind]
  · exact ⟨-1, MR, by unfold sOff_lost; rw [within_F hw]; rfl, by unfold sRef_lost sRef_isLater; rw [in0_500, within_F hw]; rfl, h⟩
