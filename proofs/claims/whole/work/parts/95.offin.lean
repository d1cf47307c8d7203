/-! PURE PART 16: off in; freeze. By hand. -/
theorem OC_24 (q h : Nat) : ∀ n, OC q (h + 24) n = OC q h n
  | 0 => rfl
  | n + 1 => by rw [OC_s, OC_s, OC_24 q h n, show h + 24 + n = (h + n) + 24 by omega, opN_24]
theorem agN_24 (k w r q h n : Nat) : agN k w r q (h + 24) n = agN k w r q h n := by unfold agN; rw [OC_24]
theorem agN_days (k w r q h j : Nat) : ∀ d, agN k w r q h (24 * d + j) = d * agN k w r q h 24 + agN k w r q h j
  | 0 => by rw [Nat.mul_zero, Nat.zero_add, Nat.zero_mul, Nat.zero_add]
  | d + 1 => by
    rw [show 24 * (d + 1) + j = 24 + (24 * d + j) by omega, agN_add, agN_24, agN_days k w r q h j d, Nat.add_mul, Nat.one_mul]
    omega
theorem agN_mono (k w r q h i : Nat) : ∀ j, agN k w r q h i ≤ agN k w r q h (i + j)
  | 0 => Nat.le_refl _
  | j + 1 => by
    have h1 := agN_mono k w r q h i j
    rw [← Nat.add_assoc, agN_s]
    omega
theorem agN_ge (k w r q h : Nat) : ∀ j, j ≤ agN k w r q h j
  | 0 => Nat.zero_le _
  | j + 1 => by
    have h1 := agN_ge k w r q h j
    have h2 := agH_pos k (w + opN q (h + j) * r)
    rw [agN_s]
    omega
section OI
variable {cn fn q hr b n h : Nat} {w r d co li so k c a f A : Nat → Nat} {M M' : Mm} {N : Nat}
theorem offInR (hv : VRc M cn q w r d) (hb : BC cn q w r d) (h27 : M 27 0 = nI hr) (hh : hr ≤ 99999) {i cc kk lim m av : Nat} (hi : i < 10) (hc : cc < cn) (hk : kk ≤ 3) (h22 : M 22 i = nI kk) (hl : lim ≤ 20000) (hm : ∀ j, j < m → av + agN kk (w cc) (r cc) q hr j < lim) (hm2 : lim ≤ av + agN kk (w cc) (r cc) q hr m) (hav : av ≤ 100000000) (hN : 10000 < N) : itr (fun z : Int32 × Int32 => LRef_offIn_47_20 N (nI i) (nI cc) M (nI lim) z.1 z.2) N (nI av, 0) = some (if m ≤ 5000 then .inl (nI m) else .inr ()) := by
  obtain ⟨y1, y2, -⟩ := hb.2.2.2 cc hc
  obtain ⟨w1, w2, -⟩ := hv.2.2 cc hc
  have hc6 : cc < 6 := by have := hb.2.1; omega
  have step : ∀ j, j < m → j ≤ 5000 → LRef_offIn_47_20 N (nI i) (nI cc) M (nI lim) (nI (av + agN kk (w cc) (r cc) q hr j)) (nI j) = some (.inl (nI (av + agN kk (w cc) (r cc) q hr (j + 1)), nI (j + 1))) := fun j hj hj5 => by
    have h1 := hm j hj
    unfold LRef_offIn_47_20
    rw [if_neg (by rw [show (5000 : Int32) = nI 5000 from rfl, nIlt (by omega) (by omega)]; omega), if_pos (nI_lt h1 (by omega)), rdc_n (by omega) (by omega), h22, rdc_0 (by omega) (by omega), h27, nI_add, warmR (by omega), some_bind, w1, w2, hv.2.1, wrmI_n hb.2.2.1 (by omega), agesBy_n hk, some_bind, nI_add, ltI_u, ltI_u, nI_s, agN_s, Nat.add_assoc]
  by_cases h5 : m ≤ 5000
  · rw [if_pos h5]
    refine itr_n (fun j => (nI (av + agN kk (w cc) (r cc) q hr j), nI j)) m (by rw [agN_0, Nat.add_zero]; rfl) (fun j hj => step j hj (by omega)) ?_ (by omega)
    show LRef_offIn_47_20 N (nI i) (nI cc) M (nI lim) (nI (av + agN kk (w cc) (r cc) q hr m)) (nI m) = _
    have := agN_le (k := kk) (q := q) (h := hr) y1 y2 m
    unfold LRef_offIn_47_20
    rw [if_neg (by rw [show (5000 : Int32) = nI 5000 from rfl, nIlt (by omega) (by omega)]; omega), if_neg (nI_nlt hm2 (by omega))]
  · rw [if_neg h5]
    refine itr_n (fun j => (nI (av + agN kk (w cc) (r cc) q hr j), nI j)) 5001 (by rw [agN_0, Nat.add_zero]; rfl) (fun j hj => step j (by omega) (by omega)) ?_ (by omega)
    show LRef_offIn_47_20 N (nI i) (nI cc) M (nI lim) (nI (av + agN kk (w cc) (r cc) q hr 5001)) (nI 5001) = _
    unfold LRef_offIn_47_20
    rw [if_pos (by decide)]
theorem offInX (hv : VXc M cn q w r d) (hb : BC cn q w r d) (hs : VXs M fn hr k c a f) (hF : VXf M fn co li so) (hBF : BF fn co li so) (hBS : BS cn fn hr k c a f) (hN : 1000 < N) {i cc : Nat} (hi : i < fn) (hc : cc < cn) : ∃ m, (∀ j, j < m → a i + agN (k i) (w cc) (r cc) q hr j < limN (k i) (li i)) ∧ limN (k i) (li i) ≤ a i + agN (k i) (w cc) (r cc) q hr m ∧ sFridge_hoursTillOff N (nI i) (nI cc) M = some (if m ≤ 5000 then nI m else -4) := by
  have hf := hBF.2.1
  obtain ⟨f1, f2, f3, f4⟩ := hBF.2.2 i hi
  obtain ⟨s1, s2, s3, s4⟩ := hBS.2 i hi
  obtain ⟨t1, t2, t3, t4⟩ := hs.2.2 i hi
  have hh := hBS.1
  obtain ⟨y1, y2, y3, -⟩ := hb.2.2.2 cc hc
  obtain ⟨w1, w2, -⟩ := hv.2.2 cc hc
  have hc6 : cc < 6 := by have := hb.2.1; omega
  have b2 := limN_b (k := k i) f2 f3
  obtain ⟨lim, hlim⟩ : ∃ lim, lim = limN (k i) (li i) := ⟨_, rfl⟩
  obtain ⟨av, hav⟩ : ∃ av, av = a i := ⟨_, rfl⟩
  obtain ⟨kk, hkk⟩ : ∃ kk, kk = k i := ⟨_, rfl⟩
  have head : sFridge_hoursTillOff N (nI i) (nI cc) M = ltI (nI lim - nI av) fun zv4 =>
      (if 0 < zv4 then (sCells_warmthOver_l N (nI cc) (M 40 6) 24 M).bind fun zv5 =>
      (sOff_ageing (nI kk) 24 zv5).bind fun zv6 =>
      (((if zv6 ≤ 0 then some 0 else dvc zv6 (some ((zv4 - 1) / zv6))) : Option (Int32))).bind fun zv7 =>
      ltI (zv7 * 24) fun zv9 =>
      ltI (zv4 - (zv7 * zv6)) fun zv10 =>
      (itr (fun z : Int32 × Int32 × Int32 => LFridge_hoursTillOff_98_24 N (nI cc) M (nI kk) z.1 z.2.1 z.2.2) N (zv10, zv9, 0)).bind fun zv25 =>
      (if 5000 < zv25 then some (-4) else some zv25)
      else some 0) := by
    unfold sFridge_hoursTillOff
    rw [kindX (by omega), some_bind, limX (by omega), some_bind, ageX (by omega), some_bind, t1, t3, (hF.2 i hi).2.1, limI_n (by omega), hlim, hav, hkk]
  rw [head, ← hlim, ← hav, ← hkk]
  rw [← hlim] at b2
  rw [← hav] at s3
  rw [← hkk] at s1
  clear head
  by_cases c0 : lim ≤ av
  · refine ⟨0, fun j hj => absurd hj (by omega), by rw [agN_0]; omega, ?_⟩
    rw [ltI_u, if_neg ?_, if_pos (by omega)]
    · rfl
    · rw [Int32.lt_iff_toInt_lt, pk_sub_toInt (by omega) (by omega), tz]; omega
  · obtain ⟨L, hL⟩ : ∃ L, L = lim - av := ⟨_, rfl⟩
    have hL0 : 1 ≤ L := by omega
    obtain ⟨D24, hD⟩ : ∃ D24, D24 = agN kk (w cc) (r cc) q hr 24 := ⟨_, rfl⟩
    have d1 := agN_ge kk (w cc) (r cc) q hr 24
    have d2 := agN_le (k := kk) (q := q) (h := hr) y1 y2 24
    rw [← hD] at d1 d2
    obtain ⟨D, hDD⟩ : ∃ D, D = (L - 1) / D24 := ⟨_, rfl⟩
    have e1 : D * D24 ≤ L - 1 := by rw [hDD]; exact Nat.div_mul_le_self _ _
    have e2 : L - 1 < (D + 1) * D24 := by
      rw [hDD]
      exact Nat.lt_mul_of_div_lt (Nat.lt_succ_self _) (by omega)
    rw [Nat.add_mul, Nat.one_mul] at e2
    have hDb : D ≤ 1000 := by
      have : D * 24 ≤ D * D24 := Nat.mul_le_mul_left _ d1
      omega
    obtain ⟨j, hj1, hj2⟩ := pk_least (fun j => L - D * D24 ≤ agN kk (w cc) (r cc) q hr j) ⟨24, by show L - D * D24 ≤ agN kk (w cc) (r cc) q hr 24; rw [← hD]; omega⟩
    have hj1 : L - D * D24 ≤ agN kk (w cc) (r cc) q hr j := hj1
    have hj24 : j ≤ 24 := by
      by_cases h : j ≤ 24
      · exact h
      · exact absurd (show L - D * D24 ≤ agN kk (w cc) (r cc) q hr 24 by rw [← hD]; omega) (hj2 24 (by omega))
    have hlt : ∀ i, i < j → agN kk (w cc) (r cc) q hr i < L - D * D24 := fun i hi => by
      have : ¬ (L - D * D24 ≤ agN kk (w cc) (r cc) q hr i) := hj2 i hi
      omega
    have gd : ∀ i, agN kk (w cc) (r cc) q hr (24 * D + i) = D * D24 + agN kk (w cc) (r cc) q hr i := fun i => by rw [agN_days, hD]
    refine ⟨24 * D + j, fun i hi => ?_, by rw [gd]; omega, ?_⟩
    · by_cases h : 24 * D ≤ i
      · obtain ⟨i', rfl⟩ : ∃ i', i = 24 * D + i' := ⟨i - 24 * D, by omega⟩
        have := hlt i' (by omega)
        rw [gd]
        omega
      · have g1 := agN_mono kk (w cc) (r cc) q hr i (24 * D - i)
        have g2 := gd 0
        rw [agN_0, Nat.add_zero, Nat.add_zero] at g2
        rw [show i + (24 * D - i) = 24 * D by omega, g2] at g1
        omega
    · have lp : itr (fun z : Int32 × Int32 × Int32 => LFridge_hoursTillOff_98_24 N (nI cc) M (nI kk) z.1 z.2.1 z.2.2) N (nI (L - D * D24), nI (24 * D), 0) = some (nI (24 * D + j)) := by
        refine itr_n (fun i => (nI (L - D * D24) - nI (agN kk (w cc) (r cc) q hr i), nI (24 * D + i), nI i)) j ?_ ?_ ?_ (by omega)
        · rw [agN_0, show nI 0 = 0 from rfl, Int32.sub_zero]; rfl
        · intro i hi
          have hi' := hlt i hi
          show LFridge_hoursTillOff_98_24 N (nI cc) M (nI kk) (nI (L - D * D24) - nI (agN kk (w cc) (r cc) q hr i)) (nI (24 * D + i)) (nI i) = some (.inl (nI (L - D * D24) - nI (agN kk (w cc) (r cc) q hr (i + 1)), nI (24 * D + (i + 1)), nI (i + 1)))
          unfold LFridge_hoursTillOff_98_24
          rw [if_neg (by rw [show (24 : Int32) = nI 24 from rfl, nIle (by omega) (by omega)]; omega), if_neg (by rw [Int32.le_iff_toInt_le, pk_sub_toInt (by omega) (by omega), tz]; omega), hs.2.1, nI_add, warmX hc6, some_bind, w1, w2, hv.2.1, wrmI_n hb.2.2.1 (by omega), show (1 : Int32) = nI 1 from rfl, ageing_n s1, some_bind, ltI_u, nI_add, nI_add, ltI_u, ltI_u, agN_s, ← nI_add (agN kk (w cc) (r cc) q hr i)]
          have e : (if kk = 3 then 1 else if kk = 1 then 2 * (10 * 1 + (w cc + opN q (hr + i) * r cc)) else 10 * 1 + (w cc + opN q (hr + i) * r cc)) = agH kk (w cc + opN q (hr + i) * r cc) := by
            unfold agH
            split
            · rfl
            · split <;> omega
          rw [e, Int32.sub_eq_add_neg, Int32.sub_eq_add_neg, Int32.sub_eq_add_neg, Int32.neg_add, Int32.sub_eq_add_neg, ← Int32.add_assoc, Nat.add_assoc]
        · show LFridge_hoursTillOff_98_24 N (nI cc) M (nI kk) (nI (L - D * D24) - nI (agN kk (w cc) (r cc) q hr j)) (nI (24 * D + j)) (nI j) = _
          have := agN_le (k := kk) (q := q) (h := hr) y1 y2 j
          unfold LFridge_hoursTillOff_98_24
          by_cases h24 : j = 24
          · rw [if_pos (by rw [show (24 : Int32) = nI 24 from rfl, nIle (by omega) (by omega)]; omega)]
          · rw [if_neg (by rw [show (24 : Int32) = nI 24 from rfl, nIle (by omega) (by omega)]; omega), if_pos (by rw [Int32.le_iff_toInt_le, pk_sub_toInt (by omega) (by omega), tz]; omega)]
      have hw24 := warmOverX hv hb hN hc (show hr ≤ 200000 by omega) (show (24 : Nat) ≤ 5000 by omega)
      have eag : (if kk = 3 then 24 else if kk = 1 then 2 * (10 * 24 + (24 * w cc + OC q hr 24 * r cc)) else 10 * 24 + (24 * w cc + OC q hr 24 * r cc)) = D24 := by rw [hD]; rfl
      rw [ltI_u, pk_sub (by omega), ← hL, if_pos (nI_p0 (by omega) (by omega)), hs.2.1, show (24 : Int32) = nI 24 from rfl, hw24, some_bind, ageing_n s1, some_bind, eag, if_neg (nI_nle (by omega) (by omega))]
      unfold dvc
      rw [if_neg (nI_ne0 (by omega) (by omega)), show (1 : Int32) = nI 1 from rfl, pk_sub (by omega), pk_div (by omega) (by omega) (by omega), ← hDD, some_bind, pk_mul, ltI_u, pk_mul, pk_sub (by omega), ltI_u, show D * 24 = 24 * D by omega, lp, some_bind]
      by_cases h5 : 24 * D + j ≤ 5000
      · rw [if_pos h5, if_neg (by rw [show (5000 : Int32) = nI 5000 from rfl, nIlt (by omega) (by omega)]; omega)]
      · rw [if_neg h5, if_pos (by rw [show (5000 : Int32) = nI 5000 from rfl, nIlt (by omega) (by omega)]; omega)]
end OI
theorem ok_offIn {N : Nat} (hN : 10000 < N) : Ok_offIn Rel N := by
  intro a1 a2 MX MR h
  obtain ⟨cn, fn, q, hr, w, r, d, co, li, so, k, c, a, f, bC, bF, bS, xC, xF, xS, rC, rF, rS⟩ := Rel_view h
  have hf := bF.2.1
  have hcn := bC.2.1
  rcases hasFood_iff xF.1 bF.2.1 a1 with ⟨i, hi, rfl, e⟩ | ⟨hout, e⟩
  · rcases hasCell_iff xC.1 bC.2.1 a2 with ⟨cc, hc, rfl, e'⟩ | ⟨hout, e'⟩
    · obtain ⟨s1, s2, s3, s4⟩ := bS.2 i hi
      obtain ⟨t1, t2, t3, t4⟩ := xS.2.2 i hi
      obtain ⟨r1, r2, r3, r4⟩ := rS.2 i hi
      obtain ⟨f1, f2, f3, f4⟩ := bF.2.2 i hi
      have hh := bS.1
      have b2 := limN_b (k := k i) f2 f3
      rw [show 10 * 0 + i = i by omega] at r1 r2 r3 r4
      by_cases c0 : f i = 0
      · obtain ⟨m, m1, m2, m3⟩ := offInX xC bC xS xF bF bS (show 1000 < N by omega) hi hc
        refine ⟨if m ≤ 5000 then nI m else -4, ?_, ?_, h⟩
        · unfold sOff_offIn
          rw [e, some_bind, i10, e', some_bind, i10, isThereX xS.1 hf hi, some_bind, t4, c0, if_pos (show nI 0 = 0 from rfl), i10, m3, some_bind]
        · unfold sRef_offIn
          rw [isFood_T rF.1 hf hi, some_bind, i10, isCell_T rC.1 hcn hc, some_bind, i10, rdc_n (by omega) (by omega), r4, c0, if_pos (show nI 0 = 0 from rfl), rdc_n (by omega) (by omega), r3, limR (by omega), some_bind, Nat.mod_eq_of_lt (by omega), r1, (rF.2 i hi).2.1, limI_n (by omega), offInR rC bC rS.1 hh (by omega) hc s1 r1 (by omega) m1 m2 (by omega) hN, some_bind]
          by_cases h5 : m ≤ 5000
          · rw [if_pos h5, if_pos h5]
          · rw [if_neg h5, if_neg h5]
      · refine ⟨-2, ?_, ?_, h⟩
        · unfold sOff_offIn
          rw [e, some_bind, i10, e', some_bind, i10, isThereX xS.1 hf hi, some_bind, t4, if_neg (nI_ne0 (by omega) (by omega)), i00]
        · unfold sRef_offIn
          rw [isFood_T rF.1 hf hi, some_bind, i10, isCell_T rC.1 hcn hc, some_bind, i10, rdc_n (by omega) (by omega), r4, if_neg (nI_ne0 (by omega) (by omega))]
    · refine ⟨-1, ?_, ?_, h⟩
      · unfold sOff_offIn
        rw [e, some_bind, i10, e', some_bind, i00]
      · unfold sRef_offIn
        rw [isFood_T rF.1 hf hi, some_bind, i10, isCell_F rC.1 bC.1 hcn hout, some_bind, i00]
  · refine ⟨-1, ?_, ?_, h⟩
    · unfold sOff_offIn
      rw [e, some_bind, i00]
    · unfold sRef_offIn
      rw [isFood_F rF.1 bF.1 hf hout, some_bind, i00]
-- freeze
theorem smN_chg {e e' : Nat → Nat} : ∀ {n j : Nat}, j < n → (∀ i, i < n → i ≠ j → e' i = e i) → smN e' n + e j = smN e n + e' j
  | 0, j, h, _ => absurd h (by omega)
  | n + 1, j, h, hh => by
    rw [smN_s, smN_s]
    by_cases c : j = n
    · subst c
      rw [smN_congr (e := e') (e' := e) (fun i hi => hh i (by omega) (by omega))]
      omega
    · have := smN_chg (e := e) (e' := e') (n := n) (j := j) (by omega) (fun i hi => hh i (by omega))
      rw [hh n (by omega) (by omega)]
      omega
theorem sOf_le {f lim a co : Nat → Nat} {n : Nat} (h : ∀ i, i < n → co i ≤ 99) : sOf f lim a co n ≤ n * 99 := by
  unfold sOf
  refine smN_le fun i hi => ?_
  have := h i hi
  split <;> omega
def frz (k : Nat → Nat) (j : Nat) : Nat → Nat := fun i => if i = j then 3 else k i
section FR
variable {cn fn q hr b n h : Nat} {w r d co li so k c a f A : Nat → Nat} {M M' : Mm} {N : Nat}
theorem frzX (hv : VXc M cn q w r d) (hb : BC cn q w r d) (hs : VXs M fn hr k c a f) (hF : VXf M fn co li so) (hBF : BF fn co li so) (hBS : BS cn fn hr k c a f) (hN : 1000 < N) (hn : n ≤ 500) {j : Nat} (hj : j < fn) (hfj : f j = 0) : sFridge_lostIfFrozen N (nI j) (nI n) (nI (sOf f (fun i => limN (k i) (li i)) (agF q hr w r k c a f n) co fn)) M = some (nI (sOf f (fun i => limN (frz k j i) (li i)) (agF q hr w r (frz k j) c a f n) co fn)) := by
  have hf := hBF.2.1
  obtain ⟨s1, s2, s3, s4⟩ := hBS.2 j hj
  obtain ⟨t1, t2, t3, t4⟩ := hs.2.2 j hj
  unfold sFridge_lostIfFrozen
  rw [cellX (by omega), some_bind, kindX (by omega), some_bind, t1, t2, coinLostX hv hb hs hF hBF hBS hN hj s1 s2 (by omega), some_bind, show (3 : Int32) = nI 3 from rfl, coinLostX hv hb hs hF hBF hBS hN hj (by omega) s2 (by omega), some_bind]
  unfold sOf
  generalize he : (fun i => if f i = 0 ∧ limN (k i) (li i) ≤ agF q hr w r k c a f n i then co i else 0) = e
  generalize he' : (fun i => if f i = 0 ∧ limN (frz k j i) (li i) ≤ agF q hr w r (frz k j) c a f n i then co i else 0) = e'
  have ej : e j = if limN (k j) (li j) ≤ a j + agN (k j) (w (c j)) (r (c j)) q hr n then co j else 0 := by
    rw [← he]
    show (if f j = 0 ∧ limN (k j) (li j) ≤ (if f j = 0 then a j + agN (k j) (w (c j)) (r (c j)) q hr n else a j) then co j else 0) = _
    rw [if_pos hfj]
    by_cases c1 : limN (k j) (li j) ≤ a j + agN (k j) (w (c j)) (r (c j)) q hr n
    · rw [if_pos c1, if_pos ⟨hfj, c1⟩]
    · rw [if_neg c1, if_neg (fun z => c1 z.2)]
  have ej' : e' j = if limN 3 (li j) ≤ a j + agN 3 (w (c j)) (r (c j)) q hr n then co j else 0 := by
    rw [← he']
    show (if f j = 0 ∧ limN (frz k j j) (li j) ≤ (if f j = 0 then a j + agN (frz k j j) (w (c j)) (r (c j)) q hr n else a j) then co j else 0) = _
    rw [show frz k j j = 3 from if_pos rfl, if_pos hfj]
    by_cases c1 : limN 3 (li j) ≤ a j + agN 3 (w (c j)) (r (c j)) q hr n
    · rw [if_pos c1, if_pos ⟨hfj, c1⟩]
    · rw [if_neg c1, if_neg (fun z => c1 z.2)]
  rw [← ej, ← ej']
  have hch := smN_chg (e := e) (e' := e') hj (fun i hi hij => by
    rw [← he, ← he']
    show (if f i = 0 ∧ limN (frz k j i) (li i) ≤ (if f i = 0 then a i + agN (frz k j i) (w (c i)) (r (c i)) q hr n else a i) then co i else 0) = (if f i = 0 ∧ limN (k i) (li i) ≤ (if f i = 0 then a i + agN (k i) (w (c i)) (r (c i)) q hr n else a i) then co i else 0)
    rw [show frz k j i = k i from if_neg hij])
  have hge := smN_ge (e := e) hj
  rw [pk_sub hge, nI_add]
  congr 2
  omega
theorem frzR (hv : VRc M cn q w r d) (hb : BC cn q w r d) (hF : VRf M fn co li so) (hBF : BF fn co li so) (hBS : BS cn fn hr k c a f) (hs : VRs M 0 fn hr k c a f) (hN : 1000 < N) (hn : n ≤ 500) {j : Nat} (hj : j < fn) : ∃ M1 M2 : Mm, sRef_copy N 0 1 M = some M1 ∧ sRef_lostOf N (nI n) (mset M1 22 (10 + j) 3) = some (nI (sOf f (fun i => limN (frz k j i) (li i)) (agF q hr w r (frz k j) c a f n) co fn), M2) ∧ Scr M M2 := by
  have hf := hBF.2.1
  have hh := hBS.1
  obtain ⟨M1, m1, m2, m3⟩ := copy01 hN hf hs
  have sc : Scr M1 (mset M1 22 (10 + j) 3) := fun r i h1 h2 => by
    by_cases h22 : r = 22
    · subst h22; rw [mset_eq, upd_ne _ _ (by omega)]
    · rw [mset_ne _ _ _ h22]
  have hs3 : VRs (mset M1 22 (10 + j) 3) 1 fn hr (frz k j) c a f := by
    refine ⟨by rw [mset_ne _ _ _ (by omega)]; exact m3.1, fun i hi => ?_⟩
    obtain ⟨u1, u2, u3, u4⟩ := m3.2 i hi
    rw [mset_eq, mset_ne _ _ _ (show (23 : Nat) ≠ 22 by omega), mset_ne _ _ _ (show (24 : Nat) ≠ 22 by omega), mset_ne _ _ _ (show (25 : Nat) ≠ 22 by omega)]
    refine ⟨?_, u2, u3, u4⟩
    by_cases hij : i = j
    · subst hij; rw [show 10 * 1 + i = 10 + i by omega, upd_eq, show frz k i i = 3 from if_pos rfl]; rfl
    · rw [upd_ne _ _ (by omega), show frz k j i = k i from if_neg hij]; exact u1
  have hBS3 : BS cn fn hr (frz k j) c a f := ⟨hh, fun i hi => by
    obtain ⟨s1, s2, s3, s4⟩ := hBS.2 i hi
    refine ⟨?_, s2, s3, s4⟩
    unfold frz
    split <;> omega⟩
  have sc2 := m2.trans sc
  obtain ⟨M2, e1, e2⟩ := lostOfR (HB_of (b := 1) (by omega) (hv.scr sc2) hb (hF.scr sc2) hBF hBS3 hs3) (hF.scr sc2) hBF hs3 hN (n := n) (by omega) (by omega) fun i hi => (hBS.2 i hi).2.2.1
  exact ⟨M1, M2, m1, e1, sc2.trans e2⟩
end FR
theorem ok_freeze {N : Nat} (hN : 1000 < N) : Ok_freeze Rel N := by
  intro a1 a2 MX MR h
  obtain ⟨cn, fn, q, hr, w, r, d, co, li, so, k, c, a, f, bC, bF, bS, xC, xF, xS, rC, rF, rS⟩ := Rel_view h
  have hf := bF.2.1
  have hh := bS.1
  by_cases hw : (0 : Int32).toInt ≤ a1.toInt ∧ a1.toInt ≤ (500 : Int32).toInt
  · obtain ⟨n, hn, rfl⟩ := nI_ofRange (n := 501) (a := a1) hw.1 (by have t : a1.toInt ≤ 500 := hw.2; omega) (by omega)
    by_cases hw2 : (0 : Int32).toInt ≤ a2.toInt ∧ a2.toInt ≤ (1 : Int32).toInt
    · obtain ⟨V, hV⟩ : ∃ V : Nat → Nat, V = fun j => sOf f (fun i => limN (frz k j i) (li i)) (agF q hr w r (frz k j) c a f n) co fn := ⟨_, rfl⟩
      have hVi : ∀ j, sOf f (fun i => limN (frz k j i) (li i)) (agF q hr w r (frz k j) c a f n) co fn = V j := fun j => by rw [hV]
      have Vb : ∀ j, V j ≤ 990 := fun j => by
        rw [← hVi]
        have := sOf_le (f := f) (lim := fun i => limN (frz k j i) (li i)) (a := agF q hr w r (frz k j) c a f n) (co := co) (n := fn) fun i hi => (bF.2.2 i hi).1
        omega
      obtain ⟨M1, m1, m2, m3⟩ := copy01 hN hf rS
      obtain ⟨M2, m4, m5⟩ := lostOfR (HB_of (b := 1) (by omega) (rC.scr m2) bC (rF.scr m2) bF bS m3) (rF.scr m2) bF m3 hN (n := n) (by omega) (by omega) fun i hi => (bS.2 i hi).2.2.1
      have e0 := lostX xC bC xS xF bF bS hN (n := n) (by omega)
      have S0 := sOf_le (f := f) (lim := fun i => limN (k i) (li i)) (a := agF q hr w r k c a f n) (co := co) (n := fn) fun i hi => (bF.2.2 i hi).1
      have ef : ∀ j, j < fn → f j = 0 → sFridge_lostIfFrozen N (nI j) (nI n) (nI (sOf f (fun i => limN (k i) (li i)) (agF q hr w r k c a f n) co fn)) MX = some (nI (V j)) := fun j hj c0 => by
        rw [← hVi]
        exact frzX xC bC xS xF bF bS hN (by omega) hj c0
      generalize sOf f (fun i => limN (k i) (li i)) (agF q hr w r k c a f n) co fn = S at m4 e0 S0 ef
      have sc := m2.trans m5
      obtain ⟨b, t, p1, p2, l, M', rfl, p3, p4, p5⟩ := itr_t (f := fun z : Int32 × Int32 × Int32 => LFridge_bestToFreeze_15_25 N (nI n) MX (nI S) z.1 z.2.1 z.2.2) (g := fun z : Int32 × Int32 × Int32 × Mm => LRef_freeze_38_54 N (nI n) z.1 z.2.1 z.2.2.1 z.2.2.2)
        (fun i s t => ∃ (b : Int32) (l : Nat) (M' : Mm), s = (b, nI l, nI i) ∧ t = (nI l, b, nI i, M') ∧ Scr MR M' ∧ l ≤ 990 ∧ (b = -4 ∨ ∃ j, j < fn ∧ f j = 0 ∧ b = nI j ∧ l = V j))
        (fun b t => ∃ (l : Nat) (M' : Mm), t = (nI l, b, M') ∧ Scr MR M' ∧ l ≤ 990 ∧ (b = -4 ∨ ∃ j, j < fn ∧ f j = 0 ∧ b = nI j ∧ l = V j)) fn (s := (-4, nI S, 0)) (t := (nI S, -4, 0, M2)) (N := N)
        ⟨-4, S, M2, rfl, rfl, sc, by omega, Or.inl rfl⟩ (fun i s t hi hP => by
          obtain ⟨b, l, M', rfl, rfl, p3, p4, p5⟩ := hP
          obtain ⟨s1, s2, s3, s4⟩ := bS.2 i hi
          obtain ⟨t1, t2, t3, t4⟩ := xS.2.2 i hi
          have rS' := rS.scr hf p3
          obtain ⟨r1, r2, r3, r4⟩ := rS'.2 i hi
          rw [show 10 * 0 + i = i by omega] at r1 r2 r3 r4
          have ex : LFridge_bestToFreeze_15_25 N (nI n) MX (nI S) b (nI l) (nI i) = if f i = 0 then (if k i = 3 then some (.inl (b, nI l, nI (i + 1))) else if l ≤ V i then some (.inl (b, nI l, nI (i + 1))) else some (.inl (nI i, nI (V i), nI (i + 1)))) else some (.inl (b, nI l, nI (i + 1))) := by
            unfold LFridge_bestToFreeze_15_25
            rw [xF.1, if_neg (by rw [nIle (by omega) (by omega)]; omega), isThereX xS.1 hf hi, some_bind, t4]
            simp only [nI_is0 (show f i ≤ 1000 by omega)]
            by_cases c0 : f i = 0
            · rw [if_pos c0, i10, if_pos c0, kindX (by omega), some_bind, t1]
              by_cases c1 : k i = 3
              · rw [if_pos (by rw [c1]; rfl), if_pos c1, ltI_u, nI_s]
              · rw [if_neg (show ¬ nI (k i) = 3 by rw [show (3 : Int32) = nI 3 from rfl, nIeq (by omega) (by omega)]; exact c1), if_neg c1, ef i hi c0, some_bind]
                have := Vb i
                by_cases c2 : l ≤ V i
                · rw [if_pos (by rw [nIle (by omega) (by omega)]; exact c2), if_pos c2, ltI_u, nI_s]
                · rw [if_neg (by rw [nIle (by omega) (by omega)]; exact c2), if_neg c2, ltI_u, nI_s]
            · rw [if_neg c0, i00, if_neg c0, ltI_u, nI_s]
          have er : ∃ M'', Scr MR M'' ∧ LRef_freeze_38_54 N (nI n) (nI l) b (nI i) M' = if f i = 0 then (if k i = 3 then some (.inl (nI l, b, nI (i + 1), M'')) else if l ≤ V i then some (.inl (nI l, b, nI (i + 1), M'')) else some (.inl (nI (V i), nI i, nI (i + 1), M''))) else some (.inl (nI l, b, nI (i + 1), M'')) := by
            have g7 : M' 7 0 = nI fn := by rw [p3.at (by omega)]; exact rF.1
            by_cases c0 : f i = 0
            · by_cases c1 : k i = 3
              · refine ⟨M', p3, ?_⟩
                unfold LRef_freeze_38_54
                rw [rdc_0 (by omega) (by omega), g7, if_neg (by rw [nIle (by omega) (by omega)]; omega), rdc_n (by omega) (by omega), r4, c0, if_pos (show nI 0 = 0 from rfl), rdc_n (by omega) (by omega), r1, if_pos (by rw [c1]; rfl), if_pos rfl, if_pos c1, ltI_u, nI_s]
              · obtain ⟨M3, M4, q1, q2, q3⟩ := frzR (rC.scr p3) bC (rF.scr p3) bF bS rS' hN (n := n) (by omega) hi
                refine ⟨M4, p3.trans q3, ?_⟩
                have := Vb i
                unfold LRef_freeze_38_54
                rw [rdc_0 (by omega) (by omega), g7, if_neg (by rw [nIle (by omega) (by omega)]; omega), rdc_n (by omega) (by omega), r4, c0, if_pos (show nI 0 = 0 from rfl), rdc_n (by omega) (by omega), r1, if_neg (show ¬ nI (k i) = 3 by rw [show (3 : Int32) = nI 3 from rfl, nIeq (by omega) (by omega)]; exact c1), if_pos rfl, if_neg c1, q1, some_bind, show (10 : Int32) + nI i = nI (10 + i) from nI_add 10 i, inc_n (by omega) (by omega), ltM_u, cl_n (by omega), q2, some_bind, hVi]
                by_cases c2 : l ≤ V i
                · rw [if_pos c2]
                  show (if nI l ≤ nI (V i) then _ else _) = _
                  rw [if_pos (by rw [nIle (by omega) (by omega)]; exact c2), if_pos (by rw [nIle (by omega) (by omega)]; exact c2), ltI_u, nI_s]
                · rw [if_neg c2]
                  show (if nI l ≤ nI (V i) then _ else _) = _
                  rw [if_neg (by rw [nIle (by omega) (by omega)]; exact c2), if_neg (by rw [nIle (by omega) (by omega)]; exact c2), ltI_u, nI_s]
            · refine ⟨M', p3, ?_⟩
              unfold LRef_freeze_38_54
              rw [rdc_0 (by omega) (by omega), g7, if_neg (by rw [nIle (by omega) (by omega)]; omega), rdc_n (by omega) (by omega), r4, if_neg (nI_ne0 (by omega) (by omega)), if_neg c0, ltI_u, nI_s]
          obtain ⟨M'', p6, er⟩ := er
          have hb := Vb i
          show ∃ s' t', LFridge_bestToFreeze_15_25 N (nI n) MX (nI S) b (nI l) (nI i) = some (.inl s') ∧ LRef_freeze_38_54 N (nI n) (nI l) b (nI i) M' = some (.inl t') ∧ _
          rw [ex, er]
          by_cases c0 : f i = 0
          · rw [if_pos c0, if_pos c0]
            by_cases c1 : k i = 3
            · rw [if_pos c1, if_pos c1]
              exact ⟨_, _, rfl, rfl, b, l, M'', rfl, rfl, p6, p4, p5⟩
            · rw [if_neg c1, if_neg c1]
              by_cases c2 : l ≤ V i
              · rw [if_pos c2, if_pos c2]
                exact ⟨_, _, rfl, rfl, b, l, M'', rfl, rfl, p6, p4, p5⟩
              · rw [if_neg c2, if_neg c2]
                exact ⟨_, _, rfl, rfl, nI i, V i, M'', rfl, rfl, p6, hb, Or.inr ⟨i, hi, c0, rfl, rfl⟩⟩
          · rw [if_neg c0, if_neg c0]
            exact ⟨_, _, rfl, rfl, b, l, M'', rfl, rfl, p6, p4, p5⟩) (fun s t hP => by
          obtain ⟨b, l, M', rfl, rfl, p3, p4, p5⟩ := hP
          refine ⟨b, (nI l, b, M'), ?_, ?_, l, M', rfl, p3, p4, p5⟩
          · show LFridge_bestToFreeze_15_25 N (nI n) MX (nI S) b (nI l) (nI fn) = _
            unfold LFridge_bestToFreeze_15_25
            rw [xF.1, if_pos (by rw [nIle (by omega) (by omega)]; omega)]
          · show LRef_freeze_38_54 N (nI n) (nI l) b (nI fn) M' = _
            unfold LRef_freeze_38_54
            rw [rdc_0 (by omega) (by omega), p3.at (by omega), rF.1, if_pos (by rw [nIle (by omega) (by omega)]; omega)]) (by omega)
      have ebx : sFridge_bestToFreeze N (nI n) MX = some b := by
        unfold sFridge_bestToFreeze
        rw [e0, some_bind, p1, some_bind]
      have ex : sOff_freeze N (nI n) a2 MX = if 0 ≤ b then (if a2 = 0 then some b else (sFridge_lostBehind N (nI n) MX).bind fun y => (sFridge_lostIfFrozen N b (nI n) y MX).bind fun z => some z) else some (-4) := by
        unfold sOff_freeze
        rw [within_T hw.1 hw.2, some_bind, i10, within_T hw2.1 hw2.2, some_bind, i10, ebx, some_bind]
      have er : sRef_freeze N (nI n) a2 MR = if 0 ≤ b then (if a2 = 0 then some (b, M') else some (nI l, M')) else some (-4, M') := by
        unfold sRef_freeze sRef_isLater
        rw [in0_500, within_T hw.1 hw.2, some_bind, some_bind, i10, in01, within_T hw2.1 hw2.2, some_bind, i10, m1, some_bind, m4, some_bind]
        show (itr (fun z : Int32 × Int32 × Int32 × Mm => LRef_freeze_38_54 N (nI n) z.1 z.2.1 z.2.2.1 z.2.2.2) N (nI S, -4, 0, M2)).bind _ = _
        rw [p2, some_bind]
      rw [ex, er]
      rcases p5 with rfl | ⟨j, j1, j2, rfl, rfl⟩
      · rw [if_neg (by decide), if_neg (by decide)]
        exact ⟨_, _, rfl, rfl, Rel_scr h p3⟩
      · rw [if_pos (nI_pos' (by omega)), if_pos (nI_pos' (by omega)), e0, some_bind, ef j j1 j2, some_bind]
        by_cases ca : a2 = 0
        · rw [if_pos ca, if_pos ca]
          exact ⟨_, _, rfl, rfl, Rel_scr h p3⟩
        · rw [if_neg ca, if_neg ca]
          exact ⟨_, _, rfl, rfl, Rel_scr h p3⟩
    · refine ⟨-1, MR, ?_, ?_, h⟩
      · unfold sOff_freeze
        rw [within_T hw.1 hw.2, some_bind, i10, within_F hw2]; rfl
      · unfold sRef_freeze sRef_isLater
        rw [in0_500, within_T hw.1 hw.2, some_bind, some_bind, i10, in01, within_F hw2]; rfl
  · exact ⟨-1, MR, by unfold sOff_freeze; rw [within_F hw]; rfl, by unfold sRef_freeze sRef_isLater; rw [in0_500, within_F hw]; rfl, h⟩
