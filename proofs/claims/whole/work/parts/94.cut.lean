/-! PURE PART 15: a cut; off in; freeze. By hand. -/
theorem mset_mset (M : Mm) (r i : Nat) (v u : Int32) : mset (mset M r i v) r i u = mset M r i u := by
  funext a
  by_cases ha : a = r
  · subst ha
    rw [mset_eq, mset_eq, mset_eq]
    funext j
    by_cases hj : j = i
    · subst hj; rw [upd_eq, upd_eq]
    · rw [upd_ne _ _ hj, upd_ne _ _ hj, upd_ne _ _ hj]
  · rw [mset_ne _ _ _ ha, mset_ne _ _ _ ha, mset_ne _ _ _ ha]
theorem mset_self {M : Mm} {r i : Nat} {v : Int32} (h : M r i = v) : mset M r i v = M := by
  funext a
  by_cases ha : a = r
  · subst ha
    rw [mset_eq]
    funext j
    by_cases hj : j = i
    · subst hj; rw [upd_eq, h]
    · rw [upd_ne _ _ hj]
  · rw [mset_ne _ _ _ ha]
def tri3 (n : Nat) : Nat := smN (fun j => 3 * (j + 1)) n
def agC (k w ro n : Nat) : Nat := smN (fun j => agH k (w + 3 * (j + 1) + (if j = 0 then ro else 0))) n
theorem agC_s (k w ro n : Nat) : agC k w ro (n + 1) = agC k w ro n + agH k (w + 3 * (n + 1) + (if n = 0 then ro else 0)) := rfl
theorem tri3_s (n : Nat) : tri3 (n + 1) = tri3 n + 3 * (n + 1) := rfl
theorem agC_cl (k w ro : Nat) : ∀ m, agC k w ro (m + 1) = if k = 3 then m + 1 else if k = 1 then 2 * (10 * (m + 1) + ((m + 1) * w + tri3 (m + 1) + ro)) else 10 * (m + 1) + ((m + 1) * w + tri3 (m + 1) + ro)
  | 0 => by
    show 0 + agH k (w + 3 * (0 + 1) + (if (0 : Nat) = 0 then ro else 0)) = _
    have : tri3 (0 + 1) = 3 := rfl
    rw [if_pos rfl, this]
    unfold agH
    split
    · omega
    · split <;> omega
  | m + 1 => by
    rw [agC_s, agC_cl k w ro m, show (if m + 1 = 0 then ro else 0) = 0 from if_neg (by omega), tri3_s (m + 1), Nat.add_mul (m + 1) 1 w, Nat.one_mul]
    unfold agH
    split
    · rfl
    · split <;> omega
theorem tri3_e : ∀ n : Fin 49, 3 * n.val * (n.val + 1) / 2 = tri3 n.val ∧ 3 * n.val * (n.val + 1) ≤ 8000 ∧ tri3 n.val ≤ 4000 := by decide +kernel
theorem agC_le {k w ro : Nat} (h : w ≤ 200) (h2 : ro ≤ 99) : ∀ n, n ≤ 48 → agC k w ro n ≤ 1000 * n
  | 0, _ => Nat.le_refl 0
  | n + 1, hn => by
    have h1 := agC_le (k := k) h h2 n (by omega)
    rw [agC_s]
    have : agH k (w + 3 * (n + 1) + (if n = 0 then ro else 0)) ≤ 1000 := by
      unfold agH
      split
      · omega
      · split <;> split <;> omega
    omega
section CU
variable {cn fn q hr b n h : Nat} {w r d co li so k c a f A : Nat → Nat} {M M' : Mm} {N : Nat} {o : Int32}
theorem cutWarmX {cc : Nat} (hc : cc < 6) (h1 : M 24 cc = nI (w cc)) (h2 : M 25 cc = nI (r cc)) (hn : n ≤ 48) : sCells_warmthOverCut_l (nI cc) (nI n) o M = some (nI (n * w cc + tri3 n + (if o = 0 then 0 else r cc))) := by
  obtain ⟨t1, t2, t3⟩ := tri3_e ⟨n, by omega⟩
  simp only at t1 t2 t3
  unfold sCells_warmthOverCut_l
  rw [show (3 : Int32) = nI 3 from rfl, pk_mul, nI_s, pk_mul, show (2 : Int32) = nI 2 from rfl, div_n (by omega) (by omega) (by omega), t1, ltI_u, atf_n hc (by omega), atf_n hc (by omega), h1, h2, pk_mul, nI_add, nI_add, add_z]
  by_cases c0 : o = 0
  · rw [if_pos c0, if_pos c0]; rfl
  · rw [if_neg c0, if_neg c0]
theorem cutX (hv : VXc M cn q w r d) (hb : BC cn q w r d) (hs : VXs M fn hr k c a f) (hF : VXf M fn co li so) (hBF : BF fn co li so) (hBS : BS cn fn hr k c a f) (hN : 1000 < N) (h1 : 1 ≤ n) (hn : n ≤ 48) : sFridge_offBehindCut N (nI n) o M = some (nI (bt (fun i => decide (f i = 0 ∧ limN (k i) (li i) ≤ a i + agC (k i) (w (c i)) (if o = 0 then 0 else r (c i)) n)) fn)) := by
  have hf := hBF.2.1
  unfold sFridge_offBehindCut
  generalize hp : (fun i => decide (f i = 0 ∧ limN (k i) (li i) ≤ a i + agC (k i) (w (c i)) (if o = 0 then 0 else r (c i)) n)) = p
  refine itr_b (fun i => (nI (bt p i), nI i)) fn (r := nI (bt p fn)) rfl ?_ ?_ (by omega) rfl
  · intro i hi
    show LFridge_offBehindCut_5_33 N (nI n) o M (nI (bt p i)) (nI i) = some (.inl (nI (bt p (i + 1)), nI (i + 1)))
    obtain ⟨s1, s2, s3, s4⟩ := hBS.2 i hi
    obtain ⟨t1, t2, t3, t4⟩ := hs.2.2 i hi
    obtain ⟨u1, u2, u3⟩ := hv.2.2 (c i) s2
    obtain ⟨l1, l2, l3, l4⟩ := hBF.2.2 i hi
    obtain ⟨y1, y2, -⟩ := hb.2.2.2 (c i) s2
    have hc6 : c i < 6 := by have := hb.2.1; omega
    have hh := hBS.1
    have b2 := limN_b (k := k i) l2 l3
    have ro99 : (if o = 0 then 0 else r (c i)) ≤ 99 := by split <;> omega
    have b3 := agC_le (k := k i) y1 ro99 n hn
    have e : (if k i = 3 then n else if k i = 1 then 2 * (10 * n + (n * w (c i) + tri3 n + (if o = 0 then 0 else r (c i)))) else 10 * n + (n * w (c i) + tri3 n + (if o = 0 then 0 else r (c i)))) = agC (k i) (w (c i)) (if o = 0 then 0 else r (c i)) n := by
      obtain ⟨m, rfl⟩ : ∃ m, n = m + 1 := ⟨n - 1, by omega⟩
      rw [agC_cl]
    unfold LFridge_offBehindCut_5_33
    rw [hF.1, if_neg (by rw [nIle (by omega) (by omega)]; omega), cellX (by omega), some_bind, t2, cutWarmX hc6 u1 u2 hn, some_bind, ageX (by omega), some_bind, kindX (by omega), some_bind, t1, ageing_n s1, some_bind, e, t3, nI_add, ltI_u, isThereX hs.1 hf hi, some_bind, t4]
    simp only [nI_is0 (show f i ≤ 1000 by omega)]
    by_cases c0 : f i = 0
    · rw [if_pos c0, i10, limX (by omega), some_bind, t1, (hF.2 i hi).2.1, limI_n (by omega)]
      by_cases c1 : limN (k i) (li i) ≤ a i + agC (k i) (w (c i)) (if o = 0 then 0 else r (c i)) n
      · rw [if_neg (nI_nlt c1 (by omega)), ltI_u, ltI_u, nI_s, orBit (by omega) (bt_lt p i), bt_T (by rw [← hp]; exact decide_eq_true ⟨c0, c1⟩)]
      · rw [if_pos (nI_lt (by omega) (by omega)), ltI_u, nI_s, bt_F (by rw [← hp]; simp [c1])]
    · rw [if_neg c0, i00, ltI_u, nI_s, bt_F (by rw [← hp]; simp [c0])]
  · show LFridge_offBehindCut_5_33 N (nI n) o M (nI (bt p fn)) (nI fn) = _
    unfold LFridge_offBehindCut_5_33
    rw [hF.1, if_pos (by rw [nIle (by omega) (by omega)]; omega)]
theorem aset_scr : fn ≤ 10 → Scr M (aset 1 fn A M) := fun hf r i h1 h2 => by
  by_cases h24 : r = 24
  · subst h24; rw [aset_out (by omega)]
  · rw [aset_ne h24]
theorem cutR (hv : VRc M cn q w r d) (hb : BC cn q w r d) (hs : VRs M 1 fn hr k c a f) (hF : VRf M fn co li so) (hBF : BF fn co li so) (hBS : BS cn fn hr k c a f) (hN : 1000 < N) (h1 : 1 ≤ n) (hn : n ≤ 48) (ho : o = 0 ∨ o = 1) : itr (fun z : Int32 × Int32 × Mm => LRef_cut_26_90 N (nI n) o z.1 z.2.1 z.2.2) N (0, 10, M) = some (nI (bt (fun i => decide (f i = 0 ∧ limN (k i) (li i) ≤ a i + agC (k i) (w (c i)) (if o = 0 then 0 else r (c i)) n)) fn), aset 1 fn (fun i => a i + agC (k i) (w (c i)) (if o = 0 then 0 else r (c i)) n) M) := by
  have hf := hBF.2.1
  generalize hp : (fun i => decide (f i = 0 ∧ limN (k i) (li i) ≤ a i + agC (k i) (w (c i)) (if o = 0 then 0 else r (c i)) n)) = p
  obtain ⟨A, hA⟩ : ∃ A, A = (fun i => a i + agC (k i) (w (c i)) (if o = 0 then 0 else r (c i)) n) := ⟨_, rfl⟩
  rw [← hA]
  refine itr_n (fun i => (nI (bt p i), nI (10 + i), aset 1 i A M)) fn ?_ ?_ ?_ (by omega)
  · have : aset 1 0 A M = M := by
      funext r i
      unfold aset
      rw [if_neg (by omega)]
    rw [this]; rfl
  · intro i hi
    show LRef_cut_26_90 N (nI n) o (nI (bt p i)) (nI (10 + i)) (aset 1 i A M) = some (.inl (nI (bt p (i + 1)), nI (10 + (i + 1)), aset 1 (i + 1) A M))
    obtain ⟨s1, s2, s3, s4⟩ := hBS.2 i hi
    obtain ⟨t1, t2, t3, t4⟩ := hs.2 i hi
    obtain ⟨u1, u2, u3⟩ := hv.2.2 (c i) s2
    obtain ⟨l1, l2, l3, l4⟩ := hBF.2.2 i hi
    obtain ⟨y1, y2, -⟩ := hb.2.2.2 (c i) s2
    have hc6 : c i < 6 := by have := hb.2.1; omega
    have hh := hBS.1
    have b2 := limN_b (k := k i) l2 l3
    have ro99 : (if o = 0 then 0 else r (c i)) ≤ 99 := by split <;> omega
    have b3 := agC_le (k := k i) y1 ro99 n hn
    rw [show 10 * 1 + i = 10 + i by omega] at t1 t2 t3 t4
    have hAi : A i = a i + agC (k i) (w (c i)) (if o = 0 then 0 else r (c i)) n := by rw [hA]
    have g24 : aset 1 i A M 24 (10 + i) = nI (a i) := by rw [aset_out (by omega)]; exact t3
    have g22 : aset 1 i A M 22 (10 + i) = nI (k i) := by rw [aset_ne (by omega)]; exact t1
    have g23 : aset 1 i A M 23 (10 + i) = nI (c i) := by rw [aset_ne (by omega)]; exact t2
    have g25 : aset 1 i A M 25 (10 + i) = nI (f i) := by rw [aset_ne (by omega)]; exact t4
    have g7 : aset 1 i A M 7 0 = nI fn := by rw [aset_ne (by omega)]; exact hF.1
    have g3 : aset 1 i A M 3 (c i) = nI (w (c i)) := by rw [aset_ne (by omega)]; exact u1
    have g4 : aset 1 i A M 4 (c i) = nI (r (c i)) := by rw [aset_ne (by omega)]; exact u2
    have g11 : aset 1 i A M 11 i = nI (li i) := by rw [aset_ne (by omega)]; exact (hF.2 i hi).2.1
    rw [← aset_s, show 10 * 1 + i = 10 + i by omega]
    generalize aset 1 i A M = m at g24 g22 g23 g25 g7 g3 g4 g11
    have inner : itr (fun z : Int32 × Mm => LRef_cut_43_79 N (nI n) o (nI (10 + i)) z.1 z.2) N (1, m) = some (mset m 24 (10 + i) (nI (A i))) := by
      refine itr_n (fun j => (nI (j + 1), mset m 24 (10 + i) (nI (a i + agC (k i) (w (c i)) (if o = 0 then 0 else r (c i)) j)))) n ?_ ?_ ?_ (by omega)
      · show (1, m) = (nI (0 + 1), mset m 24 (10 + i) (nI (a i)))
        rw [mset_self g24]; rfl
      · intro j hj
        show LRef_cut_43_79 N (nI n) o (nI (10 + i)) (nI (j + 1)) (mset m 24 (10 + i) (nI (a i + agC (k i) (w (c i)) (if o = 0 then 0 else r (c i)) j))) = some (.inl (nI (j + 1 + 1), mset m 24 (10 + i) (nI (a i + agC (k i) (w (c i)) (if o = 0 then 0 else r (c i)) (j + 1)))))
        have ee : (((if o = 0 then some 0 else (if nI (j + 1) = 1 then rdc 40 (mset m 24 (10 + i) (nI (a i + agC (k i) (w (c i)) (if o = 0 then 0 else r (c i)) j)) 23) (nI (10 + i)) fun zv71 => rdc 12 (mset m 24 (10 + i) (nI (a i + agC (k i) (w (c i)) (if o = 0 then 0 else r (c i)) j)) 4) zv71 fun zv72 => some zv72 else some 0)) : Option (Int32))) = some (nI (if j = 0 then (if o = 0 then 0 else r (c i)) else 0)) := by
          rcases ho with rfl | rfl
          · rw [if_pos rfl, if_pos rfl]
            by_cases hj0 : j = 0
            · rw [if_pos hj0]; rfl
            · rw [if_neg hj0]; rfl
          · rw [i10, i10]
            by_cases hj0 : j = 0
            · subst hj0
              rw [if_pos (show (0 : Nat) = 0 from rfl), if_pos (show nI (0 + 1) = 1 from rfl), mset_ne _ _ _ (show (23 : Nat) ≠ 24 by omega), mset_ne _ _ _ (show (4 : Nat) ≠ 24 by omega), rdc_n (by omega) (by omega), g23, rdc_n (by omega) (by omega), g4]
            · rw [if_neg hj0, if_neg (show ¬ nI (j + 1) = 1 from by rw [show (1 : Int32) = nI 1 from rfl, nIeq (by omega) (by omega)]; omega)]
              rfl
        unfold LRef_cut_43_79
        rw [ee, if_neg (nI_nlt (by omega) (by omega)), mset_ne _ _ _ (show (23 : Nat) ≠ 24 by omega), mset_ne _ _ _ (show (3 : Nat) ≠ 24 by omega), mset_ne _ _ _ (show (22 : Nat) ≠ 24 by omega), rdc_n (by omega) (by omega), g23, rdc_n (by omega) (by omega), g3, some_bind, show (3 : Int32) = nI 3 from rfl, pk_mul, nI_add, nI_add, ltI_u, rdc_n (by omega) (by omega), mset_eq, upd_eq, rdc_n (by omega) (by omega), g22, agesBy_n s1, some_bind, inc_n (by omega) (by omega), nI_add, cl_n (by omega), ltM_u, ltI_u, nI_s, mset_mset, agC_s, ← Nat.add_assoc (a i)]
      · show LRef_cut_43_79 N (nI n) o (nI (10 + i)) (nI (n + 1)) (mset m 24 (10 + i) (nI (a i + agC (k i) (w (c i)) (if o = 0 then 0 else r (c i)) n))) = _
        unfold LRef_cut_43_79
        rw [if_pos (nI_lt (by omega) (by omega)), hAi]
    unfold LRef_cut_26_90
    rw [rdc_0 (by omega) (by omega), g7, show (10 : Int32) = nI 10 from rfl, nI_add, if_neg (by rw [nIle (by omega) (by omega)]; omega), inner, some_bind, mset_ne _ _ _ (show (25 : Nat) ≠ 24 by omega), rdc_n (by omega) (by omega), g25, isOffR (by omega), some_bind, mset_eq, upd_eq, mset_ne _ _ _ (show (22 : Nat) ≠ 24 by omega), mset_ne _ _ _ (show (11 : Nat) ≠ 24 by omega), show (10 + i) % 10 = i by omega, g22, g11]
    simp only [nI_is0 (show f i ≤ 1000 by omega)]
    unfold offI
    rw [limI_n (by omega), hAi, pk_sub (show 10 ≤ 10 + i by omega), show 10 + i - 10 = i by omega, nI_s, show 10 + (i + 1) = 10 + i + 1 by omega]
    by_cases c0 : f i = 0
    · rw [if_pos c0]
      by_cases c1 : limN (k i) (li i) ≤ a i + agC (k i) (w (c i)) (if o = 0 then 0 else r (c i)) n
      · rw [if_neg (nI_nlt c1 (by omega)), i10, ltI_u, ltI_u, orBit (by omega) (bt_lt p i), bt_T (by rw [← hp]; exact decide_eq_true ⟨c0, c1⟩)]
      · rw [if_pos (nI_lt (by omega) (by omega)), i00, ltI_u, ltI_u, Int32.or_zero, bt_F (by rw [← hp]; simp [c1])]
    · rw [if_neg c0, ltI_u, ltI_u, Int32.or_zero, bt_F (by rw [← hp]; simp [c0])]
  · show LRef_cut_26_90 N (nI n) o (nI (bt p fn)) (nI (10 + fn)) (aset 1 fn A M) = _
    unfold LRef_cut_26_90
    rw [rdc_0 (by omega) (by omega), aset_ne (by omega), hF.1, show (10 : Int32) = nI 10 from rfl, nI_add, if_pos (by rw [nIle (by omega) (by omega)]; omega)]
end CU
theorem in1_48 (a : Int32) : sRef_in (Int32.toInt64 a) 1 48 = sOff_isWithin a 1 48 := in_eq a 1 48
theorem ok_cut {N : Nat} (hN : 1000 < N) : Ok_cut Rel N := by
  intro a1 a2 MX MR ho h
  obtain ⟨cn, fn, q, hr, w, r, d, co, li, so, k, c, a, f, bC, bF, bS, xC, xF, xS, rC, rF, rS⟩ := Rel_view h
  by_cases hw : (1 : Int32).toInt ≤ a1.toInt ∧ a1.toInt ≤ (48 : Int32).toInt
  · have hw1 : (1 : Int) ≤ a1.toInt := hw.1
    have hw2 : a1.toInt ≤ (48 : Int) := hw.2
    obtain ⟨n, hn, rfl⟩ := nI_ofRange (n := 49) (a := a1) (by omega) (by omega) (by omega)
    rw [nI_t (by omega)] at hw1
    have hh := bS.1
    obtain ⟨M1, m1, m2, m3⟩ := copy01 hN bF.2.1 rS
    have e1 := cutX (o := a2) xC bC xS xF bF bS hN (n := n) (by omega) (by omega)
    have e2 := cutR (rC.scr m2) bC m3 (rF.scr m2) bF bS hN (n := n) (by omega) (by omega) ho
    refine ⟨nI (bt (fun i => decide (f i = 0 ∧ limN (k i) (li i) ≤ a i + agC (k i) (w (c i)) (if a2 = 0 then 0 else r (c i)) n)) fn), _, ?_, ?_, Rel_scr h (m2.trans (aset_scr (A := fun i => a i + agC (k i) (w (c i)) (if a2 = 0 then 0 else r (c i)) n) bF.2.1))⟩
    · unfold sOff_cut
      rw [within_T hw.1 hw.2, some_bind, i10, e1, some_bind]
    · unfold sRef_cut
      rw [in1_48, within_T hw.1 hw.2, some_bind, i10, m1, some_bind, e2, some_bind]
  · exact ⟨-1, MR, by unfold sOff_cut; rw [within_F hw]; rfl, by unfold sRef_cut; rw [in1_48, within_F hw]; rfl, h⟩
