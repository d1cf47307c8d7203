/-! PURE PART 21: plan by the reference; plan. By hand. -/
def vEnc : Option Nat → Int32
  | none => -4
  | some x => nI x
section PR
variable {cn fn q hr b n h t en dn : Nat} {w r d co li so k c a f A F lim ea di : Nat → Nat} {M M' M0 MR : Mm} {N : Nat} {AG : Nat → Nat → Nat}
theorem coinP (hF : VRf M0 fn co li so) (hBF : BF fn co li so) (hk : ∀ i, i < fn → k i ≤ 3) (hN : 1000 < N) (hh : hr + t ≤ 150000) {p : Nat → Bool} (h0 : EvP M0 M fn q hr t w r k c a p) : sRef_offCoin N (nI 1) M = some (nI (smN (fun i => if (p i && offB (fun i => limN (k i) (li i)) (agT q hr w r k c a t) i) = true then co i else 0) fn)) := by
  obtain ⟨F, A, p3, p4⟩ := h0
  rw [offCoinR (b := 1) (by omega) (hF.scr p3.1) hBF hN (k := k) (f := F) (a := A) (fun i hi => by
    obtain ⟨u1, u2, u3, u4⟩ := p3.2.1.2 i hi
    obtain ⟨v1, v2, v3⟩ := p3.2.2 i hi
    exact ⟨hk i hi, v1, by omega, u1, u3, u4⟩)]
  congr 2
  unfold sOf
  refine smN_congr fun i hi => ?_
  rw [p4 i hi]
  by_cases c0 : F i = 0
  · rw [decide_eq_true c0, Bool.true_and, (p3.2.2 i hi).2.2 c0]
    unfold offB
    by_cases cl : limN (k i) (li i) ≤ agT q hr w r k c a t i
    · rw [if_pos (decide_eq_true cl), if_pos ⟨c0, cl⟩]
    · rw [if_neg (fun z => cl z.2), if_neg (by simp [cl])]
  · rw [decide_eq_false c0, Bool.false_and, if_neg (fun z => c0 z.1), if_neg (by decide)]
theorem costR (hC : VRc MR cn q w r d) (hb : BC cn q w r d) (hF : VRf MR fn co li so) (hBF : BF fn co li so) (hBS : BS cn fn hr k c a f) (hs : VRs MR 0 fn hr k c a f) (h14 : MR 14 0 = nI dn) (hdn : dn ≤ 5) (hdi : ∀ d, d < dn → 1 ≤ di d ∧ di d ≤ 15 ∧ MR 15 d = nI (di d)) (h16 : MR 16 0 = nI en) (hen : en ≤ 4) (hea : ∀ e, e < en → MR 17 e = nI (ea e)) (hN : 1000 < N) (hn : n ≤ 4) (hn1 : 1 ≤ n) (v : Nat → Option Nat) (hv : ∀ C, v C = (rch (dn + 1) (stP (fst18 hr) fn en (fun i => limN (k i) (li i)) so di ea (agT q hr w r k c a)) (fun i => decide (f i = 0), 0) n C).map (fiP (fst18 hr) n fn (fun i => limN (k i) (li i)) co (agT q hr w r k c a))) {C : Nat} (hCb : C ≤ 2000) (hM : Scr MR M) : ∃ M', sRef_costOf N (nI C) (nI n) M = some (vEnc (v C), M') ∧ Scr MR M' ∧ ∀ x, v C = some x → x ≤ 5000 := by
  have hf := hBF.2.1
  have hh := hBS.1
  have hkc : ∀ i, i < fn → k i ≤ 3 ∧ c i < cn := fun i hi => ⟨(hBS.2 i hi).1, (hBS.2 i hi).2.1⟩
  have hfst : fst18 hr < 24 := Nat.mod_lt _ (by omega)
  obtain ⟨st, hst⟩ : ∃ st, st = stP (fst18 hr) fn en (fun i => limN (k i) (li i)) so di ea (agT q hr w r k c a) := ⟨_, rfl⟩
  rw [← hst] at hv
  obtain ⟨m1, c1, c2, c3⟩ := copy01 hN hf (hs.scr hf hM)
  have E0 : EvP MR m1 fn q hr (tE hr 0) w r k c a (fun i => decide (f i = 0)) := ⟨f, a, ⟨hM.trans c2, c3, fun i hi => ⟨(hBS.2 i hi).2.2.2, (hBS.2 i hi).2.2.1, fun _ => by
    show a i = a i + agN (k i) (w (c i)) (r (c i)) q hr 0
    rw [agN_0]; rfl⟩⟩, fun i hi => rfl⟩
  have hle := huN_le ea en
  have go : ∀ d kk p cc m, kk + d = n → rch (dn + 1) st (fun i => decide (f i = 0), 0) kk (C / (dn + 1) ^ d) = some (p, cc) → EvP MR m fn q hr (tE hr kk) w r k c a p → cc ≤ kk * 40 → ∀ G, d < G → ∃ M', itr (fun z : Int32 × Int32 × Mm => LRef_costOf_11_37 N (nI C) (nI n) z.1 z.2.1 z.2.2) G (nI cc, nI kk, m) = some (match rch (dn + 1) st (fun i => decide (f i = 0), 0) n C with | none => .inl M' | some s => .inr (nI s.2, M')) ∧ Scr MR M' ∧ ∀ s, rch (dn + 1) st (fun i => decide (f i = 0), 0) n C = some s → EvP MR M' fn q hr (tE hr n) w r k c a s.1 ∧ s.2 ≤ n * 40 := by
    intro d
    induction d with
    | zero =>
      intro kk p cc m hk hr' hev hcc G hG
      obtain ⟨G, rfl⟩ : ∃ m, G = m + 1 := ⟨G - 1, by omega⟩
      obtain rfl : kk = n := by omega
      rw [Nat.pow_zero, Nat.div_one] at hr'
      refine ⟨m, ?_, hev.elim fun _ z => z.elim fun _ z => z.1.1, fun s hs' => ?_⟩
      · unfold itr
        have : LRef_costOf_11_37 N (nI C) (nI kk) (nI cc) (nI kk) m = some (.inr (.inr (nI cc, m))) := by
          unfold LRef_costOf_11_37
          rw [if_pos (by rw [nIle (by omega) (by omega)]; omega)]
        show (LRef_costOf_11_37 N (nI C) (nI kk) (nI cc) (nI kk) m).bind _ = _
        rw [this, hr']
        rfl
      · rw [hr'] at hs'
        cases hs'
        exact ⟨hev, hcc⟩
    | succ d ih =>
      intro kk p cc m hk hr' hev hcc G hG
      obtain ⟨G, rfl⟩ : ∃ m, G = m + 1 := ⟨G - 1, by omega⟩
      obtain ⟨F, A, e1, e2⟩ := id hev
      obtain ⟨M3, A3, y1, y2⟩ := EvR_next hC hb hF hBF hkc hN hh (show kk ≤ 20 by omega) e1
      obtain ⟨M2, z1, z2⟩ := bnd_e y1
      have ete : tE hr (kk + 1) = fst18 hr + kk * 24 := by unfold tE; rw [if_neg (by omega)]; rfl
      have ev3 : EvP MR M3 fn q hr (fst18 hr + kk * 24) w r k c a p := ⟨F, A3, y2, e2⟩
      have h14' : M3 14 0 = nI dn := by rw [y2.1.at (by omega)]; exact h14
      have fig : sRef_figure N (nI C) (nI (dn + 1)) (nI n) (nI kk) = some (nI (C / (dn + 1) ^ d % (dn + 1))) := by
        rw [figureR hN (by omega) (by omega) (by omega) (by omega) (by omega), show n - 1 - kk = d by omega]
      obtain ⟨g, hg⟩ : ∃ g, g = C / (dn + 1) ^ d % (dn + 1) := ⟨_, rfl⟩
      have hgl : g < dn + 1 := by rw [hg]; exact Nat.mod_lt _ (by omega)
      have hnext : rch (dn + 1) st (fun i => decide (f i = 0), 0) (kk + 1) (C / (dn + 1) ^ d) = st kk g (p, cc) := by
        rw [rch_s, Nat.div_div_eq_div_mul, ← Nat.pow_succ, hr', hg]
        rfl
      have dset : (((if nI g = 0 then some 0 else rdc 10 (M3 15) (nI g - 1) fun zv31 => some zv31) : Option (Int32))) = some (nI (Dd di g)) := by
        simp only [nI_is0 (show g ≤ 1000 by omega)]
        unfold Dd
        by_cases cg : g = 0
        · rw [if_pos cg, if_pos cg]; rfl
        · rw [if_neg cg, if_neg cg, dec_n (by omega), rdc_n (by omega) (by omega), y2.1.at (by omega), (hdi (g - 1) (by omega)).2.2]
      have hDb : Dd di g ≤ 15 := by
        unfold Dd
        by_cases cg : g = 0
        · rw [if_pos cg]; omega
        · rw [if_neg cg]; exact (hdi (g - 1) (by omega)).2.1
      obtain ⟨M4, u1, u2, u3⟩ := eatR hC hF hBF (fun i hi => (hkc i hi).1) hN (by omega) ev3 (D := Dd di g) (by omega)
      have hhun : sRef_hungryOf N (nI (Dd di g)) M4 = some (nI (huN ea en (Dd di g))) := hungryR (by rw [u2.at (by omega)]; exact h16) hen (by rw [u2.at (by omega)]; exact hea) hN (by omega)
      have est : st kk g (p, cc) = (eats (pkS p (offB (fun i => limN (k i) (li i)) (agT q hr w r k c a (fst18 hr + kk * 24))) so (olN (agT q hr w r k c a (fst18 hr + kk * 24)) (fun i => limN (k i) (li i))) fn) (Dd di g) 4).map fun E => (fun i => p i && !E i, cc + 10 * huN ea en (Dd di g)) := by rw [hst]; rfl
      have head : LRef_costOf_11_37 N (nI C) (nI n) (nI cc) (nI kk) m = (sRef_eatDish N (nI (Dd di g)) M3).bind fun z => (if z.1 = 0 then some (.inr (.inl z.2)) else (sRef_hungryOf N (nI (Dd di g)) z.2).bind fun zv34 => ltI (nI cc + 10 * zv34) fun zv35 => ltI (nI kk + 1) fun zv36 => some (.inl (zv35, zv36, z.2))) := by
        unfold LRef_costOf_11_37
        rw [if_neg (by rw [nIle (by omega) (by omega)]; omega), z1, some_bind, z2, some_bind, rdc_0 (by omega) (by omega), h14', nI_s, fig, some_bind, ← hg, dset, some_bind]
      unfold itr
      show ∃ M', (LRef_costOf_11_37 N (nI C) (nI n) (nI cc) (nI kk) m).bind _ = _ ∧ _
      rw [head, u1, some_bind]
      cases hE : eats (pkS p (offB (fun i => limN (k i) (li i)) (agT q hr w r k c a (fst18 hr + kk * 24))) so (olN (agT q hr w r k c a (fst18 hr + kk * 24)) (fun i => limN (k i) (li i))) fn) (Dd di g) 4 with
      | none =>
        rw [hE] at est
        have hnone : rch (dn + 1) st (fun i => decide (f i = 0), 0) n C = none := by
          cases hrc : rch (dn + 1) st (fun i => decide (f i = 0), 0) n C with
          | none => rfl
          | some s' =>
            have hnn : n = (kk + 1) + d := by omega
            rw [hnn] at hrc
            obtain ⟨s1, w1, -⟩ := rch_up (cst := fun s => s.2) (by rw [hst]; exact stP_cst) (kk + 1) d C s' hrc
            rw [hnext, est] at w1
            cases w1
        rw [hnone]
        refine ⟨M4, ?_, u2, fun s hs' => by cases hs'⟩
        show (if (0 : Int32) = 0 then some (Sum.inr (Sum.inl M4)) else _).bind _ = _
        rw [i00]
        rfl
      | some E =>
        rw [hE] at est
        have hev' := u3 E hE
        rw [← ete] at hev'
        show ∃ M', ((if (1 : Int32) = 0 then _ else (sRef_hungryOf N (nI (Dd di g)) M4).bind fun zv34 => ltI (nI cc + 10 * zv34) fun zv35 => ltI (nI kk + 1) fun zv36 => some (.inl (zv35, zv36, M4))) : Option ((Int32 × Int32 × Mm) ⊕ ((Mm) ⊕ (Int32 × Mm)))).bind _ = _ ∧ _
        rw [i10, hhun, some_bind, ltI_u, ltI_u, some_bind, ten_n, nI_add, nI_s]
        exact ih (kk + 1) _ _ M4 (by omega) (by rw [hnext, est]; rfl) hev' (by have := hle (Dd di g); omega) G (by omega)
  obtain ⟨M', g1, g2, g3⟩ := go n 0 (fun i => decide (f i = 0)) 0 m1 (by omega) rfl E0 (by omega) N (by omega)
  have head : sRef_costOf N (nI C) (nI n) M = (itr (fun z : Int32 × Int32 × Mm => LRef_costOf_11_37 N (nI C) (nI n) z.1 z.2.1 z.2.2) N (nI 0, nI 0, m1)).bind fun q => match q with
      | .inl zM38 => some ((-4), zM38)
      | .inr (zv39, zM40) => (sRef_offCoin N (nI 1) zM40).bind fun zv41 => some (zv39 + zv41, zM40) := by
    unfold sRef_costOf
    rw [c1, some_bind]
    rfl
  rw [head, g1, some_bind]
  have hvC := hv C
  cases hrc : rch (dn + 1) st (fun i => decide (f i = 0), 0) n C with
  | none =>
    rw [hrc] at hvC
    have hvC : v C = none := hvC
    rw [hvC]
    exact ⟨M', rfl, g2, fun x hx => by cases hx⟩
  | some s =>
    rw [hrc] at hvC
    have hvC : v C = some (fiP (fst18 hr) n fn (fun i => limN (k i) (li i)) co (agT q hr w r k c a) s) := hvC
    obtain ⟨e1, e2⟩ := g3 s hrc
    have etn : tE hr n = fst18 hr + (n - 1) * 24 := by unfold tE; rw [if_neg (by omega)]
    rw [etn] at e1
    have hco := coinP hF hBF (fun i hi => (hkc i hi).1) hN (by omega) e1
    have Sb := smN_le (e := fun i => if (s.1 i && offB (fun i => limN (k i) (li i)) (agT q hr w r k c a (fst18 hr + (n - 1) * 24)) i) = true then co i else 0) (b := 99) (n := fn) fun i hi => by
      have := (hBF.2.2 i hi).1
      show (if (s.1 i && offB (fun i => limN (k i) (li i)) (agT q hr w r k c a (fst18 hr + (n - 1) * 24)) i) = true then co i else 0) ≤ 99
      split <;> omega
    rw [hvC]
    refine ⟨M', ?_, g2, fun x hx => ?_⟩
    · show ((sRef_offCoin N (nI 1) M').bind fun zv41 => some (nI s.2 + zv41, M')) = _
      rw [hco, some_bind, nI_add]
      rfl
    · have hx := Option.some.inj hx
      rw [← hx]
      unfold fiP
      omega
end PR
theorem scn_ne {v : Nat → Option Nat} {i x : Nat} (hi : v i = some x) : ∀ {n}, i < n → scn v n ≠ none
  | 0, h, _ => absurd h (by omega)
  | n + 1, h, hn => by
    cases hv : v n with
    | none =>
      rw [scn_none hv] at hn
      have : i ≠ n := fun z => by rw [z, hv] at hi; cases hi
      exact scn_ne hi (by omega) hn
    | some y =>
      cases hs : scn v n with
      | none => rw [scn_first hv hs] at hn; cases hn
      | some bl =>
        obtain ⟨b, l⟩ := bl
        rw [scn_more hv hs] at hn
        by_cases c : l ≤ y
        · rw [if_pos c] at hn; cases hn
        · rw [if_neg c] at hn; cases hn
/-- best and least, as the reference keeps them -/
def bE : Option (Nat × Nat) → Int32
  | none => -4
  | some bl => nI bl.1
def lE : Option (Nat × Nat) → Int32
  | none => 0
  | some bl => nI bl.2
theorem pow_b {B n : Nat} (hB : B ≤ 6) (hn : n ≤ 4) : B ^ n ≤ 1296 := Nat.le_trans (Nat.pow_le_pow_left hB n) (Nat.le_trans (Nat.pow_le_pow_right (n := 6) (by omega) hn) (by decide))
theorem in1_4 (a : Int32) : sRef_in (Int32.toInt64 a) 1 4 = sOff_isWithin a 1 4 := in_eq a 1 4
theorem inm1 (a b : Int32) : sRef_in (Int32.toInt64 a) (-1) (Int32.toInt64 b) = sOff_isWithin a (-1) b := by rw [Lm1]; exact in_eq a (-1) b
theorem ok_plan {N : Nat} (hN : 10000 < N) : Ok_plan Rel N := by
  intro a1 a2 MX MR h0
  obtain ⟨cn, fn, q, hr, w, r, d, co, li, so, k, c, a, f, bC, bF, bS, xC, xF, xS, rC, rF, rS⟩ := Rel_view h0
  obtain ⟨dn, en, di, ea, hdn, hen, x22, x225, r14, r16, hdi, hea⟩ := Rel_view2 h0
  have hSo := Rel_SoX h0 xF bF
  have hf := bF.2.1
  have hh := bS.1
  have hN1 : 1000 < N := by omega
  by_cases hw : (1 : Int32).toInt ≤ a1.toInt ∧ a1.toInt ≤ (4 : Int32).toInt
  · have w1 : (1 : Int) ≤ a1.toInt := hw.1
    have w2 : a1.toInt ≤ (4 : Int) := hw.2
    obtain ⟨n, hn, rfl⟩ := nI_ofRange (n := 5) (a := a1) (by omega) (by omega) (by omega)
    rw [nI_t (by omega)] at w1
    have en1 : nI n - 1 = nI (n - 1) := pk_sub (b := 1) (by omega)
    by_cases hw2 : (-1 : Int32).toInt ≤ a2.toInt ∧ a2.toInt ≤ (nI n - 1).toInt
    · obtain ⟨v, hv⟩ : ∃ v : Nat → Option Nat, v = fun C => (rch (dn + 1) (stP (fst18 hr) fn en (fun i => limN (k i) (li i)) so di ea (agT q hr w r k c a)) (fun i => decide (f i = 0), 0) n C).map (fiP (fst18 hr) n fn (fun i => limN (k i) (li i)) co (agT q hr w r k c a)) := ⟨_, rfl⟩
      have hvC : ∀ C, v C = (rch (dn + 1) (stP (fst18 hr) fn en (fun i => limN (k i) (li i)) so di ea (agT q hr w r k c a)) (fun i => decide (f i = 0), 0) n C).map (fiP (fst18 hr) n fn (fun i => limN (k i) (li i)) co (agT q hr w r k c a)) := fun C => by rw [hv]
      have hpw := pow_b (B := dn + 1) (n := n) (by omega) (by omega)
      have hpw0 : 0 < (dn + 1) ^ n := Nat.pow_pos (by omega)
      -- code 0
      have h00 : ∃ x, v 0 = some x := by
        have : ∀ j, ∃ s, rch (dn + 1) (stP (fst18 hr) fn en (fun i => limN (k i) (li i)) so di ea (agT q hr w r k c a)) (fun i => decide (f i = 0), 0) j 0 = some s := fun j => by
          induction j with
          | zero => exact ⟨_, rfl⟩
          | succ j ih =>
            obtain ⟨s, hs⟩ := ih
            rw [rch_s, Nat.zero_div, Nat.zero_mod, hs, some_bind]
            unfold stP
            rw [show Dd di 0 = 0 from rfl, eats_0]
            exact ⟨_, rfl⟩
        obtain ⟨s, hs⟩ := this n
        exact ⟨_, by rw [hvC, hs]; rfl⟩
      obtain ⟨x0, h00⟩ := h00
      obtain ⟨bl, hbl⟩ : ∃ bl, scn v ((dn + 1) ^ n) = some bl := by
        cases hs : scn v ((dn + 1) ^ n) with
        | none => exact absurd hs (scn_ne h00 hpw0)
        | some bl => exact ⟨bl, rfl⟩
      obtain ⟨bb, l⟩ := bl
      have hbb := (scn_in hbl).1
      -- the class
      obtain ⟨M1, hM1⟩ : ∃ M1, M1 = mset (mset MX 63 4 (nI n)) 63 5 1000000000 := ⟨_, rfl⟩
      have sc1 : ∀ r, r ≠ 63 → M1 r = MX r := fun r hr => by rw [hM1, mset_ne _ _ _ hr, mset_ne _ _ _ hr]
      have xC1 : VXc M1 cn q w r d := by unfold VXc; rw [sc1 23 (by omega), sc1 24 (by omega), sc1 25 (by omega), sc1 26 (by omega)]; exact xC
      have xF1 : VXf M1 fn co li so := by unfold VXf; rw [sc1 27 (by omega), sc1 30 (by omega), sc1 31 (by omega), sc1 33 (by omega)]; exact xF
      have xS1 : VXs M1 fn hr k c a f := by unfold VXs; rw [sc1 40 (by omega), sc1 41 (by omega), sc1 42 (by omega), sc1 43 (by omega), sc1 44 (by omega)]; exact xS
      obtain ⟨M3, l0, l1⟩ := lookX xC1 bC xS1 xF1 bF bS hN1 (n := n) (by omega)
      have g1 : ∀ r, r ≠ 60 → r ≠ 61 → r ≠ 62 → r ≠ 63 → M3 r = MX r := fun r e1 e2 e3 e4 => (l1.1 r e1 e2 e3).trans (sc1 r e4)
      have xF3 : VXf M3 fn co li so := by
        unfold VXf
        rw [g1 27 (by omega) (by omega) (by omega) (by omega), g1 30 (by omega) (by omega) (by omega) (by omega), g1 31 (by omega) (by omega) (by omega) (by omega), g1 33 (by omega) (by omega) (by omega) (by omega)]
        exact xF
      have b0 : sStock_bitsThere N M3 = some (nI (bt (fun i => decide (f i = 0)) fn)) := by
        rw [bitsX (M := M3) (by rw [g1 40 (by omega) (by omega) (by omega) (by omega)]; exact xS.1) hf hN1]
        congr 2
        refine btP_ext fun i hi => ?_
        obtain ⟨s1, s2, s3, s4⟩ := bS.2 i hi
        rw [g1 44 (by omega) (by omega) (by omega) (by omega), (xS.2.2 i hi).2.2.2]
        simp only [nI_is0 (show f i ≤ 1000 by omega)]
      have m634 : M3 63 4 = nI n := by rw [l1.1 63 (by omega) (by omega) (by omega), hM1, mset_eq, upd_ne _ _ (by omega), mset_eq, upd_eq]
      have m635 : M3 63 5 = 1000000000 := by rw [l1.1 63 (by omega) (by omega) (by omega), hM1, mset_eq, upd_eq]
      obtain ⟨M4, t1, t2, t3⟩ := tryX l1 xF3 bF (by unfold SoX; rw [g1 34 (by omega) (by omega) (by omega) (by omega)]; exact hSo) (by rw [g1 22 (by omega) (by omega) (by omega) (by omega)]; exact x22) hdn (fun d hd => ⟨(hdi d hd).1, (hdi d hd).2.1, by rw [g1 35 (by omega) (by omega) (by omega) (by omega)]; exact (hdi d hd).2.2.1⟩) (by rw [g1 22 (by omega) (by omega) (by omega) (by omega)]; exact x225) hen (fun e he => by rw [g1 36 (by omega) (by omega) (by omega) (by omega)]; exact (hea e he).1) hN1 (by omega) (by omega) v hvC n 6 0 0 (fun i => decide (f i = 0)) 0 M3 (by omega) (by omega) rfl (by omega) ⟨fun _ _ _ _ => rfl, m634, trivial⟩ (by rw [Nat.zero_mul]; exact m635)
      rw [Nat.zero_add, Nat.one_mul, hbl] at t3
      obtain ⟨t4, t5, t6⟩ := t3
      have t4 : M4 63 5 = nI l := t4
      have t5 : l ≤ 5000 := t5
      have hfind : sPlanner_findCheapest N (nI n) MX = some M4 := by
        unfold sPlanner_findCheapest
        rw [ltM_u, ltM_u, ← hM1, show M1 63 4 = nI n by rw [hM1, mset_eq, upd_ne _ _ (by omega), mset_eq, upd_eq], l0, some_bind, b0, some_bind]
        show (sPlanner_tryEvening N 6 (nI 0) (nI (bt (fun i => decide (f i = 0)) fn)) (nI 0) M3).bind _ = _
        rw [t1, some_bind]
      have hsX : ScX MX M4 := fun r hr => by
        rw [t2.1 r (by omega) (by omega) (by omega)]
        exact g1 r (by omega) (by omega) (by omega) (by omega)
      -- the reference
      have hrows : itr (fun z : Int32 × Int32 => LRef_plan_34_11 N (nI n) MR z.1 z.2) N (1, 0) = some (nI ((dn + 1) ^ n)) := by
        refine itr_n (fun i => (nI ((dn + 1) ^ i), nI i)) n rfl (fun i hi => ?_) ?_ (by omega)
        · show LRef_plan_34_11 N (nI n) MR (nI ((dn + 1) ^ i)) (nI i) = some (.inl (nI ((dn + 1) ^ (i + 1)), nI (i + 1)))
          unfold LRef_plan_34_11
          rw [if_neg (by rw [nIle (by omega) (by omega)]; omega), rdc_0 (by omega) (by omega), r14, nI_s, pk_mul, ltI_u, ltI_u, nI_s, Nat.pow_succ]
        · show LRef_plan_34_11 N (nI n) MR (nI ((dn + 1) ^ n)) (nI n) = _
          unfold LRef_plan_34_11
          rw [if_pos (by rw [nIle (by omega) (by omega)]; omega)]
      obtain ⟨rr, u1, M', u2, u3⟩ := itr_i (f := fun z : Int32 × Int32 × Int32 × Mm => LRef_plan_67_29 N (nI n) (nI ((dn + 1) ^ n)) z.1 z.2.1 z.2.2.1 z.2.2.2)
        (fun i s => ∃ m, s = (bE (scn v i), lE (scn v i), nI i, m) ∧ Scr MR m ∧ ∀ b' l', scn v i = some (b', l') → b' ≤ 2000 ∧ l' ≤ 5000)
        (fun rr => ∃ m, rr = (nI bb, nI l, m) ∧ Scr MR m) ((dn + 1) ^ n) (s := (-4, 0, 0, MR)) (N := N)
        ⟨MR, rfl, Scr.refl MR, fun _ _ z => by cases z⟩ (fun i s hi hPi => by
          obtain ⟨m, rfl, y1, y2⟩ := hPi
          obtain ⟨m', z1, z2, z3⟩ := costR rC bC rF bF bS rS r14 hdn (fun d hd => ⟨(hdi d hd).1, (hdi d hd).2.1, (hdi d hd).2.2.2⟩) r16 hen (fun e he => (hea e he).2) hN1 (by omega) (by omega) v hvC (C := i) (by omega) y1
          have head : LRef_plan_67_29 N (nI n) (nI ((dn + 1) ^ n)) (bE (scn v i)) (lE (scn v i)) (nI i) m = (if vEnc (v i) < 0 then some (.inl (bE (scn v i), lE (scn v i), nI (i + 1), m')) else (if bE (scn v i) < 0 then some (.inl (nI i, vEnc (v i), nI (i + 1), m')) else (if lE (scn v i) ≤ vEnc (v i) then some (.inl (bE (scn v i), lE (scn v i), nI (i + 1), m')) else some (.inl (nI i, vEnc (v i), nI (i + 1), m'))))) := by
            unfold LRef_plan_67_29
            rw [if_neg (by rw [nIle (by omega) (by omega)]; omega), z1, some_bind, ← nI_s]
            rfl
          show ∃ s', LRef_plan_67_29 N (nI n) (nI ((dn + 1) ^ n)) (bE (scn v i)) (lE (scn v i)) (nI i) m = some (.inl s') ∧ _
          rw [head]
          cases hvi : v i with
          | none =>
            rw [if_pos (show vEnc none < 0 from by decide)]
            exact ⟨_, rfl, m', by rw [scn_none hvi], z2, by rw [scn_none hvi]; exact y2⟩
          | some x =>
            have hx := z3 x hvi
            rw [if_neg (show ¬ vEnc (some x) < 0 from nI_pos (by omega))]
            cases hs : scn v i with
            | none =>
              rw [if_pos (show bE none < 0 from by decide)]
              refine ⟨_, rfl, m', by rw [scn_first hvi hs]; rfl, z2, fun b' l' e => ?_⟩
              rw [scn_first hvi hs] at e
              cases e
              exact ⟨by omega, hx⟩
            | some bl =>
              obtain ⟨b1, l1⟩ := bl
              obtain ⟨y3, y4⟩ := y2 b1 l1 hs
              rw [if_neg (show ¬ bE (some (b1, l1)) < 0 from nI_pos (by omega))]
              by_cases cc : l1 ≤ x
              · rw [if_pos (show lE (some (b1, l1)) ≤ vEnc (some x) from by show nI l1 ≤ nI x; rw [nIle (by omega) (by omega)]; exact cc)]
                refine ⟨_, rfl, m', by rw [scn_more hvi hs, if_pos cc], z2, fun b' l' e => ?_⟩
                rw [scn_more hvi hs, if_pos cc] at e
                cases e
                exact ⟨y3, y4⟩
              · rw [if_neg (show ¬ lE (some (b1, l1)) ≤ vEnc (some x) from by show ¬ nI l1 ≤ nI x; rw [nIle (by omega) (by omega)]; exact cc)]
                refine ⟨_, rfl, m', by rw [scn_more hvi hs, if_neg cc]; rfl, z2, fun b' l' e => ?_⟩
                rw [scn_more hvi hs, if_neg cc] at e
                cases e
                exact ⟨by omega, hx⟩) (fun s hPi => by
          obtain ⟨m, rfl, y1, y2⟩ := hPi
          refine ⟨_, ?_, m, rfl, y1⟩
          show LRef_plan_67_29 N (nI n) (nI ((dn + 1) ^ n)) (bE (scn v ((dn + 1) ^ n))) (lE (scn v ((dn + 1) ^ n))) (nI ((dn + 1) ^ n)) m = _
          unfold LRef_plan_67_29
          rw [if_pos (by rw [nIle (by omega) (by omega)]; omega), hbl]
          rfl) (by omega)
      have eX : sOff_plan N (nI n) a2 MX = if 0 ≤ a2 then some (atf 4 (M4 65) a2, M4) else some (nI l, M4) := by
        unfold sOff_plan
        rw [within_T hw.1 hw.2, some_bind, i10, within_T hw2.1 hw2.2, some_bind, i10, hfind, some_bind, t4]
        rfl
      have eR' : sRef_plan N (nI n) a2 MR = if 0 ≤ a2 then (sRef_figure N (nI bb) (nI (dn + 1)) (nI n) a2).bind fun zv34 => (if zv34 = 0 then some (-4, M') else some (zv34 - 1, M')) else some (nI l, M') := by
        unfold sRef_plan
        rw [in1_4, within_T hw.1 hw.2, some_bind, i10, inm1, within_T hw2.1 hw2.2, some_bind, i10, hrows, some_bind]
        show ((itr (fun z : Int32 × Int32 × Int32 × Mm => LRef_plan_67_29 N (nI n) (nI ((dn + 1) ^ n)) z.1 z.2.1 z.2.2.1 z.2.2.2) N (-4, 0, 0, MR)).bind _) = _
        rw [u1, some_bind, u2]
        show (if 0 ≤ a2 then rdc 2 (M' 14) 0 fun zv33 => _ else _) = _
        rw [rdc_0 (by omega) (by omega), u3.at (by omega), r14, nI_s]
      rw [eX, eR']
      by_cases ca : (0 : Int32) ≤ a2
      · rw [if_pos ca, if_pos ca]
        have ca' : (0 : Int) ≤ a2.toInt := by rw [Int32.le_iff_toInt_le] at ca; exact ca
        have cb := hw2.2
        rw [en1, nI_t (by omega)] at cb
        obtain ⟨i, hi, rfl⟩ := nI_ofRange (n := n) (a := a2) ca' (by omega) (by omega)
        rw [figureR hN1 (by omega) (by omega) (by omega) hi (by omega), some_bind, atf_n (by omega) (by omega), RwX_at t6 i hi]
        show ∃ r MX1 MR1, some (dgP (bb / (dn + 1) ^ (n - 1 - i) % (dn + 1)), M4) = _ ∧ _ = _ ∧ _
        have hgl : bb / (dn + 1) ^ (n - 1 - i) % (dn + 1) < dn + 1 := Nat.mod_lt _ (by omega)
        generalize bb / (dn + 1) ^ (n - 1 - i) % (dn + 1) = g at hgl
        simp only [nI_is0 (show g ≤ 1000 by omega)]
        cases g with
        | zero => exact ⟨_, _, _, rfl, by rw [if_pos rfl]; rfl, Rel_scr (Rel_scX h0 hsX) u3⟩
        | succ g => exact ⟨_, _, _, rfl, by rw [if_neg (by omega), dec_n (by omega)]; rfl, Rel_scr (Rel_scX h0 hsX) u3⟩
      · rw [if_neg ca, if_neg ca]
        exact ⟨_, _, _, rfl, rfl, Rel_scr (Rel_scX h0 hsX) u3⟩
    · refine ⟨-1, MX, MR, ?_, ?_, h0⟩
      · unfold sOff_plan
        rw [within_T hw.1 hw.2, some_bind, i10, within_F hw2]; rfl
      · unfold sRef_plan
        rw [in1_4, within_T hw.1 hw.2, some_bind, i10, inm1, within_F hw2]; rfl
  · exact ⟨-1, MX, MR, by unfold sOff_plan; rw [within_F hw]; rfl, by unfold sRef_plan; rw [in1_4, within_F hw]; rfl, h0⟩
