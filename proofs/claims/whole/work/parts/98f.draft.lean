/-! PURE PART 25: what a text tells, on both sides; the reference's items. By hand. -/
def RCl0 (cn : Nat) (x3 x4 : Int32) (w m o : Nat → Int32) (r2 r6 : Int32) (rw rm ro : Nat → Int32) : Prop :=
  cn ≤ 6 ∧ x3 = nI cn ∧ r2 = nI cn ∧ (∃ q : Nat, q < 16777216 ∧ x4 = nI q ∧ r6 = nI q) ∧ ∀ c, c < cn → ∃ a b d : Nat, a ≤ 200 ∧ b ≤ 99 ∧ 1 ≤ d ∧ d ≤ 10 ∧ w c = nI a ∧ rw c = nI a ∧ m c = nI b ∧ rm c = nI b ∧ o c = nI d ∧ ro c = nI d
def RFo0 (cn fn : Nat) (x7 : Int32) (ki ce co li pr so os : Nat → Int32) (r7 : Int32) (rki rce rco rli rpr rso : Nat → Int32) : Prop :=
  fn ≤ 10 ∧ x7 = nI fn ∧ r7 = nI fn ∧ (∀ i, i < fn → ∃ k c a b p s : Nat, k ≤ 3 ∧ c < cn ∧ a ≤ 99 ∧ 1 ≤ b ∧ b ≤ 240 ∧ p ≤ 99 ∧ s ≤ 3 ∧ ki i = nI k ∧ rki i = nI k ∧ ce i = nI c ∧ rce i = nI c ∧ co i = nI a ∧ rco i = nI a ∧ li i = nI b ∧ rli i = nI b ∧ pr i = nI p ∧ rpr i = nI p ∧ so i = nI s ∧ rso i = nI s) ∧
  ∀ t, t < 4 → ∃ q : Nat, q < 2 ^ fn ∧ os t = nI q ∧ ∀ i, i < fn → (q.testBit i = true ↔ so i = nI t)
theorem RCl0_add {cn : Nat} {x3 x4 r2 r6 x3' r2' : Int32} {w m o rw rm ro w' m' o' rw' rm' ro' : Nat → Int32} (h : RCl0 cn x3 x4 w m o r2 r6 rw rm ro) (hc : cn < 6) {a b d : Nat} (ha : a ≤ 200) (hb : b ≤ 99) (hd1 : 1 ≤ d) (hd2 : d ≤ 10) (e3 : x3' = nI (cn + 1)) (e2 : r2' = nI (cn + 1)) (hX : ∀ c, c < cn → w' c = w c ∧ m' c = m c ∧ o' c = o c ∧ rw' c = rw c ∧ rm' c = rm c ∧ ro' c = ro c) (hn : w' cn = nI a ∧ m' cn = nI b ∧ o' cn = nI d ∧ rw' cn = nI a ∧ rm' cn = nI b ∧ ro' cn = nI d) : RCl0 (cn + 1) x3' x4 w' m' o' r2' r6 rw' rm' ro' := by
  obtain ⟨h1, h2, h3, h4, h5⟩ := h
  refine ⟨by omega, e3, e2, h4, fun c hc' => ?_⟩
  by_cases e : c = cn
  · subst e
    exact ⟨a, b, d, ha, hb, hd1, hd2, hn.1, hn.2.2.2.1, hn.2.1, hn.2.2.2.2.1, hn.2.2.1, hn.2.2.2.2.2⟩
  · obtain ⟨a', b', d', q1, q2, q3, q4, q5, q6, q7, q8, q9, q10⟩ := h5 c (by omega)
    obtain ⟨y1, y2, y3, y4, y5, y6⟩ := hX c (by omega)
    exact ⟨a', b', d', q1, q2, q3, q4, y1.trans q5, y4.trans q6, y2.trans q7, y5.trans q8, y3.trans q9, y6.trans q10⟩
theorem RCl0_open {cn : Nat} {x3 x4 r2 r6 : Int32} {w m o rw rm ro : Nat → Int32} (h : RCl0 cn x3 x4 w m o r2 r6 rw rm ro) {x : Nat} (hx : x ≤ 23) : RCl0 cn x3 (x4 ||| (1 <<< (nI x &&& 31))) w m o r2 (r6 ||| (1 <<< (nI x &&& 31))) rw rm ro := by
  obtain ⟨h1, h2, h3, ⟨q, q1, q2, q3⟩, h5⟩ := h
  have hp : 2 ^ x < 2 ^ 24 := Nat.pow_lt_pow_right (by omega) (by omega)
  refine ⟨h1, h2, h3, ⟨q ||| 2 ^ x, Nat.or_lt_two_pow (n := 24) q1 hp, ?_, ?_⟩, h5⟩
  · rw [q2, shOne (by omega), nI_or (by omega) (by omega)]
  · rw [q3, shOne (by omega), nI_or (by omega) (by omega)]
theorem RFo0_cn {cn fn : Nat} {x7 r7 : Int32} {ki ce co li pr so os rki rce rco rli rpr rso : Nat → Int32} (h : RFo0 cn fn x7 ki ce co li pr so os r7 rki rce rco rli rpr rso) : RFo0 (cn + 1) fn x7 ki ce co li pr so os r7 rki rce rco rli rpr rso := by
  obtain ⟨h1, h2, h3, h4, h5⟩ := h
  refine ⟨h1, h2, h3, fun i hi => ?_, h5⟩
  obtain ⟨k, c, a, b, p, s, q1, q2, q⟩ := h4 i hi
  exact ⟨k, c, a, b, p, s, q1, by omega, q⟩
theorem RFo0_add {cn fn : Nat} {x7 r7 x7' r7' : Int32} {ki ce co li pr so os rki rce rco rli rpr rso ki' ce' co' li' pr' so' os' rki' rce' rco' rli' rpr' rso' : Nat → Int32} (h : RFo0 cn fn x7 ki ce co li pr so os r7 rki rce rco rli rpr rso) (hf : fn < 10) {k c a b p s : Nat} (hk : k ≤ 3) (hc : c < cn) (ha : a ≤ 99) (hb1 : 1 ≤ b) (hb : b ≤ 240) (hp : p ≤ 99) (hs : s ≤ 3) (e7 : x7' = nI (fn + 1)) (er : r7' = nI (fn + 1))
    (hX : ∀ i, i < fn → ki' i = ki i ∧ ce' i = ce i ∧ co' i = co i ∧ li' i = li i ∧ pr' i = pr i ∧ so' i = so i ∧ rki' i = rki i ∧ rce' i = rce i ∧ rco' i = rco i ∧ rli' i = rli i ∧ rpr' i = rpr i ∧ rso' i = rso i)
    (hn : ki' fn = nI k ∧ ce' fn = nI c ∧ co' fn = nI a ∧ li' fn = nI b ∧ pr' fn = nI p ∧ so' fn = nI s ∧ rki' fn = nI k ∧ rce' fn = nI c ∧ rco' fn = nI a ∧ rli' fn = nI b ∧ rpr' fn = nI p ∧ rso' fn = nI s)
    (ho : ∀ t, t < 4 → t ≠ s → os' t = os t) (hos : os' s = os s ||| (1 <<< (nI fn &&& 31))) : RFo0 cn (fn + 1) x7' ki' ce' co' li' pr' so' os' r7' rki' rce' rco' rli' rpr' rso' := by
  obtain ⟨h1, h2, h3, h4, h5⟩ := h
  obtain ⟨n1, n2, n3, n4, n5, n6, n7, n8, n9, n10, n11, n12⟩ := hn
  refine ⟨by omega, e7, er, fun i hi => ?_, fun t ht => ?_⟩
  · by_cases e : i = fn
    · subst e
      exact ⟨k, c, a, b, p, s, hk, hc, ha, hb1, hb, hp, hs, n1, n7, n2, n8, n3, n9, n4, n10, n5, n11, n6, n12⟩
    · obtain ⟨k', c', a', b', p', s', q1, q2, q3, q4, q5, q6, q7, w1, w2, w3, w4, w5, w6, w7, w8, w9, w10, w11, w12⟩ := h4 i (by omega)
      obtain ⟨y1, y2, y3, y4, y5, y6, y7, y8, y9, y10, y11, y12⟩ := hX i (by omega)
      exact ⟨k', c', a', b', p', s', q1, q2, q3, q4, q5, q6, q7, y1.trans w1, y7.trans w2, y2.trans w3, y8.trans w4, y3.trans w5, y9.trans w6, y4.trans w7, y10.trans w8, y5.trans w9, y11.trans w10, y6.trans w11, y12.trans w12⟩
  · obtain ⟨q, q1, q2, q3⟩ := h5 t ht
    have q1' : q < 2 ^ (fn + 1) := by rw [Nat.pow_succ]; omega
    by_cases e : t = s
    · subst e
      have hq30 : q < 2 ^ fn := q1
      refine ⟨q + 2 ^ fn, by rw [Nat.pow_succ]; omega, by rw [hos, q2, orBit (by omega) q1], fun i hi => ?_⟩
      rw [Nat.add_comm]
      by_cases ei : i = fn
      · subst ei
        rw [Nat.testBit_two_pow_add_eq, Nat.testBit_lt_two_pow q1, n6]
        exact ⟨fun _ => rfl, fun _ => rfl⟩
      · rw [Nat.testBit_two_pow_add_gt (by omega), (hX i (by omega)).2.2.2.2.2.1]
        exact q3 i (by omega)
    · refine ⟨q, q1', by rw [ho t ht e]; exact q2, fun i hi => ?_⟩
      by_cases ei : i = fn
      · subst ei
        rw [Nat.testBit_lt_two_pow q1, n6]
        exact ⟨fun z => (Bool.false_ne_true z).elim, fun z => absurd (nI_inj (by omega) (by omega) z).symm e⟩
      · rw [(hX i (by omega)).2.2.2.2.2.1]
        exact q3 i (by omega)
theorem RBit_add {most least dn : Nat} {xd rd xd' rd' : Nat → Int32} {x3' r' : Int32} (h1 : dn < most) (hd : ∀ d, d < dn → ∃ a : Nat, least ≤ a ∧ a ≤ 15 ∧ xd d = nI a ∧ rd d = nI a) {x : Nat} (hx : least ≤ x) (hx2 : x ≤ 15) (e3 : x3' = nI (dn + 1)) (er : r' = nI (dn + 1)) (hX : ∀ d, d < dn → xd' d = xd d ∧ rd' d = rd d) (hn : xd' dn = nI x ∧ rd' dn = nI x) : RBit most least x3' xd' r' rd' := by
  refine ⟨dn + 1, by omega, e3, er, fun d hd' => ?_⟩
  by_cases e : d = dn
  · subst e
    exact ⟨x, hx, hx2, hn.1, hn.2⟩
  · obtain ⟨a, a1, a2, a3, a4⟩ := hd d (by omega)
    exact ⟨a, a1, a2, (hX d (by omega)).1.trans a3, (hX d (by omega)).2.trans a4⟩
theorem RPar_add {gn : Nat} {x2 x3 x4 x7 r x2' r' : Int32} {g w rg rw pr g' w' rg' rw' : Nat → Int32} (h : RPar x2 g w x3 x4 x7 r rg rw pr) (hg : x2 = nI gn) (hg6 : gn < 6) {a b : Nat} (ha : a ≤ 9) (hb : b ≤ 99) (e2 : x2' = nI (gn + 1)) (er : r' = nI (gn + 1)) (hX : ∀ j, j < gn → g' j = g j ∧ w' j = w j ∧ rg' j = rg j ∧ rw' j = rw j) (hn : g' gn = nI a ∧ w' gn = nI b ∧ rg' gn = nI a ∧ rw' gn = nI b) : RPar x2' g' w' x3 x4 x7 r' rg' rw' pr := by
  obtain ⟨⟨gn', h1, h2, h3, h4⟩, h5⟩ := h
  have e : gn' = gn := nI_inj (by omega) (by omega) (h2.symm.trans hg)
  subst e
  refine ⟨⟨gn' + 1, by omega, e2, er, fun j hj => ?_⟩, h5⟩
  by_cases e : j = gn'
  · subst e
    exact ⟨a, b, ha, hb, hn.1, hn.2.2.1, hn.2.1, hn.2.2.2⟩
  · obtain ⟨a', b', q1, q2, q3, q4, q5, q6⟩ := h4 j (by omega)
    obtain ⟨y1, y2, y3, y4⟩ := hX j (by omega)
    exact ⟨a', b', q1, q2, y1.trans q3, y3.trans q4, y2.trans q5, y4.trans q6⟩
-- frames
def FrX (lo hi : Nat) (M M' : Mm) : Prop := (∀ r, r ≠ 1 → r ≠ 3 → ¬ (lo ≤ r ∧ r ≤ hi) → M' r = M r) ∧ M' 1 1 = M 1 1
def FrZ (lo hi : Nat) (M M' : Mm) : Prop := ∀ r, ¬ (lo ≤ r ∧ r ≤ hi) → M' r = M r
theorem FrX.refl (lo hi : Nat) (M : Mm) : FrX lo hi M M := ⟨fun _ _ _ _ => rfl, rfl⟩
theorem FrX.trans {lo hi : Nat} {M M1 M2 : Mm} (h : FrX lo hi M M1) (h2 : FrX lo hi M1 M2) : FrX lo hi M M2 := ⟨fun r a b c => (h2.1 r a b c).trans (h.1 r a b c), h2.2.trans h.2⟩
theorem FrX_I {lo hi : Nat} {M M' : Mm} (h : FrI M M') : FrX lo hi M M' := ⟨fun r a b _ => h.1 r a b, h.2⟩
theorem FrX_Z {lo hi : Nat} {M M' : Mm} (h : FrZ lo hi M M') (hl : 4 ≤ lo) : FrX lo hi M M' := ⟨fun r _ _ c => h r c, by rw [h 1 (by omega)]⟩
theorem FrZ.refl (lo hi : Nat) (M : Mm) : FrZ lo hi M M := fun _ _ => rfl
theorem FrZ_m {lo hi : Nat} {M M' : Mm} (h : FrZ lo hi M M') {r i : Nat} {v : Int32} (hr : lo ≤ r ∧ r ≤ hi) : FrZ lo hi M (mset M' r i v) := fun a ha => by
  rw [mset_ne _ _ _ (fun e => ha (by rw [e]; exact hr))]
  exact h a ha
def hlf : Nat → Nat
  | 2 => 1
  | 3 => 6
  | 4 => 6
  | 5 => 6
  | 6 => 1
  | 7 => 1
  | 8 => 10
  | 9 => 10
  | 10 => 10
  | 11 => 10
  | 12 => 10
  | 13 => 10
  | 14 => 1
  | 15 => 5
  | 16 => 1
  | 17 => 4
  | 18 => 1
  | 19 => 6
  | 20 => 6
  | 21 => 3
  | _ => 0
def FrT (M M' : Mm) : Prop := (∀ r, (r = 0 ∨ r = 1 ∨ (22 ≤ r ∧ r ≤ 28)) → M' r = M r) ∧ ∀ r j, j < hlf r → M' r j = M r j
theorem FrT.refl (M : Mm) : FrT M M := ⟨fun _ _ => rfl, fun _ _ _ => rfl⟩
theorem FrT_m {M M' : Mm} (h : FrT M M') {r i : Nat} {v : Int32} (hr : 2 ≤ r ∧ r ≤ 21) (hi : hlf r ≤ i) : FrT M (mset M' r i v) := by
  refine ⟨fun a ha => by rw [mset_ne _ _ _ (by omega)]; exact h.1 a ha, fun a j hj => ?_⟩
  by_cases e : a = r
  · subst e
    rw [mset_eq, upd_ne _ _ (by omega)]
    exact h.2 a j hj
  · rw [mset_ne _ _ _ e]; exact h.2 a j hj
def FrA (M M' : Mm) : Prop := (∀ j, j ≠ 31 → M' 0 j = M 0 j) ∧ (∀ r, (r = 1 ∨ (22 ≤ r ∧ r ≤ 28)) → M' r = M r) ∧ ∀ r j, j < hlf r → M' r j = M r j
theorem FrA.refl (M : Mm) : FrA M M := ⟨fun _ _ => rfl, fun _ _ => rfl, fun _ _ _ => rfl⟩
theorem FrA.trans {M M1 M2 : Mm} (h : FrA M M1) (h2 : FrA M1 M2) : FrA M M2 := ⟨fun j hj => (h2.1 j hj).trans (h.1 j hj), fun r hr => (h2.2.1 r hr).trans (h.2.1 r hr), fun r j hj => (h2.2.2 r j hj).trans (h.2.2 r j hj)⟩
theorem FrA_F {M M' : Mm} (h : FrF M M') : FrA M M' := by
  refine ⟨h.2, fun r hr => h.1 r (by omega) (by omega), fun r j hj => ?_⟩
  by_cases e0 : r = 0
  · subst e0; exact absurd hj (Nat.not_lt_zero j)
  · by_cases e29 : r = 29
    · subst e29; exact absurd hj (Nat.not_lt_zero j)
    · rw [h.1 r e0 e29]
theorem FrA_T {M M' : Mm} (h : FrT M M') : FrA M M' := ⟨fun j _ => by rw [h.1 0 (Or.inl rfl)], fun r hr => h.1 r (Or.inr hr), h.2⟩
theorem FrF.trans {M M1 M2 : Mm} (h : FrF M M1) (h2 : FrF M1 M2) : FrF M M2 := ⟨fun r a b => (h2.1 r a b).trans (h.1 r a b), fun j hj => (h2.2 j hj).trans (h.2 j hj)⟩
theorem FrF_place {M : Mm} {x : Int32} : FrF M (mset M 0 31 x) := ⟨fun r a _ => mset_ne _ _ _ a, fun j hj => by rw [mset_eq, upd_ne _ _ hj]⟩
-- numbers within
theorem wiN {x lo hi : Nat} (hx : x ≤ 1000) (hl : lo ≤ 1000) (hh : hi ≤ 1000) : sOff_isWithin (nI x) (nI lo) (nI hi) = some (if lo ≤ x ∧ x ≤ hi then 1 else 0) := by
  by_cases c : lo ≤ x ∧ x ≤ hi
  · rw [if_pos c]
    exact within_T (by rw [nI_t (by omega), nI_t (by omega)]; omega) (by rw [nI_t (by omega), nI_t (by omega)]; omega)
  · rw [if_neg c]
    exact within_F (by rw [nI_t (by omega), nI_t (by omega), nI_t (by omega)]; omega)
theorem inN {x lo hi : Nat} (hx : x ≤ 1000) (hl : lo ≤ 1000) (hh : hi ≤ 1000) : sRef_in (Int32.toInt64 (nI x)) (Int32.toInt64 (nI lo)) (Int32.toInt64 (nI hi)) = some (if lo ≤ x ∧ x ≤ hi then 1 else 0) := by
  rw [in_eq, wiN hx hl hh]
theorem nwX {M : Mm} {i m x lo hi : Nat} (h4 : M 1 4 = nI m) (him : i < m) (hm : m ≤ 6) (hx : M 3 i = nI x) (hb : x ≤ 999) (hl : lo ≤ 1000) (hh : hi ≤ 1000) : sText_isNumberWithin (nI i) (nI lo) (nI hi) M = some (if lo ≤ x ∧ x ≤ hi then 1 else 0) := by
  unfold sText_isNumberWithin sText_number
  rw [h4, if_neg (by rw [nIle (by omega) (by omega)]; omega), some_bind, atf_n (by omega) (by omega), hx, wiN (by omega) hl hh, some_bind]
  by_cases c : lo ≤ x ∧ x ≤ hi
  · rw [if_pos c, i10]
  · rw [if_neg c, i00]
theorem numX3 {M : Mm} {i x : Nat} (hi : i < 6) (hx : M 3 i = nI x) : sText_number (nI i) M = some (nI x) := by
  unfold sText_number
  rw [atf_n hi (by omega), hx]
theorem gtN {x y : Nat} (hx : x ≤ 1000) (hy : y ≤ 1000) : (nI y < nI x) = ¬ x ≤ y := by
  rw [nIlt (by omega) (by omega)]
  exact propext ⟨fun h => by omega, fun h => by omega⟩
section IR
variable {M4 MR : Mm} {N x0 x1 x2 x3 x4 x5 cn fn dn gn q : Nat}
theorem itemR_c (hb : sRef_byteAt (MR 0 31) MR = some 99) (hfig : sRef_figures N 3 (mset MR 0 31 (MR 0 31 + 1)) = some (1, M4)) (h2 : MR 2 1 = nI cn) (h2' : M4 2 1 = nI cn) (hcn : cn ≤ 6) (v0 : M4 29 0 = nI x0) (v1 : M4 29 1 = nI x1) (v2 : M4 29 2 = nI x2) (b0 : x0 ≤ 999) (b1 : x1 ≤ 999) (b2 : x2 ≤ 999) : sRef_item N MR = some (if (x0 ≤ 200 ∧ x1 ≤ 99 ∧ 1 ≤ x2 ∧ x2 ≤ 10) ∧ cn < 6 then ((1 : Int32), mset (mset (mset (mset M4 3 (6 + cn) (nI x0)) 4 (6 + cn) (nI x1)) 5 (6 + cn) (nI x2)) 2 1 (nI (cn + 1))) else (0, M4)) := by
  have hitem : sRef_item N MR = sRef_cellItem N (mset MR 0 31 (MR 0 31 + 1)) := by
    unfold sRef_item
    rw [hb, some_bind, ltM_u, if_neg (by decide), if_pos rfl]
    cases sRef_cellItem N (mset MR 0 31 (MR 0 31 + 1)) with
    | none => rfl
    | some y => rfl
  rw [hitem]
  unfold sRef_cellItem
  rw [rdc_1 (by omega) (by omega), mset_ne _ _ _ (show (2 : Nat) ≠ 0 by omega), h2, show (6 : Int32) + nI cn = nI (6 + cn) from nI_add 6 cn, ltI_u, hfig, some_bind]
  show (if (1 : Int32) = 0 then _ else _) = _
  rw [i10, rdc_1 (by omega) (by omega), h2']
  by_cases c3 : cn < 6
  · rw [if_neg (show ¬ nI cn = 6 by rw [show (6 : Int32) = nI 6 from rfl, nIeq (by omega) (by omega)]; omega), rdc_0 (by omega) (by omega), v0]
    simp only [show (200 : Int32) = nI 200 from rfl, gtN (show x0 ≤ 1000 by omega) (show 200 ≤ 1000 by omega)]
    by_cases c0 : x0 ≤ 200
    · rw [if_neg (fun z => z c0), rdc_1 (by omega) (by omega), v1]
      simp only [show (99 : Int32) = nI 99 from rfl, gtN (show x1 ≤ 1000 by omega) (show 99 ≤ 1000 by omega)]
      by_cases c1 : x1 ≤ 99
      · rw [if_neg (fun z => z c1), rdc_2 (by omega) (by omega), v2, show sRef_in (Int32.toInt64 (nI x2)) 1 10 = some (if 1 ≤ x2 ∧ x2 ≤ 10 then 1 else 0) from inN (lo := 1) (hi := 10) (by omega) (by omega) (by omega), some_bind]
        by_cases c2 : 1 ≤ x2 ∧ x2 ≤ 10
        · rw [if_pos c2, i10, if_pos ⟨⟨c0, c1, c2⟩, c3⟩, rdc_0 (by omega) (by omega), v0, inc_n (by omega) (by omega), ltM_u, cl_n (by omega), rdc_1 (by omega) (by omega), mset_ne _ _ _ (show (29 : Nat) ≠ 3 by omega), v1, inc_n (by omega) (by omega), ltM_u, rdc_2 (by omega) (by omega), mset_ne _ _ _ (show (29 : Nat) ≠ 4 by omega), mset_ne _ _ _ (show (29 : Nat) ≠ 3 by omega), v2, inc_n (by omega) (by omega), ltM_u, rdc_1 (by omega) (by omega), mset_ne _ _ _ (show (2 : Nat) ≠ 5 by omega), mset_ne _ _ _ (show (2 : Nat) ≠ 4 by omega), mset_ne _ _ _ (show (2 : Nat) ≠ 3 by omega), h2', inc_1 (by omega) (by omega), nI_s, ltM_u, cl_1]
        · rw [if_neg c2, i00, if_neg (fun z => c2 z.1.2.2)]
      · rw [if_pos c1, if_neg (fun z => c1 z.1.2.1)]
    · rw [if_pos c0, if_neg (fun z => c0 z.1.1)]
  · rw [if_pos (show nI cn = 6 by rw [show cn = 6 by omega]; rfl), if_neg (fun z => c3 z.2)]
theorem itemR_o (hb : sRef_byteAt (MR 0 31) MR = some 111) (hfig : sRef_figures N 1 (mset MR 0 31 (MR 0 31 + 1)) = some (1, M4)) (v0 : M4 29 0 = nI x0) (b0 : x0 ≤ 999) : sRef_item N MR = some (if x0 ≤ 23 then ((1 : Int32), mset M4 6 1 (M4 6 1 ||| (1 <<< (nI x0 &&& 31)))) else (0, M4)) := by
  unfold sRef_item
  rw [hb, some_bind, ltM_u, if_neg (by decide), if_neg (by decide), if_neg (by decide), if_neg (by decide), if_neg (by decide), if_neg (by decide), if_pos rfl, hfig, some_bind]
  show (if (1 : Int32) = 0 then _ else _) = _
  rw [i10, rdc_0 (by omega) (by omega), v0]
  simp only [show (23 : Int32) = nI 23 from rfl, nIle (show x0 ≤ 1000000 by omega) (show 23 ≤ 1000000 by omega)]
  by_cases c0 : x0 ≤ 23
  · rw [if_pos c0, if_pos c0, rdc_1 (by omega) (by omega), rdc_0 (by omega) (by omega), v0, inc_1 (by omega) (by omega), ltM_u, cl_1]
  · rw [if_neg c0, if_neg c0]
theorem itemR_d (hb : sRef_byteAt (MR 0 31) MR = some 100) (hfig : sRef_figures N 1 (mset MR 0 31 (MR 0 31 + 1)) = some (1, M4)) (h14 : M4 14 1 = nI dn) (hdn : dn ≤ 5) (v0 : M4 29 0 = nI x0) (b0 : x0 ≤ 999) : sRef_item N MR = some (if (1 ≤ x0 ∧ x0 ≤ 15) ∧ dn < 5 then ((1 : Int32), mset (mset M4 15 (5 + dn) (nI x0)) 14 1 (nI (dn + 1))) else (0, M4)) := by
  unfold sRef_item
  rw [hb, some_bind, ltM_u, if_neg (by decide), if_neg (by decide), if_pos rfl, hfig, some_bind]
  show (if (1 : Int32) = 0 then _ else _) = _
  rw [i10, rdc_1 (by omega) (by omega), h14]
  by_cases c1 : dn < 5
  · rw [if_neg (show ¬ nI dn = 5 by rw [show (5 : Int32) = nI 5 from rfl, nIeq (by omega) (by omega)]; omega), rdc_0 (by omega) (by omega), v0, show sRef_in (Int32.toInt64 (nI x0)) 1 15 = some (if 1 ≤ x0 ∧ x0 ≤ 15 then 1 else 0) from inN (lo := 1) (hi := 15) (by omega) (by omega) (by omega), some_bind]
    by_cases c0 : 1 ≤ x0 ∧ x0 ≤ 15
    · rw [if_pos c0, i10, if_pos ⟨c0, c1⟩, rdc_1 (by omega) (by omega), h14, rdc_0 (by omega) (by omega), v0, show (5 : Int32) + nI dn = nI (5 + dn) from nI_add 5 dn, inc_n (by omega) (by omega), ltM_u, cl_n (by omega), rdc_1 (by omega) (by omega), mset_ne _ _ _ (show (14 : Nat) ≠ 15 by omega), h14, inc_1 (by omega) (by omega), nI_s, ltM_u, cl_1]
    · rw [if_neg c0, i00, if_neg (fun z => c0 z.1)]
  · rw [if_pos (show nI dn = 5 by rw [show dn = 5 by omega]; rfl), if_neg (fun z => c1 z.2)]
theorem itemR_e (hb : sRef_byteAt (MR 0 31) MR = some 101) (hfig : sRef_figures N 1 (mset MR 0 31 (MR 0 31 + 1)) = some (1, M4)) (h16 : M4 16 1 = nI dn) (hdn : dn ≤ 4) (v0 : M4 29 0 = nI x0) (b0 : x0 ≤ 999) : sRef_item N MR = some (if x0 ≤ 15 ∧ dn < 4 then ((1 : Int32), mset (mset M4 17 (4 + dn) (nI x0)) 16 1 (nI (dn + 1))) else (0, M4)) := by
  unfold sRef_item
  rw [hb, some_bind, ltM_u, if_neg (by decide), if_neg (by decide), if_neg (by decide), if_pos rfl, hfig, some_bind]
  show (if (1 : Int32) = 0 then _ else _) = _
  rw [i10, rdc_1 (by omega) (by omega), h16]
  by_cases c1 : dn < 4
  · rw [if_neg (show ¬ nI dn = 4 by rw [show (4 : Int32) = nI 4 from rfl, nIeq (by omega) (by omega)]; omega), rdc_0 (by omega) (by omega), v0]
    simp only [show (15 : Int32) = nI 15 from rfl, nIle (show x0 ≤ 1000000 by omega) (show 15 ≤ 1000000 by omega)]
    by_cases c0 : x0 ≤ 15
    · rw [if_pos c0, if_pos ⟨c0, c1⟩, rdc_1 (by omega) (by omega), h16, rdc_0 (by omega) (by omega), v0, show (4 : Int32) + nI dn = nI (4 + dn) from nI_add 4 dn, inc_n (by omega) (by omega), ltM_u, cl_n (by omega), rdc_1 (by omega) (by omega), mset_ne _ _ _ (show (16 : Nat) ≠ 17 by omega), h16, inc_1 (by omega) (by omega), nI_s, ltM_u, cl_1]
    · rw [if_neg c0, if_neg (fun z => c0 z.1)]
  · rw [if_pos (show nI dn = 4 by rw [show dn = 4 by omega]; rfl), if_neg (fun z => c1 z.2)]
theorem itemR_g (hb : sRef_byteAt (MR 0 31) MR = some 103) (hfig : sRef_figures N 2 (mset MR 0 31 (MR 0 31 + 1)) = some (1, M4)) (h18 : M4 18 1 = nI gn) (hgn : gn ≤ 6) (v0 : M4 29 0 = nI x0) (v1 : M4 29 1 = nI x1) (b0 : x0 ≤ 999) (b1 : x1 ≤ 999) : sRef_item N MR = some (if (x0 ≤ 9 ∧ 1 ≤ x1 ∧ x1 ≤ 99) ∧ gn < 6 then ((1 : Int32), mset (mset (mset M4 19 (6 + gn) (nI x0)) 20 (6 + gn) (nI x1)) 18 1 (nI (gn + 1))) else (0, M4)) := by
  unfold sRef_item
  rw [hb, some_bind, ltM_u, if_neg (by decide), if_neg (by decide), if_neg (by decide), if_neg (by decide), if_neg (by decide), if_pos rfl, hfig, some_bind]
  show (if (1 : Int32) = 0 then _ else _) = _
  rw [i10, rdc_1 (by omega) (by omega), h18]
  by_cases c2 : gn < 6
  · rw [if_neg (show ¬ nI gn = 6 by rw [show (6 : Int32) = nI 6 from rfl, nIeq (by omega) (by omega)]; omega), rdc_0 (by omega) (by omega), v0]
    simp only [show (9 : Int32) = nI 9 from rfl, gtN (show x0 ≤ 1000 by omega) (show 9 ≤ 1000 by omega)]
    by_cases c0 : x0 ≤ 9
    · rw [if_neg (fun z => z c0), rdc_1 (by omega) (by omega), v1, show sRef_in (Int32.toInt64 (nI x1)) 1 99 = some (if 1 ≤ x1 ∧ x1 ≤ 99 then 1 else 0) from inN (lo := 1) (hi := 99) (by omega) (by omega) (by omega), some_bind]
      by_cases c1 : 1 ≤ x1 ∧ x1 ≤ 99
      · rw [if_pos c1, i10, if_pos ⟨⟨c0, c1⟩, c2⟩, rdc_1 (by omega) (by omega), h18, rdc_0 (by omega) (by omega), v0, show (6 : Int32) + nI gn = nI (6 + gn) from nI_add 6 gn, inc_n (by omega) (by omega), ltM_u, cl_n (by omega), rdc_1 (by omega) (by omega), mset_ne _ _ _ (show (18 : Nat) ≠ 19 by omega), h18, rdc_1 (by omega) (by omega), mset_ne _ _ _ (show (29 : Nat) ≠ 19 by omega), v1, show (6 : Int32) + nI gn = nI (6 + gn) from nI_add 6 gn, inc_n (by omega) (by omega), ltM_u, cl_n (by omega), rdc_1 (by omega) (by omega), mset_ne _ _ _ (show (18 : Nat) ≠ 20 by omega), mset_ne _ _ _ (show (18 : Nat) ≠ 19 by omega), h18, inc_1 (by omega) (by omega), nI_s, ltM_u, cl_1]
      · rw [if_neg c1, i00, if_neg (fun z => c1 z.1.2)]
    · rw [if_pos c0, if_neg (fun z => c0 z.1.1)]
  · rw [if_pos (show nI gn = 6 by rw [show gn = 6 by omega]; rfl), if_neg (fun z => c2 z.2)]
theorem itemR_b (hb : sRef_byteAt (MR 0 31) MR = some 98) (hfig : sRef_figures N 2 (mset MR 0 31 (MR 0 31 + 1)) = some (1, M4)) (v0 : M4 29 0 = nI x0) (v1 : M4 29 1 = nI x1) (b0 : x0 ≤ 999) (b1 : x1 ≤ 999) : sRef_item N MR = some (if (1 ≤ x0 ∧ x0 ≤ 99) ∧ 1 ≤ x1 ∧ x1 ≤ 198 then ((1 : Int32), mset (mset M4 21 3 (nI x0)) 21 4 (nI x1)) else (0, M4)) := by
  unfold sRef_item
  rw [hb, some_bind, ltM_u, if_pos rfl, hfig, some_bind]
  show (if (1 : Int32) = 0 then _ else _) = _
  rw [i10, rdc_0 (by omega) (by omega), v0, show sRef_in (Int32.toInt64 (nI x0)) 1 99 = some (if 1 ≤ x0 ∧ x0 ≤ 99 then 1 else 0) from inN (lo := 1) (hi := 99) (by omega) (by omega) (by omega), some_bind]
  by_cases c0 : 1 ≤ x0 ∧ x0 ≤ 99
  · rw [if_pos c0, i10, rdc_1 (by omega) (by omega), v1, show sRef_in (Int32.toInt64 (nI x1)) 1 198 = some (if 1 ≤ x1 ∧ x1 ≤ 198 then 1 else 0) from inN (lo := 1) (hi := 198) (by omega) (by omega) (by omega), some_bind]
    by_cases c1 : 1 ≤ x1 ∧ x1 ≤ 198
    · rw [if_pos c1, i10, if_pos ⟨c0, c1⟩, rdc_0 (by omega) (by omega), v0, show (3 : Int32) = nI 3 from rfl, inc_n (by omega) (by omega), ltM_u, cl_n (by omega), rdc_1 (by omega) (by omega), mset_ne _ _ _ (show (29 : Nat) ≠ 21 by omega), v1, show (4 : Int32) = nI 4 from rfl, inc_n (by omega) (by omega), ltM_u, cl_n (by omega)]
    · rw [if_neg c1, i00, if_neg (fun z => c1 z.2)]
  · rw [if_neg c0, i00, if_neg (fun z => c0 z.1)]
theorem itemR_s (hb : sRef_byteAt (MR 0 31) MR = some 115) (hfig : sRef_figures N 1 (mset MR 0 31 (MR 0 31 + 1)) = some (1, M4)) (v0 : M4 29 0 = nI x0) (b0 : x0 ≤ 999) : sRef_item N MR = some (if x0 ≤ 4 then ((1 : Int32), mset M4 21 5 (nI x0)) else (0, M4)) := by
  unfold sRef_item
  rw [hb, some_bind, ltM_u, if_neg (by decide), if_neg (by decide), if_neg (by decide), if_neg (by decide), if_neg (by decide), if_neg (by decide), if_neg (by decide), if_pos rfl, hfig, some_bind]
  show (if (1 : Int32) = 0 then _ else _) = _
  rw [i10, rdc_0 (by omega) (by omega), v0]
  simp only [show (4 : Int32) = nI 4 from rfl, nIle (show x0 ≤ 1000000 by omega) (show 4 ≤ 1000000 by omega)]
  by_cases c0 : x0 ≤ 4
  · rw [if_pos c0, if_pos c0, rdc_0 (by omega) (by omega), v0, show (5 : Int32) = nI 5 from rfl, inc_n (by omega) (by omega), ltM_u, cl_n (by omega)]
  · rw [if_neg c0, if_neg c0]
theorem itemR_f (hb : sRef_byteAt (MR 0 31) MR = some 102) (hfig : sRef_figures N 6 (mset MR 0 31 (MR 0 31 + 1)) = some (1, M4)) (h7 : MR 7 1 = nI fn) (h7' : M4 7 1 = nI fn) (hfn : fn ≤ 10) (h2' : M4 2 1 = nI cn) (hcn : cn ≤ 6) (v0 : M4 29 0 = nI x0) (v1 : M4 29 1 = nI x1) (v2 : M4 29 2 = nI x2) (v3 : M4 29 3 = nI x3) (v4 : M4 29 4 = nI x4) (v5 : M4 29 5 = nI x5) (b0 : x0 ≤ 999) (b1 : x1 ≤ 999) (b2 : x2 ≤ 999) (b3 : x3 ≤ 999) (b4 : x4 ≤ 999) (b5 : x5 ≤ 999) : sRef_item N MR = some (if (x0 ≤ 3 ∧ x1 < cn ∧ x2 ≤ 99 ∧ (1 ≤ x3 ∧ x3 ≤ 240) ∧ x4 ≤ 99 ∧ x5 ≤ 3) ∧ fn < 10 then ((1 : Int32), mset (mset (mset (mset (mset (mset (mset M4 8 (10 + fn) (nI x0)) 9 (10 + fn) (nI x1)) 10 (10 + fn) (nI x2)) 11 (10 + fn) (nI x3)) 12 (10 + fn) (nI x4)) 13 (10 + fn) (nI x5)) 7 1 (nI (fn + 1))) else (0, M4)) := by
  have hitem : sRef_item N MR = sRef_foodItem N (mset MR 0 31 (MR 0 31 + 1)) := by
    unfold sRef_item
    rw [hb, some_bind, ltM_u, if_neg (by decide), if_neg (by decide), if_neg (by decide), if_neg (by decide), if_pos rfl]
    cases sRef_foodItem N (mset MR 0 31 (MR 0 31 + 1)) with
    | none => rfl
    | some y => rfl
  rw [hitem]
  unfold sRef_foodItem
  rw [rdc_1 (by omega) (by omega), mset_ne _ _ _ (show (7 : Nat) ≠ 0 by omega), h7, show (10 : Int32) + nI fn = nI (10 + fn) from nI_add 10 fn, ltI_u, hfig, some_bind]
  show (if (1 : Int32) = 0 then _ else _) = _
  rw [i10, rdc_1 (by omega) (by omega), h7']
  have s29 : ∀ (M : Mm) r i v, r ≠ 29 → mset M r i v 29 = M 29 := fun M r i v h => mset_ne _ _ _ (fun e => h e.symm)
  have r3 : ∀ (M : Mm) {α : Type} (k : Int32 → Option α), rdc 6 (M 29) 3 k = k (M 29 3) := fun M _ k => rdc_of 3 rfl (by omega) (by omega)
  have r4 : ∀ (M : Mm) {α : Type} (k : Int32 → Option α), rdc 6 (M 29) 4 k = k (M 29 4) := fun M _ k => rdc_of 4 rfl (by omega) (by omega)
  have r5 : ∀ (M : Mm) {α : Type} (k : Int32 → Option α), rdc 6 (M 29) 5 k = k (M 29 5) := fun M _ k => rdc_of 5 rfl (by omega) (by omega)
  by_cases c6 : fn < 10
  · rw [if_neg (show ¬ nI fn = 10 by rw [show (10 : Int32) = nI 10 from rfl, nIeq (by omega) (by omega)]; omega), rdc_0 (by omega) (by omega), v0]
    simp only [show (3 : Int32) < nI x0 ↔ ¬ x0 ≤ 3 from by rw [show (3 : Int32) = nI 3 from rfl, gtN (by omega) (by omega)]]
    by_cases c0 : x0 ≤ 3
    · rw [if_neg (fun z => z c0), rdc_1 (by omega) (by omega), rdc_1 (by omega) (by omega), v1, h2']
      by_cases c1 : x1 < cn
      · rw [if_neg (by rw [nIle (by omega) (by omega)]; omega), rdc_2 (by omega) (by omega), v2]
        simp only [show (99 : Int32) < nI x2 ↔ ¬ x2 ≤ 99 from by rw [show (99 : Int32) = nI 99 from rfl, gtN (by omega) (by omega)]]
        by_cases c2 : x2 ≤ 99
        · rw [if_neg (fun z => z c2), r3, v3, show sRef_in (Int32.toInt64 (nI x3)) 1 240 = some (if 1 ≤ x3 ∧ x3 ≤ 240 then 1 else 0) from inN (lo := 1) (hi := 240) (by omega) (by omega) (by omega), some_bind]
          by_cases c3 : 1 ≤ x3 ∧ x3 ≤ 240
          · rw [if_pos c3, i10, r4, v4]
            simp only [show (99 : Int32) < nI x4 ↔ ¬ x4 ≤ 99 from by rw [show (99 : Int32) = nI 99 from rfl, gtN (by omega) (by omega)]]
            by_cases c4 : x4 ≤ 99
            · rw [if_neg (fun z => z c4), r5, v5]
              by_cases c5 : x5 ≤ 3
              · rw [if_pos (show nI x5 ≤ 3 from by rw [show (3 : Int32) = nI 3 from rfl, nIle (by omega) (by omega)]; exact c5), if_pos ⟨⟨c0, c1, c2, c3, c4, c5⟩, c6⟩, rdc_0 (by omega) (by omega), v0, inc_n (by omega) (by omega), ltM_u, cl_n (by omega), rdc_1 (by omega) (by omega), s29 _ 8 _ _ (by omega), v1, inc_n (by omega) (by omega), ltM_u, rdc_2 (by omega) (by omega), s29 _ 9 _ _ (by omega), s29 _ 8 _ _ (by omega), v2, inc_n (by omega) (by omega), ltM_u, r3, s29 _ 10 _ _ (by omega), s29 _ 9 _ _ (by omega), s29 _ 8 _ _ (by omega), v3, inc_n (by omega) (by omega), ltM_u, r4, s29 _ 11 _ _ (by omega), s29 _ 10 _ _ (by omega), s29 _ 9 _ _ (by omega), s29 _ 8 _ _ (by omega), v4, inc_n (by omega) (by omega), ltM_u, r5, s29 _ 12 _ _ (by omega), s29 _ 11 _ _ (by omega), s29 _ 10 _ _ (by omega), s29 _ 9 _ _ (by omega), s29 _ 8 _ _ (by omega), v5, inc_n (by omega) (by omega), ltM_u, rdc_1 (by omega) (by omega), mset_ne _ _ _ (show (7 : Nat) ≠ 13 by omega), mset_ne _ _ _ (show (7 : Nat) ≠ 12 by omega), mset_ne _ _ _ (show (7 : Nat) ≠ 11 by omega), mset_ne _ _ _ (show (7 : Nat) ≠ 10 by omega), mset_ne _ _ _ (show (7 : Nat) ≠ 9 by omega), mset_ne _ _ _ (show (7 : Nat) ≠ 8 by omega), h7', inc_1 (by omega) (by omega), nI_s, ltM_u, cl_1]
              · rw [if_neg (show ¬ nI x5 ≤ 3 from by rw [show (3 : Int32) = nI 3 from rfl, nIle (by omega) (by omega)]; exact c5), if_neg (fun z => c5 z.1.2.2.2.2.2)]
            · rw [if_pos c4, if_neg (fun z => c4 z.1.2.2.2.2.1)]
          · rw [if_neg c3, i00, if_neg (fun z => c3 z.1.2.2.2.1)]
        · rw [if_pos c2, if_neg (fun z => c2 z.1.2.2.1)]
      · rw [if_pos (by rw [nIle (by omega) (by omega)]; omega), if_neg (fun z => c1 z.1.2.1)]
    · rw [if_pos c0, if_neg (fun z => c0 z.1.1)]
  · rw [if_pos (show nI fn = 10 by rw [show fn = 10 by omega]; rfl), if_neg (fun z => c6 z.2)]
end IR
/-- the numbers wanted by a letter -/
def Want (b : Int32) (m : Nat) : Prop := (b = 98 ∧ m = 2) ∨ (b = 99 ∧ m = 3) ∨ (b = 100 ∧ m = 1) ∨ (b = 101 ∧ m = 1) ∨ (b = 102 ∧ m = 6) ∨ (b = 103 ∧ m = 2) ∨ (b = 111 ∧ m = 1) ∨ (b = 115 ∧ m = 1)
theorem itemR_no {B : Nat → Int32} {len p N : Nat} {MR : Mm} (h : TxR MR len B) (hp : p < len) (h31 : MR 0 31 = nI p) (hN : 1000 < N) (hno : ∀ m, Want (B p) m → ¬ ItemP B p m) : ∃ M', sRef_item N MR = some (0, M') ∧ FrF MR M' := by
  have hl := h.1
  have hb : sRef_byteAt (MR 0 31) MR = some (B p) := by rw [h31, byteR h (by omega)]
  have fig : ∀ m, 1 ≤ m → m ≤ 6 → ¬ ItemP B p m → ∃ M', sRef_figures N (nI m) (mset MR 0 31 (MR 0 31 + 1)) = some (0, M') ∧ FrF MR M' := fun m h1 h6 hn => by
    obtain ⟨M', f1, f2⟩ := figuresR (TxR_place h) hp (show mset MR 0 31 (MR 0 31 + 1) 0 31 = nI (p + 1) by rw [mset_eq, upd_eq, h31, nI_s]) hN h1 h6
    rcases f2 with ⟨g1, -⟩ | ⟨-, g2⟩
    · exact absurd g1 hn
    · exact ⟨M', g2, FrF_place.trans f1⟩
  unfold sRef_item
  rw [hb, some_bind, ltM_u]
  by_cases c98 : B p = 98
  · obtain ⟨M', f1, f2⟩ := fig 2 (by omega) (by omega) (hno 2 (Or.inl ⟨c98, rfl⟩))
    rw [if_pos c98, show (2 : Int32) = nI 2 from rfl, f1]
    exact ⟨M', rfl, f2⟩
  rw [if_neg c98]
  by_cases c99 : B p = 99
  · obtain ⟨M', f1, f2⟩ := fig 3 (by omega) (by omega) (hno 3 (Or.inr (Or.inl ⟨c99, rfl⟩)))
    rw [if_pos c99]
    unfold sRef_cellItem
    rw [rdc_1 (by omega) (by omega), ltI_u, show (3 : Int32) = nI 3 from rfl, f1]
    exact ⟨M', rfl, f2⟩
  rw [if_neg c99]
  by_cases c100 : B p = 100
  · obtain ⟨M', f1, f2⟩ := fig 1 (by omega) (by omega) (hno 1 (Or.inr (Or.inr (Or.inl ⟨c100, rfl⟩))))
    rw [if_pos c100, show sRef_figures N 1 (mset MR 0 31 (MR 0 31 + 1)) = _ from f1]
    exact ⟨M', rfl, f2⟩
  rw [if_neg c100]
  by_cases c101 : B p = 101
  · obtain ⟨M', f1, f2⟩ := fig 1 (by omega) (by omega) (hno 1 (Or.inr (Or.inr (Or.inr (Or.inl ⟨c101, rfl⟩)))))
    rw [if_pos c101, show sRef_figures N 1 (mset MR 0 31 (MR 0 31 + 1)) = _ from f1]
    exact ⟨M', rfl, f2⟩
  rw [if_neg c101]
  by_cases c102 : B p = 102
  · obtain ⟨M', f1, f2⟩ := fig 6 (by omega) (by omega) (hno 6 (Or.inr (Or.inr (Or.inr (Or.inr (Or.inl ⟨c102, rfl⟩))))))
    rw [if_pos c102]
    unfold sRef_foodItem
    rw [rdc_1 (by omega) (by omega), ltI_u, show (6 : Int32) = nI 6 from rfl, f1]
    exact ⟨M', rfl, f2⟩
  rw [if_neg c102]
  by_cases c103 : B p = 103
  · obtain ⟨M', f1, f2⟩ := fig 2 (by omega) (by omega) (hno 2 (Or.inr (Or.inr (Or.inr (Or.inr (Or.inr (Or.inl ⟨c103, rfl⟩)))))))
    rw [if_pos c103, show sRef_figures N 2 (mset MR 0 31 (MR 0 31 + 1)) = _ from f1]
    exact ⟨M', rfl, f2⟩
  rw [if_neg c103]
  by_cases c111 : B p = 111
  · obtain ⟨M', f1, f2⟩ := fig 1 (by omega) (by omega) (hno 1 (Or.inr (Or.inr (Or.inr (Or.inr (Or.inr (Or.inr (Or.inl ⟨c111, rfl⟩))))))))
    rw [if_pos c111, show sRef_figures N 1 (mset MR 0 31 (MR 0 31 + 1)) = _ from f1]
    exact ⟨M', rfl, f2⟩
  rw [if_neg c111]
  by_cases c115 : B p = 115
  · obtain ⟨M', f1, f2⟩ := fig 1 (by omega) (by omega) (hno 1 (Or.inr (Or.inr (Or.inr (Or.inr (Or.inr (Or.inr (Or.inr ⟨c115, rfl⟩))))))))
    rw [if_pos c115, show sRef_figures N 1 (mset MR 0 31 (MR 0 31 + 1)) = _ from f1]
    exact ⟨M', rfl, f2⟩
  rw [if_neg c115]
  exact ⟨_, rfl, FrF_place⟩
