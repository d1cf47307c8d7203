/-! PURE PART 20: plan. By hand. -/
theorem Rel_view2 {MX MR : Mm} (h : Rel MX MR) : ∃ (dn en : Nat) (di ea : Nat → Nat), dn ≤ 5 ∧ en ≤ 4 ∧ MX 22 3 = nI dn ∧ MX 22 5 = nI en ∧ MR 14 0 = nI dn ∧ MR 16 0 = nI en ∧ (∀ d, d < dn → 1 ≤ di d ∧ di d ≤ 15 ∧ MX 35 d = nI (di d) ∧ MR 15 d = nI (di d)) ∧ ∀ e, e < en → MX 36 e = nI (ea e) ∧ MR 17 e = nI (ea e) := by
  obtain ⟨cn, fn, kp, hT, hC, hF, ⟨dn, d1, d2, d3, d4⟩, ⟨en, e1, e2, e3, e4⟩, hP, hS, hk, hk1, hk2, hNn⟩ := h
  refine ⟨dn, en, fun d => nN (MX 35 d), fun e => nN (MX 36 e), d1, e1, d2, e2, d3, e3, fun d hd => ?_, fun e he => ?_⟩
  · obtain ⟨a, a1, a2, a3, a4⟩ := d4 d hd
    show 1 ≤ nN (MX 35 d) ∧ nN (MX 35 d) ≤ 15 ∧ MX 35 d = nI (nN (MX 35 d)) ∧ MR 15 d = nI (nN (MX 35 d))
    rw [a3, nN_I (by omega)]
    exact ⟨a1, a2, rfl, a4⟩
  · obtain ⟨a, a1, a2, a3, a4⟩ := e4 e he
    show MX 36 e = nI (nN (MX 36 e)) ∧ MR 17 e = nI (nN (MX 36 e))
    rw [a3, nN_I (by omega)]
    exact ⟨rfl, a4⟩
theorem Rel_SoX {MX MR : Mm} (h : Rel MX MR) {fn : Nat} {co li so : Nat → Nat} (hF : VXf MX fn co li so) (hBF : BF fn co li so) : SoX MX fn so := by
  obtain ⟨cn, fn', kp, hT, hC, ⟨f1, f2, f3, f4, f5, f6⟩, hD, hE, hP, hS, hk, hk1, hk2, hNn⟩ := h
  have hf := hBF.2.1
  have efn : fn' = fn := nI_inj (by omega) (by omega) (f3.symm.trans hF.1)
  subst efn
  intro t ht
  obtain ⟨q, q1, q2, q3⟩ := f6 t ht
  rw [q2]
  congr 1
  apply Nat.eq_of_testBit_eq
  intro i
  rw [bt_bit]
  by_cases hi : i < fn'
  · rw [decide_eq_true hi, Bool.true_and]
    have e := q3 i hi
    rw [(hF.2 i hi).2.2] at e
    have s3 := (hBF.2.2 i hi).2.2.2
    by_cases c : so i = t
    · rw [decide_eq_true c]; exact e.mpr (by rw [c])
    · rw [decide_eq_false c]
      cases hq : q.testBit i with
      | false => rfl
      | true => exact absurd (nI_inj (by omega) (by omega) (e.mp hq)) c
  · rw [decide_eq_false hi, Bool.false_and]
    exact Nat.testBit_lt_two_pow (Nat.lt_of_lt_of_le q1 (Nat.pow_le_pow_right (by omega) (by omega)))
def Dd (di : Nat → Nat) (g : Nat) : Nat := if g = 0 then 0 else di (g - 1)
def dgP : Nat → Int32
  | 0 => -4
  | d + 1 => nI d
def stP (h fn en : Nat) (lim so di ea : Nat → Nat) (AG : Nat → Nat → Nat) (j g : Nat) (s : (Nat → Bool) × Nat) : Option ((Nat → Bool) × Nat) := (eats (pkS s.1 (offB lim (AG (h + j * 24))) so (olN (AG (h + j * 24)) lim) fn) (Dd di g) 4).map fun E => (fun i => s.1 i && !E i, s.2 + 10 * huN ea en (Dd di g))
def fiP (h n fn : Nat) (lim co : Nat → Nat) (AG : Nat → Nat → Nat) (s : (Nat → Bool) × Nat) : Nat := s.2 + smN (fun i => if (s.1 i && offB lim (AG (h + (n - 1) * 24)) i) = true then co i else 0) fn
theorem eats_0 (pk : Nat → Option Nat) : ∀ s, eats pk 0 s = some fun _ => false
  | 0 => rfl
  | s + 1 => by rw [eats_s, eats_0 pk s, some_bind, Nat.zero_testBit]; rfl
theorem stP_cst {h fn en : Nat} {lim so di ea : Nat → Nat} {AG : Nat → Nat → Nat} (j g : Nat) (s s' : (Nat → Bool) × Nat) (e : stP h fn en lim so di ea AG j g s = some s') : s.2 ≤ s'.2 := by
  unfold stP at e
  obtain ⟨E, -, e2⟩ := Option.map_eq_some_iff.mp e
  rw [← e2]
  exact Nat.le_add_right _ _
theorem huN_le (ea : Nat → Nat) (en D : Nat) : huN ea en D ≤ en := ctb_n _ _
/-- what the class' search keeps -/
def PlX (M3 M : Mm) (n B j P : Nat) : Prop := (∀ r, r ≠ 63 → r ≠ 64 → r ≠ 65 → M r = M3 r) ∧ M 63 4 = nI n ∧ RwX (M 64) B dgP j P
def BeX (M : Mm) (n B : Nat) : Option (Nat × Nat) → Prop
  | none => M 63 5 = 1000000000
  | some bl => M 63 5 = nI bl.2 ∧ bl.2 ≤ 5000 ∧ RwX (M 65) B dgP n bl.1
section PS
variable {cn fn q hr b n h t en dn : Nat} {w r d co li so k c a f A F lim ea di : Nat → Nat} {M M' M0 M3 : Mm} {N : Nat} {AG : Nat → Nat → Nat}
theorem settleX {B P x : Nat} (hn : n ≤ 4) (h1 : 1 ≤ n) (hP : PlX M3 M n B n P) (hN : 1000 < N) (hlt : nI x < M 63 5) (hx : x ≤ 5000) : ∃ M', sPlanner_settle N (nI x) M = some M' ∧ PlX M3 M' n B n P ∧ BeX M' n B (some (P, x)) := by
  obtain ⟨p1, p2, p3⟩ := hP
  unfold sPlanner_settle
  rw [if_pos hlt, ltM_u]
  obtain ⟨M', q1, q2, q3, q4⟩ := itr_i (f := fun z : Int32 × Mm => LPlanner_settle_16_8 N z.1 z.2)
    (fun i s => ∃ m, s = (nI i, m) ∧ (∀ r, r ≠ 65 → m r = mset M 63 5 (nI x) r) ∧ ∀ j, j < i → m 65 j = M 64 j)
    (fun m => (∀ r, r ≠ 65 → m r = mset M 63 5 (nI x) r) ∧ (∀ j, j < n → m 65 j = M 64 j) ∧ True) n (s := (0, mset M 63 5 (nI x))) (N := N)
    ⟨_, rfl, fun _ _ => rfl, fun j hj => absurd hj (by omega)⟩ (fun i s hi hP => by
      obtain ⟨m, rfl, g1, g2⟩ := hP
      refine ⟨(nI (i + 1), mset m 65 i (M 64 i)), ?_, _, rfl, fun r hr => by rw [mset_ne _ _ _ hr]; exact g1 r hr, fun j hj => ?_⟩
      · show LPlanner_settle_16_8 N (nI i) m = _
        unfold LPlanner_settle_16_8
        rw [g1 63 (by omega), mset_eq, upd_ne _ _ (by omega), p2, if_neg (by rw [nIle (by omega) (by omega)]; omega), g1 64 (by omega), mset_ne _ _ _ (by omega), atf_n (by omega) (by omega), putf_n (by omega) (by omega), ltM_u, ltI_u, nI_s]
      · rw [mset_eq]
        by_cases hj2 : j = i
        · subst hj2; rw [upd_eq]
        · rw [upd_ne _ _ hj2]; exact g2 j (by omega)) (fun s hP => by
      obtain ⟨m, rfl, g1, g2⟩ := hP
      refine ⟨m, ?_, g1, g2, trivial⟩
      show LPlanner_settle_16_8 N (nI n) m = _
      unfold LPlanner_settle_16_8
      rw [g1 63 (by omega), mset_eq, upd_ne _ _ (by omega), p2, if_pos (by rw [nIle (by omega) (by omega)]; omega)]) (by omega)
  refine ⟨M', by rw [q1, some_bind], ⟨fun r r1 r2 r3 => ?_, ?_, ?_⟩, ?_, hx, ?_⟩
  · rw [q2 r r3, mset_ne _ _ _ r1]; exact p1 r r1 r2 r3
  · rw [q2 63 (by omega), mset_eq, upd_ne _ _ (by omega)]; exact p2
  · rw [q2 64 (by omega), mset_ne _ _ _ (by omega)]; exact p3
  · rw [q2 63 (by omega), mset_eq, upd_eq]
  · exact RwX_congr q3 p3
theorem tryX {s0 : (Nat → Bool) × Nat} (hL : LAx M0 M3 fn n h lim AG) (hF : VXf M3 fn co li so) (hBF : BF fn co li so) (hS : SoX M3 fn so) (h3 : M3 22 3 = nI dn) (hdn : dn ≤ 5) (hdi : ∀ d, d < dn → 1 ≤ di d ∧ di d ≤ 15 ∧ M3 35 d = nI (di d)) (h5 : M3 22 5 = nI en) (hen : en ≤ 4) (hea : ∀ e, e < en → M3 36 e = nI (ea e)) (hN : 1000 < N) (hn : n ≤ 4) (hn1 : 1 ≤ n) (v : Nat → Option Nat) (hv : ∀ C, v C = (rch (dn + 1) (stP h fn en lim so di ea AG) s0 n C).map (fiP h n fn lim co AG)) : ∀ d fuel j P p c M, j + d = n → d < fuel → rch (dn + 1) (stP h fn en lim so di ea AG) s0 j P = some (p, c) → c ≤ j * 40 → PlX M3 M n (dn + 1) j P → BeX M n (dn + 1) (scn v (P * (dn + 1) ^ d)) → ∃ M', sPlanner_tryEvening N fuel (nI j) (nI (bt p fn)) (nI c) M = some M' ∧ PlX M3 M' n (dn + 1) j P ∧ BeX M' n (dn + 1) (scn v ((P + 1) * (dn + 1) ^ d)) := by
  have hf := hBF.2.1
  obtain ⟨B, hB⟩ : ∃ B, B = dn + 1 := ⟨_, rfl⟩
  obtain ⟨st, hst⟩ : ∃ st, st = stP h fn en lim so di ea AG := ⟨_, rfl⟩
  rw [← hB, ← hst]
  rw [← hB, ← hst] at hv
  have cst : ∀ j g s s', st j g s = some s' → s.2 ≤ s'.2 := by rw [hst]; exact stP_cst
  intro d
  induction d with
  | zero =>
    intro fuel j P p c M hj hfu hr hc hP hBe
    obtain ⟨fuel, rfl⟩ : ∃ m, fuel = m + 1 := ⟨fuel - 1, by omega⟩
    have hjn : j = n := by omega
    subst hjn
    rw [Nat.pow_zero, Nat.mul_one] at hBe
    rw [Nat.pow_zero, Nat.mul_one]
    obtain ⟨S, hSS⟩ : ∃ S, S = smN (fun i => if (p i && offB lim (AG (h + (j - 1) * 24)) i) = true then co i else 0) fn := ⟨_, rfl⟩
    have Sb : S ≤ 990 := by
      rw [hSS]
      have := smN_le (e := fun i => if (p i && offB lim (AG (h + (j - 1) * 24)) i) = true then co i else 0) (b := 99) (n := fn) fun i hi => by
        have := (hBF.2.2 i hi).1
        show (if (p i && offB lim (AG (h + (j - 1) * 24)) i) = true then co i else 0) ≤ 99
        split <;> omega
      omega
    have vP : v P = some (c + S) := by
      rw [hv, hr, hSS]
      rfl
    show ∃ M', sPlanner_tryEveningB N (sPlanner_tryEvening N fuel) (nI j) (nI (bt p fn)) (nI c) M = some M' ∧ _
    obtain ⟨p1, p2, p3⟩ := id hP
    have hoff : sEvenings_offOn (M 63 4 - 1) M = some (nI (bt (offB lim (AG (h + (j - 1) * 24))) fn)) := by
      unfold sEvenings_offOn
      rw [p2, show nI j - 1 = nI (j - 1) from pk_sub (b := 1) (by omega), atf_n (by omega) (by omega), p1 62 (by omega) (by omega) (by omega), (hL.2.2 (j - 1) (by omega)).1]
      rfl
    have hF' : VXf M fn co li so := by
      unfold VXf
      rw [p1 27 (by omega) (by omega) (by omega), p1 30 (by omega) (by omega) (by omega), p1 31 (by omega) (by omega) (by omega), p1 33 (by omega) (by omega) (by omega)]
      exact hF
    have hco : sFoods_coinOfAll_l N (nI (bt p fn) &&& nI (bt (offB lim (AG (h + (j - 1) * 24))) fn)) M = some (nI S) := by
      rw [bt_and _ _ hf, coinAllX hF' hBF hN, hSS]
    have hcl : sPlanner_coinLeft N (nI (bt p fn)) M = some (nI S) := by
      unfold sPlanner_coinLeft
      rw [hoff, some_bind, hco, some_bind]
    have body : ∀ M', sPlanner_settle N (nI (c + S)) M = some M' → nI c < M 63 5 → sPlanner_tryEveningB N (sPlanner_tryEvening N fuel) (nI j) (nI (bt p fn)) (nI c) M = some M' := fun M' hM' hlt => by
      unfold sPlanner_tryEveningB
      rw [if_pos hlt, if_pos (by rw [p2, nIle (by omega) (by omega)]; omega), hcl, some_bind, nI_add, hM', some_bind]
    cases hs : scn v P with
    | none =>
      rw [hs] at hBe
      have hBe : M 63 5 = 1000000000 := hBe
      obtain ⟨M', m1, m2, m3⟩ := settleX (x := c + S) hn hn1 hP hN (by rw [hBe]; exact nI_lt (b := 1000000000) (by omega) (by omega)) (by omega)
      refine ⟨M', body M' m1 (by rw [hBe]; exact nI_lt (b := 1000000000) (by omega) (by omega)), m2, ?_⟩
      rw [scn_first vP hs]
      exact m3
    | some bl =>
      obtain ⟨bb, l⟩ := bl
      rw [hs] at hBe
      obtain ⟨b1, b2, b3⟩ := hBe
      have b1 : M 63 5 = nI l := b1
      have b2 : l ≤ 5000 := b2
      rw [scn_more vP hs]
      by_cases c1 : nI c < M 63 5
      · by_cases c2 : l ≤ c + S
        · rw [if_pos c2]
          refine ⟨M, body M ?_ c1, hP, b1, b2, b3⟩
          unfold sPlanner_settle
          rw [b1, if_neg (by rw [nIlt (by omega) (by omega)]; omega)]
        · rw [if_neg c2]
          obtain ⟨M', m1, m2, m3⟩ := settleX (x := c + S) hn hn1 hP hN (by rw [b1, nIlt (by omega) (by omega)]; omega) (by omega)
          exact ⟨M', body M' m1 c1, m2, m3⟩
      · have c1' := c1
        rw [b1, nIlt (by omega) (by omega)] at c1'
        rw [if_pos (by omega)]
        refine ⟨M, ?_, hP, b1, b2, b3⟩
        unfold sPlanner_tryEveningB
        rw [if_neg c1]
  | succ d ih =>
    intro fuel j P p c M hj hfu hr hc hP hBe
    obtain ⟨fuel, rfl⟩ : ∃ m, fuel = m + 1 := ⟨fuel - 1, by omega⟩
    have hB0 : 0 < B := by omega
    have eend : (P + 1) * B ^ (d + 1) = (P * B + B) * B ^ d := by
      rw [Nat.pow_succ, Nat.mul_comm (B ^ d), ← Nat.mul_assoc, Nat.add_mul P 1 B, Nat.one_mul]
    have ebeg : P * B ^ (d + 1) = (P * B + 0) * B ^ d := by
      rw [Nat.pow_succ, Nat.mul_comm (B ^ d), ← Nat.mul_assoc, Nat.add_zero]
    obtain ⟨p1, p2, p3⟩ := id hP
    show ∃ M', sPlanner_tryEveningB N (sPlanner_tryEvening N fuel) (nI j) (nI (bt p fn)) (nI c) M = some M' ∧ _
    by_cases c1 : nI c < M 63 5
    · -- none first
      have hun : ∀ (m : Mm) D, (∀ r, r ≠ 63 → r ≠ 64 → r ≠ 65 → m r = M3 r) → D ≤ 1000 → sTold_hungryWith_l N (nI D) m = some (nI (huN ea en D)) := fun m D hm hD => hungryX (by rw [hm 22 (by omega) (by omega) (by omega)]; exact h5) hen (by rw [hm 36 (by omega) (by omega) (by omega)]; exact hea) hN hD
      have hch : ∀ (m : Mm) D, (∀ r, r ≠ 63 → r ≠ 64 → r ≠ 65 → m r = M3 r) → D ≤ 1000 → sPlanner_costOfHunger N (nI D) m = some (nI (10 * huN ea en D)) := fun m D hm hD => by
        unfold sPlanner_costOfHunger
        rw [hun m D hm hD, some_bind, ten_n]
      have hle := huN_le ea en
      have child : ∀ g, g < B → ∀ E, eats (pkS p (offB lim (AG (h + j * 24))) so (olN (AG (h + j * 24)) lim) fn) (Dd di g) 4 = some E → rch B st s0 (j + 1) (P * B + g) = some (fun i => p i && !E i, c + 10 * huN ea en (Dd di g)) := fun g hg E hE => by
        rw [rch_child hr hg, hst]
        unfold stP
        rw [hE]
        rfl
      have back : ∀ g m, g < B → PlX M3 m n B (j + 1) (P * B + g) → PlX M3 m n B j P := fun g m hg hm => by
        obtain ⟨y1, y2, y3⟩ := hm
        refine ⟨y1, y2, ?_⟩
        have e1 : (P * B + g) / B = P := by
          rw [Nat.mul_comm, Nat.mul_add_div hB0, Nat.div_eq_of_lt hg, Nat.add_zero]
        have := y3.1
        rw [e1] at this
        exact this
      have down : ∀ g m, g < B → PlX M3 m n B j P → PlX M3 (mset m 64 j (dgP g)) n B (j + 1) (P * B + g) := fun g m hg hm => by
        obtain ⟨y1, y2, y3⟩ := hm
        refine ⟨fun r r1 r2 r3 => by rw [mset_ne _ _ _ r2]; exact y1 r r1 r2 r3, by rw [mset_ne _ _ _ (by omega)]; exact y2, ?_⟩
        rw [mset_eq]
        exact RwX_child (RwX_congr (fun i hi => upd_ne _ _ (by omega)) y3) hg (upd_eq _ _ _)
      have bdown : ∀ m i x o, BeX m n B o → BeX (mset m 64 i x) n B o := fun m i x o ho => by
        cases o with
        | none =>
          show mset m 64 i x 63 5 = _
          rw [mset_ne _ _ _ (by omega)]; exact ho
        | some bl =>
          refine ⟨by rw [mset_ne _ _ _ (by omega)]; exact ho.1, ho.2.1, by rw [mset_ne _ _ _ (by omega)]; exact ho.2.2⟩
      obtain ⟨M1, g1, g2, g3⟩ := ih fuel (j + 1) (P * B + 0) (fun i => p i && !(fun _ => false) i) (c + 10 * huN ea en (Dd di 0)) (mset M 64 j (dgP 0)) (by omega) (by omega) (child 0 hB0 _ (eats_0 _ 4)) (by have := hle (Dd di 0); omega) (down 0 M hB0 hP) (bdown _ _ _ _ (by rw [← ebeg]; exact hBe))
      have g2 := back 0 M1 hB0 g2
      have ebt : bt (fun i => p i && !(fun _ => false) i) fn = bt p fn := btP_ext fun i hi => by
        show (p i && !false) = p i
        rw [Bool.not_false, Bool.and_true]
      rw [ebt] at g1
      obtain ⟨M2, l1, l2, l3⟩ := itr_i (f := fun z : Int32 × Mm => LPlanner_tryEvening_62_28 N (nI j) (nI (bt p fn)) (nI c) (sPlanner_tryEvening N fuel) z.1 z.2)
        (fun i s => ∃ m, s = (nI i, m) ∧ PlX M3 m n B j P ∧ BeX m n B (scn v ((P * B + i + 1) * B ^ d)))
        (fun m => PlX M3 m n B j P ∧ BeX m n B (scn v ((P * B + B) * B ^ d))) dn (s := (0, M1)) (N := N)
        ⟨M1, rfl, g2, g3⟩ (fun i s hi hPi => by
          obtain ⟨m, rfl, y1, y2⟩ := hPi
          obtain ⟨z1, z2, z3⟩ := id y1
          obtain ⟨d1, d2, d3⟩ := hdi i hi
          have hB1 : i + 1 < B := by omega
          have hL' : LAx m m fn n h lim AG := ⟨fun _ _ _ _ => rfl, by rw [z1 61 (by omega) (by omega) (by omega)]; exact hL.2.1, by rw [z1 62 (by omega) (by omega) (by omega), z1 60 (by omega) (by omega) (by omega)]; exact hL.2.2⟩
          have he : sPlanner_eatenOn N (nI j) (nI (bt p fn)) (nI (di i)) m = some (match eats (pkS p (offB lim (AG (h + j * 24))) so (olN (AG (h + j * 24)) lim) fn) (di i) 4 with | none => 0 | some E => nI (bt E fn)) := eatenX hL' (by rw [z1 27 (by omega) (by omega) (by omega)]; exact hF.1) hf (by unfold SoX; rw [z1 34 (by omega) (by omega) (by omega)]; exact hS) hN (by omega) (by omega) p (by omega)
          have hso : sTold_sortsOfDish_l (nI i) m = some (nI (di i)) := by
            unfold sTold_sortsOfDish_l
            rw [atf_n (by omega) (by omega), z1 35 (by omega) (by omega) (by omega), d3]
          have eD : Dd di (i + 1) = di i := by
            unfold Dd
            rw [if_neg (by omega), Nat.add_sub_cancel]
          have h22 : m 22 3 = nI dn := by rw [z1 22 (by omega) (by omega) (by omega)]; exact h3
          show ∃ s', LPlanner_tryEvening_62_28 N (nI j) (nI (bt p fn)) (nI c) (sPlanner_tryEvening N fuel) (nI i) m = some (.inl s') ∧ _
          cases hE : eats (pkS p (offB lim (AG (h + j * 24))) so (olN (AG (h + j * 24)) lim) fn) (di i) 4 with
          | none =>
            rw [hE] at he
            refine ⟨(nI (i + 1), m), ?_, m, rfl, y1, ?_⟩
            · unfold LPlanner_tryEvening_62_28
              rw [h22, if_neg (by rw [nIle (by omega) (by omega)]; omega), hso, some_bind, he, some_bind, if_pos rfl, ltI_u, nI_s]
            · have ech : rch B st s0 (j + 1) (P * B + (i + 1)) = none := by
                rw [rch_child hr hB1, hst]
                unfold stP
                rw [eD, hE]
                rfl
              have := scn_skip (v := v) (n := (P * B + (i + 1)) * B ^ d) (B ^ d) fun C h1 h2 => by
                rw [hv]
                cases hrc : rch B st s0 n C with
                | none => rfl
                | some s' =>
                  have hnn : n = (j + 1) + d := by omega
                  rw [hnn] at hrc
                  obtain ⟨s1, u1, -⟩ := rch_up cst (j + 1) d C s' hrc
                  rw [interval h1 h2, ech] at u1
                  cases u1
              rw [show (P * B + (i + 1) + 1) * B ^ d = (P * B + (i + 1)) * B ^ d + B ^ d by rw [Nat.add_mul _ 1, Nat.one_mul], this]
              exact y2
          | some E =>
            rw [hE] at he
            have hne : ¬ nI (bt E fn) = 0 := by
              have ht : ∃ t, t < 4 ∧ (di i).testBit t = true := by
                have key : ∀ x : Fin 16, 1 ≤ x.val → ∃ t : Fin 4, x.val.testBit t.val = true := by decide +kernel
                obtain ⟨t, ht⟩ := key ⟨di i, by omega⟩ d1
                exact ⟨t.val, t.isLt, ht⟩
              obtain ⟨t, t1, t2⟩ := ht
              obtain ⟨x, x1, x2⟩ := eats_some (fn := fn) (fun s i hp => (pick_in hp).1) hE t t1 t2
              exact nI_ne0 (bt_some x1 x2) (bt31 _ hf)
            obtain ⟨M', n1, n2, n3⟩ := ih fuel (j + 1) (P * B + (i + 1)) (fun i => p i && !E i) (c + 10 * huN ea en (Dd di (i + 1))) (mset m 64 j (dgP (i + 1))) (by omega) (by omega) (child (i + 1) hB1 E (by rw [eD]; exact hE)) (by have := hle (Dd di (i + 1)); omega) (down (i + 1) m hB1 y1) (bdown _ _ _ _ y2)
            refine ⟨(nI (i + 1), M'), ?_, M', rfl, back (i + 1) M' hB1 n2, n3⟩
            unfold LPlanner_tryEvening_62_28
            rw [h22, if_neg (by rw [nIle (by omega) (by omega)]; omega), hso, some_bind, he, some_bind]
            show (if nI (bt E fn) = 0 then _ else _) = _
            rw [if_neg hne, putf_n (by omega) (by omega), ltM_u, hch _ _ (fun r r1 r2 r3 => by rw [mset_ne _ _ _ r2]; exact z1 r r1 r2 r3) (by omega), some_bind, bt_dif _ _ hf, nI_s, nI_add]
            rw [eD] at n1
            rw [show sPlanner_tryEvening N fuel (nI (j + 1)) (nI (bt (fun i => p i && !E i) fn)) (nI (c + 10 * huN ea en (di i))) (mset m 64 j (nI i)) = some M' from n1, some_bind, ltI_u, nI_s]) (fun s hPi => by
          obtain ⟨m, rfl, y1, y2⟩ := hPi
          refine ⟨m, ?_, y1, by rw [hB]; rw [hB] at y2; exact y2⟩
          show LPlanner_tryEvening_62_28 N (nI j) (nI (bt p fn)) (nI c) (sPlanner_tryEvening N fuel) (nI dn) m = _
          unfold LPlanner_tryEvening_62_28
          rw [y1.1 22 (by omega) (by omega) (by omega), h3, if_pos (by rw [nIle (by omega) (by omega)]; omega)]) (by omega)
      refine ⟨M2, ?_, l2, by rw [eend]; exact l3⟩
      unfold sPlanner_tryEveningB
      rw [if_pos c1, p2, if_neg (by rw [nIle (by omega) (by omega)]; omega), if_pos (show nI j < 4 by rw [show (4 : Int32) = nI 4 from rfl, nIlt (by omega) (by omega)]; omega), putf_n (by omega) (by omega), ltM_u, show (0 : Int32) = nI (Dd di 0) from rfl, hch (mset M 64 j (-4)) (Dd di 0) (fun r r1 r2 r3 => by rw [mset_ne _ _ _ r2]; exact p1 r r1 r2 r3) (show Dd di 0 ≤ 1000 from Nat.zero_le 1000), some_bind, nI_s, nI_add, show sPlanner_tryEvening N fuel (nI (j + 1)) (nI (bt p fn)) (nI (c + 10 * huN ea en (Dd di 0))) (mset M 64 j (-4)) = some M1 from g1, some_bind]
      show (itr (fun z : Int32 × Mm => LPlanner_tryEvening_62_28 N (nI j) (nI (bt p fn)) (nI c) (sPlanner_tryEvening N fuel) z.1 z.2) N (0, M1)).bind _ = _
      rw [l1, some_bind]
    · -- cut off
      cases hs : scn v (P * B ^ (d + 1)) with
      | none =>
        rw [hs] at hBe
        have hBe : M 63 5 = 1000000000 := hBe
        rw [hBe] at c1
        exact absurd (nI_lt (b := 1000000000) (by omega) (by omega)) c1
      | some bl =>
        obtain ⟨bb, l⟩ := bl
        have hBe' := hBe
        rw [hs] at hBe'
        obtain ⟨b1, b2, b3⟩ := hBe'
        have b1 : M 63 5 = nI l := b1
        have b2 : l ≤ 5000 := b2
        have c1' := c1
        rw [b1, nIlt (by omega) (by omega)] at c1'
        have := scn_prune hs (B ^ (d + 1)) fun C x h1 h2 hx => by
          rw [hv] at hx
          obtain ⟨s', u1, u2⟩ := Option.map_eq_some_iff.mp hx
          have hnn : n = j + (d + 1) := by omega
          rw [hnn] at u1
          obtain ⟨s1, w1, w2⟩ := rch_up cst j (d + 1) C s' u1
          rw [interval h1 h2, hr] at w1
          have w1 := Option.some.inj w1
          rw [← w1] at w2
          have w2 : c ≤ s'.2 := w2
          have u3 : s'.2 ≤ x := by
            rw [← u2]
            exact Nat.le_add_right _ _
          omega
        refine ⟨M, ?_, hP, ?_⟩
        · unfold sPlanner_tryEveningB
          rw [if_neg c1]
        · rw [Nat.add_mul, Nat.one_mul, this]
          exact ⟨b1, b2, b3⟩
end PS
