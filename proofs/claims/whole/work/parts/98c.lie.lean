/-! PURE PART 22: lie by the class. By hand. -/
def cnt (f : Nat → Nat) (i : Nat) : Nat := ctb (fun i => decide (f i = 0)) i
theorem cnt_T {f : Nat → Nat} {m : Nat} (h : f m = 0) : cnt f (m + 1) = cnt f m + 1 := ctb_T (decide_eq_true h)
theorem cnt_F {f : Nat → Nat} {m : Nat} (h : ¬ f m = 0) : cnt f (m + 1) = cnt f m := ctb_F (by simp [h])
theorem cnt_mono (f : Nat → Nat) (i j : Nat) : cnt f i ≤ cnt f (i + j) := by
  unfold cnt
  rw [ctb_add]
  omega
def xs (f : Nat → Nat) : Nat → Nat → Nat
  | 0, _ => 0
  | n + 1, p => if f n = 0 ∧ cnt f n = p then n else xs f n p
theorem xs_eq {f : Nat → Nat} : ∀ {n i : Nat}, i < n → f i = 0 → xs f n (cnt f i) = i
  | 0, _, h, _ => absurd h (by omega)
  | n + 1, i, h, h0 => by
    show (if f n = 0 ∧ cnt f n = cnt f i then n else xs f n (cnt f i)) = i
    by_cases c : i = n
    · subst c
      rw [if_pos ⟨h0, rfl⟩]
    · have h1 := cnt_T h0
      have h2 := cnt_mono f (i + 1) (n - (i + 1))
      rw [show i + 1 + (n - (i + 1)) = n by omega] at h2
      rw [if_neg (fun q => by have := q.2; omega)]
      exact xs_eq (by omega) h0
def cL (f c : Nat → Nat) (z : Nat) (dg : Nat → Nat) : Nat → Nat := fun i => if f i = 0 ∧ ¬ z ≤ cnt f i then dg (cnt f i) else c i
section LS
variable {f c dg : Nat → Nat} {z fn g : Nat} {lc : Nat → Nat → Nat}
theorem split_sum : ∀ m, m ≤ fn → smN (fun i => if f i = 0 then lc i (cL f c z dg i) else 0) m = smN (fun i => if f i = 0 ∧ z ≤ cnt f i then lc i (c i) else 0) m + smN (fun p => lc (xs f fn p) (dg p)) (min (cnt f m) z)
  | 0, _ => by
    have : min (cnt f 0) z = 0 := by
      have : cnt f 0 = 0 := rfl
      omega
    rw [this]
    rfl
  | m + 1, hm => by
    rw [smN_s, smN_s, split_sum m (by omega)]
    by_cases h0 : f m = 0
    · rw [cnt_T h0, if_pos h0]
      by_cases hz : z ≤ cnt f m
      · rw [if_pos ⟨h0, hz⟩, show cL f c z dg m = c m from if_neg (fun q => q.2 hz), show min (cnt f m + 1) z = min (cnt f m) z by omega]
        omega
      · rw [if_neg (fun q => hz q.2), show cL f c z dg m = dg (cnt f m) from if_pos ⟨h0, hz⟩, show min (cnt f m + 1) z = cnt f m + 1 by omega, smN_s, xs_eq (by omega) h0, show min (cnt f m) z = cnt f m by omega]
        omega
    · rw [cnt_F h0, if_neg h0, if_neg (fun q => h0 q.1)]
      omega
theorem split_cnt : ∀ m, ctb (fun i => decide (f i = 0 ∧ cL f c z dg i = g)) m = ctb (fun i => decide (f i = 0 ∧ z ≤ cnt f i ∧ c i = g)) m + ctb (fun p => decide (dg p = g)) (min (cnt f m) z)
  | 0 => by
    have : min (cnt f 0) z = 0 := by
      have : cnt f 0 = 0 := rfl
      omega
    rw [this]
    rfl
  | m + 1 => by
    rw [ctb_s, ctb_s, split_cnt m]
    by_cases h0 : f m = 0
    · rw [cnt_T h0]
      by_cases hz : z ≤ cnt f m
      · rw [show cL f c z dg m = c m from if_neg (fun q => q.2 hz), show min (cnt f m + 1) z = min (cnt f m) z by omega]
        by_cases hg : c m = g <;> simp [h0, hz, hg] <;> omega
      · rw [show cL f c z dg m = dg (cnt f m) from if_pos ⟨h0, hz⟩, show min (cnt f m + 1) z = cnt f m + 1 by omega, ctb_s, show min (cnt f m) z = cnt f m by omega]
        by_cases hg : dg (cnt f m) = g <;> simp [h0, hz, hg] <;> omega
    · rw [cnt_F h0]
      simp [h0]
theorem inn_split : ∀ m, ctb (fun i => decide (f i = 0 ∧ c i = g)) m = ctb (fun i => decide (f i = 0 ∧ z ≤ cnt f i ∧ c i = g)) m + ctb (fun i => decide (f i = 0 ∧ ¬ z ≤ cnt f i ∧ c i = g)) m
  | 0 => rfl
  | m + 1 => by
    rw [ctb_s, ctb_s, ctb_s, inn_split m]
    by_cases h0 : f m = 0 <;> by_cases hz : z ≤ cnt f m <;> by_cases hg : c m = g <;> simp [h0, hz, hg] <;> omega
end LS
def stL (fr : Nat → Nat) (L : Nat → Nat → Nat) (j g : Nat) (s : (Nat → Nat) × Nat) : Option ((Nat → Nat) × Nat) := if s.1 g < fr g then some (fun x => if x = g then s.1 x + 1 else s.1 x, s.2 + L j g) else none
theorem stL_cst {fr : Nat → Nat} {L : Nat → Nat → Nat} (j g : Nat) (s s' : (Nat → Nat) × Nat) (e : stL fr L j g s = some s') : s.2 ≤ s'.2 := by
  unfold stL at e
  by_cases c : s.1 g < fr g
  · rw [if_pos c] at e
    have e := Option.some.inj e
    rw [← e]
    exact Nat.le_add_right _ _
  · rw [if_neg c] at e; cases e
def dgt (C B z p : Nat) : Nat := C / B ^ (z - 1 - p) % B
theorem lieRch {fr : Nat → Nat} {L : Nat → Nat → Nat} {B C z O : Nat} (hB : 0 < B) : ∀ j, j ≤ z → ((∀ g, g < B → ctb (fun p => decide (dgt C B z p = g)) j ≤ fr g) → rch B (stL fr L) (fun _ => 0, O) j (C / B ^ (z - j)) = some (fun g => ctb (fun p => decide (dgt C B z p = g)) j, O + smN (fun p => L p (dgt C B z p)) j)) ∧ ((¬ ∀ g, g < B → ctb (fun p => decide (dgt C B z p = g)) j ≤ fr g) → rch B (stL fr L) (fun _ => 0, O) j (C / B ^ (z - j)) = none)
  | 0, _ => ⟨fun _ => rfl, fun h => absurd (fun g _ => Nat.zero_le _) h⟩
  | j + 1, hj => by
    obtain ⟨i1, i2⟩ := lieRch (fr := fr) (L := L) (C := C) (O := O) (z := z) hB j (by omega)
    have e1 : C / B ^ (z - (j + 1)) / B = C / B ^ (z - j) := by
      rw [Nat.div_div_eq_div_mul, ← Nat.pow_succ, show (z - (j + 1)).succ = z - j by omega]
    have e2 : C / B ^ (z - (j + 1)) % B = dgt C B z j := by
      unfold dgt
      rw [show z - (j + 1) = z - 1 - j by omega]
    rw [rch_s, e1, e2]
    have hg0 : dgt C B z j < B := Nat.mod_lt _ hB
    have hs : ∀ g, ctb (fun p => decide (dgt C B z p = g)) (j + 1) = if dgt C B z j = g then ctb (fun p => decide (dgt C B z p = g)) j + 1 else ctb (fun p => decide (dgt C B z p = g)) j := fun g => by
      by_cases c : dgt C B z j = g
      · rw [if_pos c]; exact ctb_T (decide_eq_true c)
      · rw [if_neg c]; exact ctb_F (by simp [c])
    by_cases H : ∀ g, g < B → ctb (fun p => decide (dgt C B z p = g)) j ≤ fr g
    · rw [i1 H, some_bind]
      unfold stL
      by_cases c : ctb (fun p => decide (dgt C B z p = dgt C B z j)) j < fr (dgt C B z j)
      · refine ⟨fun _ => ?_, fun h => absurd (fun g hg => ?_) h⟩
        · show (if ctb (fun p => decide (dgt C B z p = dgt C B z j)) j < fr (dgt C B z j) then _ else _) = _
          rw [if_pos c, smN_s, ← Nat.add_assoc]
          congr 2
          funext g
          rw [hs]
          by_cases cg : g = dgt C B z j
          · rw [if_pos cg, if_pos cg.symm]
          · rw [if_neg cg, if_neg (fun q => cg q.symm)]
        · rw [hs]
          have := H g hg
          by_cases cg : dgt C B z j = g
          · rw [if_pos cg]; rw [cg] at c; omega
          · rw [if_neg cg]; exact this
      · refine ⟨fun h => ?_, fun _ => if_neg c⟩
        have := h _ hg0
        rw [hs, if_pos rfl] at this
        omega
    · refine ⟨fun h => absurd (fun g hg => ?_) H, fun _ => by rw [i2 H]; rfl⟩
      have := h g hg
      rw [hs] at this
      by_cases cg : dgt C B z j = g
      · rw [if_pos cg] at this; omega
      · rw [if_neg cg] at this; exact this
def lcN (q hr n : Nat) (w r k a li co : Nat → Nat) (i g : Nat) : Nat := if limN (k i) (li i) ≤ a i + agN (k i) (w g) (r g) q hr n then co i else 0
def dgL (g : Nat) : Int32 := nI g
def LyX (M3 M : Mm) (z B : Nat) (fr pl : Nat → Nat) (j P : Nat) : Prop := (∀ r, r ≠ 66 → r ≠ 68 → r ≠ 69 → r ≠ 70 → M r = M3 r) ∧ M 66 5 = nI z ∧ (∀ g, g < B → M 68 g = nI (fr g - pl g)) ∧ RwX (M 69) B dgL j P
def BeL (M : Mm) (z B : Nat) : Option (Nat × Nat) → Prop
  | none => M 66 6 = 1000000000
  | some bl => M 66 6 = nI bl.2 ∧ bl.2 ≤ 5000 ∧ RwX (M 70) B dgL z bl.1
section LX
variable {cn fn q hr n z : Nat} {w r d co li so k c a f fr : Nat → Nat} {M M' M3 : Mm} {N : Nat} {L : Nat → Nat → Nat}
theorem settleL {B P x : Nat} {pl : Nat → Nat} (hz : z ≤ 4) (hP : LyX M3 M z B fr pl z P) (hN : 1000 < N) (hlt : nI x < M 66 6) (hx : x ≤ 5000) : ∃ M', sLayer_settle N (nI x) M = some M' ∧ LyX M3 M' z B fr pl z P ∧ BeL M' z B (some (P, x)) := by
  obtain ⟨p1, p2, p2', p3⟩ := hP
  unfold sLayer_settle
  rw [if_pos hlt, ltM_u]
  obtain ⟨M', q1, q2, q3, q4⟩ := itr_i (f := fun z : Int32 × Mm => LLayer_settle_16_8 N z.1 z.2)
    (fun i s => ∃ m, s = (nI i, m) ∧ (∀ r, r ≠ 70 → m r = mset M 66 6 (nI x) r) ∧ ∀ j, j < i → m 70 j = M 69 j)
    (fun m => (∀ r, r ≠ 70 → m r = mset M 66 6 (nI x) r) ∧ (∀ j, j < z → m 70 j = M 69 j) ∧ True) z (s := (0, mset M 66 6 (nI x))) (N := N)
    ⟨_, rfl, fun _ _ => rfl, fun j hj => absurd hj (by omega)⟩ (fun i s hi hP => by
      obtain ⟨m, rfl, g1, g2⟩ := hP
      refine ⟨(nI (i + 1), mset m 70 i (M 69 i)), ?_, _, rfl, fun r hr => by rw [mset_ne _ _ _ hr]; exact g1 r hr, fun j hj => ?_⟩
      · show LLayer_settle_16_8 N (nI i) m = _
        unfold LLayer_settle_16_8
        rw [g1 66 (by omega), mset_eq, upd_ne _ _ (by omega), p2, if_neg (by rw [nIle (by omega) (by omega)]; omega), g1 69 (by omega), mset_ne _ _ _ (by omega), atf_n (by omega) (by omega), putf_n (by omega) (by omega), ltM_u, ltI_u, nI_s]
      · rw [mset_eq]
        by_cases hj2 : j = i
        · subst hj2; rw [upd_eq]
        · rw [upd_ne _ _ hj2]; exact g2 j (by omega)) (fun s hP => by
      obtain ⟨m, rfl, g1, g2⟩ := hP
      refine ⟨m, ?_, g1, g2, trivial⟩
      show LLayer_settle_16_8 N (nI z) m = _
      unfold LLayer_settle_16_8
      rw [g1 66 (by omega), mset_eq, upd_ne _ _ (by omega), p2, if_pos (by rw [nIle (by omega) (by omega)]; omega)]) (by omega)
  refine ⟨M', by rw [q1, some_bind], ⟨fun r r1 r2 r3 r4 => ?_, ?_, ?_, ?_⟩, ?_, hx, ?_⟩
  · rw [q2 r r4, mset_ne _ _ _ r1]; exact p1 r r1 r2 r3 r4
  · rw [q2 66 (by omega), mset_eq, upd_ne _ _ (by omega)]; exact p2
  · rw [q2 68 (by omega), mset_ne _ _ _ (by omega)]; exact p2'
  · rw [q2 69 (by omega), mset_ne _ _ _ (by omega)]; exact p3
  · rw [q2 66 (by omega), mset_eq, upd_eq]
  · exact RwX_congr q3 p3
theorem tryL {s0 : (Nat → Nat) × Nat} (h23 : M3 23 3 = nI cn) (hc1 : 1 ≤ cn) (hcn : cn ≤ 6) (hfr : ∀ g, g < cn → fr g ≤ 10) (hL : ∀ j g, j < z → g < cn → M3 67 (6 * j + g) = nI (L j g) ∧ L j g ≤ 99) (hN : 1000 < N) (hz : z ≤ 4) (v : Nat → Option Nat) (hv : ∀ C, v C = (rch cn (stL fr L) s0 z C).map fun s => s.2) : ∀ dd fuel j P pl lost M, j + dd = z → dd < fuel → rch cn (stL fr L) s0 j P = some (pl, lost) → lost ≤ 990 + j * 99 → (∀ g, g < cn → pl g ≤ fr g) → LyX M3 M z cn fr pl j P → BeL M z cn (scn v (P * cn ^ dd)) → ∃ M', sLayer_tryFood N fuel (nI j) (nI lost) M = some M' ∧ LyX M3 M' z cn fr pl j P ∧ BeL M' z cn (scn v ((P + 1) * cn ^ dd)) := by
  intro dd
  induction dd with
  | zero =>
    intro fuel j P pl lost M hj hfu hr hc hpl hP hBe
    obtain ⟨fuel, rfl⟩ : ∃ m, fuel = m + 1 := ⟨fuel - 1, by omega⟩
    have hjn : j = z := by omega
    subst hjn
    rw [Nat.pow_zero, Nat.mul_one] at hBe
    rw [Nat.pow_zero, Nat.mul_one]
    have vP : v P = some lost := by
      rw [hv, hr]
      rfl
    show ∃ M', sLayer_tryFoodB N (sLayer_tryFood N fuel) (nI j) (nI lost) M = some M' ∧ _
    have body : ∀ M', sLayer_settle N (nI lost) M = some M' → sLayer_tryFoodB N (sLayer_tryFood N fuel) (nI j) (nI lost) M = some M' := fun M' hM' => by
      unfold sLayer_tryFoodB
      rw [hP.2.1, if_pos (by rw [nIle (by omega) (by omega)]; omega), hM', some_bind]
    cases hs : scn v P with
    | none =>
      rw [hs] at hBe
      have hBe : M 66 6 = 1000000000 := hBe
      obtain ⟨M', m1, m2, m3⟩ := settleL (x := lost) hz hP hN (by rw [hBe]; exact nI_lt (b := 1000000000) (by omega) (by omega)) (by omega)
      refine ⟨M', body M' m1, m2, ?_⟩
      rw [scn_first vP hs]
      exact m3
    | some bl =>
      obtain ⟨bb, l⟩ := bl
      rw [hs] at hBe
      obtain ⟨b1, b2, b3⟩ := hBe
      have b1 : M 66 6 = nI l := b1
      have b2 : l ≤ 5000 := b2
      rw [scn_more vP hs]
      by_cases c2 : l ≤ lost
      · rw [if_pos c2]
        refine ⟨M, body M ?_, hP, b1, b2, b3⟩
        unfold sLayer_settle
        rw [b1, if_neg (by rw [nIlt (by omega) (by omega)]; omega)]
      · rw [if_neg c2]
        obtain ⟨M', m1, m2, m3⟩ := settleL (x := lost) hz hP hN (by rw [b1, nIlt (by omega) (by omega)]; omega) (by omega)
        exact ⟨M', body M' m1, m2, m3⟩
  | succ dd ih =>
    intro fuel j P pl lost M hj hfu hr hc hpl hP hBe
    obtain ⟨fuel, rfl⟩ : ∃ m, fuel = m + 1 := ⟨fuel - 1, by omega⟩
    have hB0 : 0 < cn := by omega
    have eend : (P + 1) * cn ^ (dd + 1) = (P * cn + cn) * cn ^ dd := by
      rw [Nat.pow_succ, Nat.mul_comm (cn ^ dd), ← Nat.mul_assoc, Nat.add_mul P 1 cn, Nat.one_mul]
    have ebeg : P * cn ^ (dd + 1) = (P * cn + 0) * cn ^ dd := by
      rw [Nat.pow_succ, Nat.mul_comm (cn ^ dd), ← Nat.mul_assoc, Nat.add_zero]
    show ∃ M', sLayer_tryFoodB N (sLayer_tryFood N fuel) (nI j) (nI lost) M = some M' ∧ _
    obtain ⟨M2, l1, l2, l3⟩ := itr_i (f := fun y : Int32 × Mm => LLayer_tryFood_21_26 N (nI j) (nI lost) (sLayer_tryFood N fuel) y.1 y.2)
      (fun i s => ∃ m, s = (nI i, m) ∧ LyX M3 m z cn fr pl j P ∧ BeL m z cn (scn v ((P * cn + i) * cn ^ dd)))
      (fun m => LyX M3 m z cn fr pl j P ∧ BeL m z cn (scn v ((P * cn + cn) * cn ^ dd))) cn (s := (0, M)) (N := N)
      ⟨M, rfl, hP, by rw [← ebeg]; exact hBe⟩ (fun i s hi hPi => by
        obtain ⟨m, rfl, y1, y2⟩ := hPi
        obtain ⟨z1, z2, z3, z4⟩ := id y1
        have h68 := z3 i hi
        have hfi := hfr i hi
        have hpi := hpl i hi
        obtain ⟨L1, L2⟩ := hL j i (by omega) hi
        have h23' : m 23 3 = nI cn := by rw [z1 23 (by omega) (by omega) (by omega) (by omega)]; exact h23
        show ∃ s', LLayer_tryFood_21_26 N (nI j) (nI lost) (sLayer_tryFood N fuel) (nI i) m = some (.inl s') ∧ _
        by_cases cr : pl i < fr i
        · have ech : rch cn (stL fr L) s0 (j + 1) (P * cn + i) = some (fun x => if x = i then pl x + 1 else pl x, lost + L j i) := by
            rw [rch_child hr hi]
            exact if_pos cr
          have hpl' : ∀ g, g < cn → (fun x => if x = i then pl x + 1 else pl x) g ≤ fr g := fun g hg => by
            show (if g = i then pl g + 1 else pl g) ≤ fr g
            have := hpl g hg
            by_cases cg : g = i
            · rw [if_pos cg]; subst cg; omega
            · rw [if_neg cg]; exact this
          have y1' : LyX M3 (mset (mset m 68 i (nI (fr i - pl i - 1))) 69 j (nI i)) z cn fr (fun x => if x = i then pl x + 1 else pl x) (j + 1) (P * cn + i) := by
            refine ⟨fun r r1 r2 r3 r4 => by rw [mset_ne _ _ _ r3, mset_ne _ _ _ r2]; exact z1 r r1 r2 r3 r4, by rw [mset_ne _ _ _ (by omega), mset_ne _ _ _ (by omega)]; exact z2, fun g hg => ?_, ?_⟩
            · rw [mset_ne _ _ _ (by omega), mset_eq]
              show _ = nI (fr g - (if g = i then pl g + 1 else pl g))
              by_cases cg : g = i
              · subst cg; rw [upd_eq, if_pos rfl]; congr 1
              · rw [upd_ne _ _ cg, if_neg cg]; exact z3 g hg
            · rw [mset_eq]
              exact RwX_child (RwX_congr (fun x hx => by rw [upd_ne _ _ (by omega), mset_ne _ _ _ (by omega)]) z4) hi (upd_eq _ _ _)
          have y2' : BeL (mset (mset m 68 i (nI (fr i - pl i - 1))) 69 j (nI i)) z cn (scn v ((P * cn + i) * cn ^ dd)) := by
            cases hs : scn v ((P * cn + i) * cn ^ dd) with
            | none =>
              rw [hs] at y2
              show mset (mset m 68 i (nI (fr i - pl i - 1))) 69 j (nI i) 66 6 = _
              rw [mset_ne _ _ _ (by omega), mset_ne _ _ _ (by omega)]; exact y2
            | some bl =>
              rw [hs] at y2
              refine ⟨by rw [mset_ne _ _ _ (by omega), mset_ne _ _ _ (by omega)]; exact y2.1, y2.2.1, by rw [mset_ne _ _ _ (by omega), mset_ne _ _ _ (by omega)]; exact y2.2.2⟩
          obtain ⟨M', n1, ⟨o1, o2, o3, o4⟩, n3⟩ := ih fuel (j + 1) (P * cn + i) _ (lost + L j i) _ (by omega) (by omega) ech (by omega) hpl' y1' y2'
          refine ⟨(nI (i + 1), mset M' 68 i (nI (fr i - pl i))), ?_, _, rfl, ⟨fun r r1 r2 r3 r4 => by rw [mset_ne _ _ _ r2]; exact o1 r r1 r2 r3 r4, by rw [mset_ne _ _ _ (by omega)]; exact o2, fun g hg => ?_, ?_⟩, ?_⟩
          · unfold LLayer_tryFood_21_26
            rw [h23', if_neg (by rw [nIle (by omega) (by omega)]; omega), atf_n (by omega) (by omega), h68, ltI_u, if_neg (nI_nle (by omega) (by omega)), dec_n (by omega), putf_n (by omega) (by omega), ltM_u, putf_n (by omega) (by omega), ltM_u, show (6 : Int32) = nI 6 from rfl, pk_mul, nI_add, show j * 6 + i = 6 * j + i by omega, atf_n (by omega) (by omega), mset_ne _ _ _ (show (67 : Nat) ≠ 69 by omega), mset_ne _ _ _ (show (67 : Nat) ≠ 68 by omega), z1 67 (by omega) (by omega) (by omega) (by omega), L1, nI_add, nI_s, n1, some_bind, putf_n (by omega) (by omega), ltM_u, ltI_u, nI_s]
          · rw [mset_eq]
            by_cases cg : g = i
            · subst cg; rw [upd_eq]
            · rw [upd_ne _ _ cg, o3 g hg]
              show nI (fr g - (if g = i then pl g + 1 else pl g)) = _
              rw [if_neg cg]
          · rw [mset_ne _ _ _ (by omega)]
            have e1 : (P * cn + i) / cn = P := by
              rw [Nat.mul_comm, Nat.mul_add_div hB0, Nat.div_eq_of_lt hi, Nat.add_zero]
            have := o4.1
            rw [e1] at this
            exact this
          · rw [show P * cn + (i + 1) = P * cn + i + 1 by omega]
            cases hs : scn v ((P * cn + i + 1) * cn ^ dd) with
            | none =>
              rw [hs] at n3
              show mset M' 68 i (nI (fr i - pl i)) 66 6 = _
              rw [mset_ne _ _ _ (by omega)]; exact n3
            | some bl =>
              rw [hs] at n3
              refine ⟨by rw [mset_ne _ _ _ (by omega)]; exact n3.1, n3.2.1, by rw [mset_ne _ _ _ (by omega)]; exact n3.2.2⟩
        · have ech : rch cn (stL fr L) s0 (j + 1) (P * cn + i) = none := by
            rw [rch_child hr hi]
            exact if_neg cr
          refine ⟨(nI (i + 1), m), ?_, m, rfl, y1, ?_⟩
          · unfold LLayer_tryFood_21_26
            rw [h23', if_neg (by rw [nIle (by omega) (by omega)]; omega), atf_n (by omega) (by omega), h68, ltI_u, show fr i - pl i = 0 by omega, if_pos (show nI 0 ≤ 0 from by decide), ltI_u, nI_s]
          · have := scn_skip (v := v) (n := (P * cn + i) * cn ^ dd) (cn ^ dd) fun C h1 h2 => by
              rw [hv]
              cases hrc : rch cn (stL fr L) s0 z C with
              | none => rfl
              | some s' =>
                have hnn : z = (j + 1) + dd := by omega
                rw [hnn] at hrc
                obtain ⟨s1, u1, -⟩ := rch_up (cst := fun s => s.2) stL_cst (j + 1) dd C s' hrc
                rw [interval h1 h2, ech] at u1
                cases u1
            rw [show (P * cn + (i + 1)) * cn ^ dd = (P * cn + i) * cn ^ dd + cn ^ dd by rw [← Nat.add_assoc, Nat.add_mul _ 1, Nat.one_mul], this]
            exact y2) (fun s hPi => by
        obtain ⟨m, rfl, y1, y2⟩ := hPi
        refine ⟨m, ?_, y1, y2⟩
        show LLayer_tryFood_21_26 N (nI j) (nI lost) (sLayer_tryFood N fuel) (nI cn) m = _
        unfold LLayer_tryFood_21_26
        rw [y1.1 23 (by omega) (by omega) (by omega) (by omega), h23, if_pos (by rw [nIle (by omega) (by omega)]; omega)]) (by omega)
    refine ⟨M2, ?_, l2, by rw [eend]; exact l3⟩
    unfold sLayer_tryFoodB
    rw [hP.2.1, if_neg (by rw [nIle (by omega) (by omega)]; omega), if_pos (show nI j < 4 by rw [show (4 : Int32) = nI 4 from rfl, nIlt (by omega) (by omega)]; omega)]
    show (itr (fun y : Int32 × Mm => LLayer_tryFood_21_26 N (nI j) (nI lost) (sLayer_tryFood N fuel) y.1 y.2) N (0, M)).bind _ = _
    rw [l1, some_bind]
theorem layLookX (hv : VXc M cn q w r d) (hb : BC cn q w r d) (hs : VXs M fn hr k c a f) (hF : VXf M fn co li so) (hBF : BF fn co li so) (hBS : BS cn fn hr k c a f) (hN : 1000 < N) (hn : n ≤ 500) (hz : z ≤ 4) (h66 : M 66 5 = nI z) (hin : ∀ g, g < cn → ctb (fun i => decide (f i = 0 ∧ c i = g)) fn ≤ d g) (h68 : ∀ g, g < cn → M 68 g = nI (d g - ctb (fun i => decide (f i = 0 ∧ c i = g)) fn)) : ∃ M', sLayer_lookAtFoods N (nI n) M = some (nI (smN (fun i => if f i = 0 ∧ z ≤ cnt f i then lcN q hr n w r k a li co i (c i) else 0) fn), M') ∧ (∀ r, r ≠ 67 → r ≠ 68 → M' r = M r) ∧ (∀ g, g < cn → M' 68 g = nI (d g - ctb (fun i => decide (f i = 0 ∧ z ≤ cnt f i ∧ c i = g)) fn)) ∧ ∀ p g, p < min (cnt f fn) z → g < cn → M' 67 (6 * p + g) = nI (lcN q hr n w r k a li co (xs f fn p) g) := by
  have hf := hBF.2.1
  have hcn := hb.2.1
  obtain ⟨lc, hlc⟩ : ∃ lc, lc = lcN q hr n w r k a li co := ⟨_, rfl⟩
  rw [← hlc]
  obtain ⟨e, he⟩ : ∃ e : Nat → Nat, e = fun i => if f i = 0 ∧ z ≤ cnt f i then lc i (c i) else 0 := ⟨_, rfl⟩
  rw [← he]
  have hei : ∀ i, e i = if f i = 0 ∧ z ≤ cnt f i then lc i (c i) else 0 := fun i => by rw [he]
  have coin : ∀ (m : Mm) i g, (∀ r, r ≠ 67 → r ≠ 68 → m r = M r) → i < fn → g < cn → sFridge_coinLostAs N (nI i) (nI (k i)) (nI g) (nI n) m = some (nI (lc i g)) := fun m i g hm hi hg => by
    have hv' : VXc m cn q w r d := by
      unfold VXc
      rw [hm 23 (by omega) (by omega), hm 24 (by omega) (by omega), hm 25 (by omega) (by omega), hm 26 (by omega) (by omega)]
      exact hv
    have hs' : VXs m fn hr k c a f := by
      unfold VXs
      rw [hm 40 (by omega) (by omega), hm 41 (by omega) (by omega), hm 42 (by omega) (by omega), hm 43 (by omega) (by omega), hm 44 (by omega) (by omega)]
      exact hs
    have hF' : VXf m fn co li so := by
      unfold VXf
      rw [hm 27 (by omega) (by omega), hm 30 (by omega) (by omega), hm 31 (by omega) (by omega), hm 33 (by omega) (by omega)]
      exact hF
    rw [coinLostX hv' hb hs' hF' hBF hBS hN hi (hBS.2 i hi).1 hg (by omega), hlc]
    rfl
  unfold sLayer_lookAtFoods
  obtain ⟨rr, q1, M', rfl, q2, q3, q4⟩ := itr_i (f := fun y : Int32 × Int32 × Int32 × Mm => LLayer_lookAtFoods_7_105 N (nI n) y.1 y.2.1 y.2.2.1 y.2.2.2)
    (fun i s => ∃ m, s = (nI (min (cnt f i) z), nI (smN e i), nI i, m) ∧ (∀ r, r ≠ 67 → r ≠ 68 → m r = M r) ∧ (∀ g, g < cn → m 68 g = nI (d g - ctb (fun i => decide (f i = 0 ∧ c i = g)) fn + ctb (fun i => decide (f i = 0 ∧ ¬ z ≤ cnt f i ∧ c i = g)) i)) ∧ ∀ p g, p < min (cnt f i) z → g < cn → m 67 (6 * p + g) = nI (lc (xs f fn p) g))
    (fun rr => ∃ m, rr = (nI (smN e fn), m) ∧ (∀ r, r ≠ 67 → r ≠ 68 → m r = M r) ∧ (∀ g, g < cn → m 68 g = nI (d g - ctb (fun i => decide (f i = 0 ∧ c i = g)) fn + ctb (fun i => decide (f i = 0 ∧ ¬ z ≤ cnt f i ∧ c i = g)) fn)) ∧ ∀ p g, p < min (cnt f fn) z → g < cn → m 67 (6 * p + g) = nI (lc (xs f fn p) g)) fn (s := (0, 0, 0, M)) (N := N)
    ⟨M, by rw [show min (cnt f 0) z = 0 from Nat.zero_min z]; rfl, fun _ _ _ => rfl, fun g hg => by rw [h68 g hg]; rfl, fun p g hp _ => by rw [show min (cnt f 0) z = 0 from Nat.zero_min z] at hp; omega⟩ (fun i s hi hP => by
      obtain ⟨m, rfl, g1, g2, g3⟩ := hP
      obtain ⟨s1, s2, s3, s4⟩ := hBS.2 i hi
      obtain ⟨t1, t2, t3, t4⟩ := hs.2.2 i hi
      have h27 : m 27 7 = nI fn := by rw [g1 27 (by omega) (by omega)]; exact hF.1
      have hth : sStock_isThere (nI i) m = some (if m 44 i = 0 then 1 else 0) := isThereX (by rw [g1 40 (by omega) (by omega)]; exact hs.1) hf hi
      rw [g1 44 (by omega) (by omega), t4] at hth
      simp only [nI_is0 (show f i ≤ 1000 by omega)] at hth
      have hcb : cnt f i ≤ i := ctb_n _ i
      show ∃ s', LLayer_lookAtFoods_7_105 N (nI n) (nI (min (cnt f i) z)) (nI (smN e i)) (nI i) m = some (.inl s') ∧ _
      by_cases c0 : f i = 0
      · rw [if_pos c0] at hth
        by_cases cz : z ≤ cnt f i
        · have ei : e i = lc i (c i) := by rw [hei, if_pos ⟨c0, cz⟩]
          refine ⟨(nI (min (cnt f (i + 1)) z), nI (smN e (i + 1)), nI (i + 1), m), ?_, m, rfl, g1, fun g hg => ?_, fun p g hp hg => ?_⟩
          · unfold LLayer_lookAtFoods_7_105
            rw [h27, if_neg (by rw [nIle (by omega) (by omega)]; omega), hth, some_bind, i10, kindX (by omega), some_bind, cellX (by omega), some_bind, g1 41 (by omega) (by omega), g1 42 (by omega) (by omega), g1 66 (by omega) (by omega), h66, t1, t2, if_neg (by rw [nIlt (by omega) (by omega)]; omega), coin m i (c i) g1 hi s2, some_bind, nI_add, ltI_u, ltI_u, nI_s, cnt_T c0, show min (cnt f i + 1) z = min (cnt f i) z by omega, smN_s, ei]
          · rw [g2 g hg, ctb_F (n := i) (by simp [cz])]
          · rw [cnt_T c0] at hp
            exact g3 p g (by omega) hg
        · have ei : e i = 0 := by rw [hei, if_neg (fun x => cz x.2)]
          have emin : min (cnt f i) z = cnt f i := by omega
          have g68 := g2 (c i) s2
          obtain ⟨v1, hv1⟩ : ∃ v1, v1 = d (c i) - ctb (fun j => decide (f j = 0 ∧ c j = c i)) fn + ctb (fun j => decide (f j = 0 ∧ ¬ z ≤ cnt f j ∧ c j = c i)) i := ⟨_, rfl⟩
          rw [← hv1] at g68
          obtain ⟨m2, x1, x2, x3, x4⟩ := itr_i (f := fun y : Int32 × Mm => LLayer_lookAtFoods_119_98 N (nI n) (nI (cnt f i)) (nI i) (nI (k i)) y.1 y.2)
            (fun g s => ∃ m', s = (nI g, m') ∧ (∀ r, r ≠ 67 → m' r = mset m 68 (c i) (nI (v1 + 1)) r) ∧ (∀ j, j < 6 * cnt f i → m' 67 j = m 67 j) ∧ ∀ g', g' < g → m' 67 (6 * cnt f i + g') = nI (lc i g'))
            (fun m' => (∀ r, r ≠ 67 → m' r = mset m 68 (c i) (nI (v1 + 1)) r) ∧ (∀ j, j < 6 * cnt f i → m' 67 j = m 67 j) ∧ ∀ g', g' < cn → m' 67 (6 * cnt f i + g') = nI (lc i g')) cn (s := (0, mset m 68 (c i) (nI (v1 + 1)))) (N := N)
            ⟨_, rfl, fun _ _ => rfl, fun j hj => by rw [mset_ne _ _ _ (by omega)], fun g' hg' => absurd hg' (by omega)⟩ (fun g s hg hPg => by
              obtain ⟨m', rfl, y1, y2, y3⟩ := hPg
              have ym : ∀ r, r ≠ 67 → r ≠ 68 → m' r = M r := fun r r1 r2 => by rw [y1 r r1, mset_ne _ _ _ r2]; exact g1 r r1 r2
              refine ⟨(nI (g + 1), mset m' 67 (6 * cnt f i + g) (nI (lc i g))), ?_, _, rfl, fun r hr => by rw [mset_ne _ _ _ hr]; exact y1 r hr, fun j hj => by rw [mset_eq, upd_ne _ _ (by omega)]; exact y2 j hj, fun g' hg' => ?_⟩
              · show LLayer_lookAtFoods_119_98 N (nI n) (nI (cnt f i)) (nI i) (nI (k i)) (nI g) m' = _
                unfold LLayer_lookAtFoods_119_98
                rw [ym 23 (by omega) (by omega), hv.1, if_neg (by rw [nIle (by omega) (by omega)]; omega), coin m' i g ym hi hg, some_bind, show (6 : Int32) = nI 6 from rfl, pk_mul, nI_add, show cnt f i * 6 + g = 6 * cnt f i + g by omega, putf_n (by omega) (by omega), ltM_u, ltI_u, nI_s]
              · rw [mset_eq]
                by_cases cg : g' = g
                · subst cg; rw [upd_eq]
                · rw [upd_ne _ _ (by omega)]; exact y3 g' (by omega)) (fun s hPg => by
              obtain ⟨m', rfl, y1, y2, y3⟩ := hPg
              refine ⟨m', ?_, y1, y2, y3⟩
              show LLayer_lookAtFoods_119_98 N (nI n) (nI (cnt f i)) (nI i) (nI (k i)) (nI cn) m' = _
              unfold LLayer_lookAtFoods_119_98
              rw [y1 23 (by omega), mset_ne _ _ _ (by omega), g1 23 (by omega) (by omega), hv.1, if_pos (by rw [nIle (by omega) (by omega)]; omega)]) (by omega)
          have x1' : itr (fun y : Int32 × Mm => LLayer_lookAtFoods_119_98 N (nI n) (nI (cnt f i)) (nI i) (nI (k i)) y.1 y.2) N (0, mset m 68 (c i) (nI (v1 + 1))) = some m2 := x1
          refine ⟨(nI (min (cnt f (i + 1)) z), nI (smN e (i + 1)), nI (i + 1), m2), ?_, m2, rfl, fun r r1 r2 => by rw [x2 r r1, mset_ne _ _ _ r2]; exact g1 r r1 r2, fun g hg => ?_, fun p g hp hg => ?_⟩
          · unfold LLayer_lookAtFoods_7_105
            rw [h27, if_neg (by rw [nIle (by omega) (by omega)]; omega), hth, some_bind, i10, kindX (by omega), some_bind, cellX (by omega), some_bind, g1 41 (by omega) (by omega), g1 42 (by omega) (by omega), g1 66 (by omega) (by omega), h66, t1, t2, emin, if_pos (by rw [nIlt (by omega) (by omega)]; omega), atf_n (by omega) (by omega), g68, nI_s, putf_n (by omega) (by omega), ltM_u, x1', some_bind, ltI_u, ltI_u, nI_s, nI_s, cnt_T c0, show min (cnt f i + 1) z = cnt f i + 1 by omega, smN_s, ei, add0 (smN e i)]
          · rw [x2 68 (by omega), mset_eq]
            by_cases cg : g = c i
            · subst cg
              rw [upd_eq, hv1, ctb_T (n := i) (decide_eq_true ⟨c0, cz, rfl⟩)]
              rfl
            · rw [upd_ne _ _ cg, g2 g hg, ctb_F (n := i) (by simp; exact fun _ _ q => cg q.symm)]
          · rw [cnt_T c0] at hp
            by_cases cp : p = cnt f i
            · subst cp
              rw [x4 g hg, xs_eq hi c0]
            · rw [x3 _ (by omega)]
              exact g3 p g (by omega) hg
      · rw [if_neg c0] at hth
        have ei : e i = 0 := by rw [hei, if_neg (fun x => c0 x.1)]
        refine ⟨(nI (min (cnt f (i + 1)) z), nI (smN e (i + 1)), nI (i + 1), m), ?_, m, rfl, g1, fun g hg => ?_, fun p g hp hg => ?_⟩
        · unfold LLayer_lookAtFoods_7_105
          rw [h27, if_neg (by rw [nIle (by omega) (by omega)]; omega), hth, some_bind, i00, ltI_u, nI_s, cnt_F c0, smN_s, ei, add0 (smN e i)]
        · rw [g2 g hg, ctb_F (n := i) (by simp [c0])]
        · rw [cnt_F c0] at hp
          exact g3 p g hp hg) (fun s hP => by
      obtain ⟨m, rfl, g1, g2, g3⟩ := hP
      refine ⟨_, ?_, m, rfl, g1, g2, g3⟩
      show LLayer_lookAtFoods_7_105 N (nI n) (nI (min (cnt f fn) z)) (nI (smN e fn)) (nI fn) m = _
      unfold LLayer_lookAtFoods_7_105
      rw [g1 27 (by omega) (by omega), hF.1, if_pos (by rw [nIle (by omega) (by omega)]; omega)]) (by omega)
  refine ⟨M', ?_, q2, fun g hg => ?_, q4⟩
  · show (itr (fun y : Int32 × Int32 × Int32 × Mm => LLayer_lookAtFoods_7_105 N (nI n) y.1 y.2.1 y.2.2.1 y.2.2.2) N (0, 0, 0, M)).bind _ = _
    rw [q1, some_bind]
  · have h1 := hin g hg
    have h2 := inn_split (f := f) (c := c) (z := z) (g := g) fn
    rw [q3 g hg]
    congr 1
    omega
end LX
