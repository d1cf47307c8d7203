/-! PURE PART 18: habit. By hand. -/
theorem smN_one {co : Nat → Nat} {p : Nat → Bool} {i : Nat} : ∀ {n : Nat}, i < n → smN (fun j => if (decide (j = i) && p j) = true then co j else 0) n = if p i = true then co i else 0
  | 0, h => absurd h (by omega)
  | n + 1, h => by
    rw [smN_s]
    by_cases c : i = n
    · subst c
      have z : smN (fun j => if (decide (j = i) && p j) = true then co j else 0) i = 0 := by
        have := smN_le (e := fun j => if (decide (j = i) && p j) = true then co j else 0) (b := 0) (n := i) fun j hj => by
          show (if (decide (j = i) && p j) = true then co j else 0) ≤ 0
          rw [decide_eq_false (show ¬ j = i by omega), Bool.false_and, if_neg (by decide)]
          omega
        omega
      rw [z, Nat.zero_add]
      show (if (decide (i = i) && p i) = true then co i else 0) = _
      rw [decide_eq_true rfl, Bool.true_and]
    · rw [smN_one (show i < n by omega)]
      show (if p i = true then co i else 0) + (if (decide (n = i) && p n) = true then co n else 0) = _
      rw [decide_eq_false (show ¬ n = i by omega), Bool.false_and, if_neg (show ¬ false = true by decide), Nat.add_zero]
theorem smN_zero {e : Nat → Nat} {n : Nat} (h : ∀ i, i < n → e i = 0) : smN e n = 0 := by
  have := smN_le (e := e) (b := 0) (n := n) fun i hi => by rw [h i hi]; omega
  omega
def allT : Nat → Nat → Bool := fun _ _ => true
theorem pick_all {p : Nat → Bool} {n : Nat} (h : p n = true) : pick p allT (n + 1) = some n := by
  cases e : pick p allT n with
  | none => exact pick_N h e
  | some b => rw [pick_S h e, if_pos (show allT n b = true from rfl)]
theorem highest_it {N : Nat} (p : Nat → Bool) {fn : Nat} (hf : fn ≤ 10) : ∀ n, n ≤ 10 → ∀ F, n < F → itr (fun z : Int32 => LEvenings_highestOf_3_6 N (nI (bt p fn)) z) F (nI n - 1) = some (match pick (fun i => decide (i < fn) && p i) allT n with | none => .inr () | some i => .inl (nI i))
  | 0, _, F, hF => by
    obtain ⟨F, rfl⟩ : ∃ m, F = m + 1 := ⟨F - 1, by omega⟩
    unfold itr
    have : LEvenings_highestOf_3_6 N (nI (bt p fn)) (nI 0 - 1) = some (.inr (.inr ())) := by
      unfold LEvenings_highestOf_3_6
      rw [if_pos (by decide)]
    rw [this]
    rfl
  | n + 1, hn, F, hF => by
    obtain ⟨F, rfl⟩ : ∃ m, F = m + 1 := ⟨F - 1, by omega⟩
    have e1 : nI (n + 1) - 1 = nI n := pk_sub (a := n + 1) (b := 1) (by omega)
    rw [e1]
    unfold itr
    by_cases c : (decide (n < fn) && p n) = true
    · have : LEvenings_highestOf_3_6 N (nI (bt p fn)) (nI n) = some (.inr (.inl (nI n))) := by
        unfold LEvenings_highestOf_3_6
        rw [if_neg (nI_pos (by omega)), hasBit_n (bt31 p hf) (by omega), bt_bit, if_pos c, some_bind, i10]
      rw [this, pick_all (p := fun i => decide (i < fn) && p i) c]
      rfl
    · have : LEvenings_highestOf_3_6 N (nI (bt p fn)) (nI n) = some (.inl (nI n - 1)) := by
        unfold LEvenings_highestOf_3_6
        rw [if_neg (nI_pos (by omega)), hasBit_n (bt31 p hf) (by omega), bt_bit, if_neg c, some_bind, i00, ltI_u, addm1]
      rw [this, pick_F (p := fun i => decide (i < fn) && p i) c]
      exact highest_it p hf n (by omega) F (by omega)
theorem highestX {N : Nat} (p : Nat → Bool) {fn : Nat} (hf : fn ≤ 10) (hN : 1000 < N) : sEvenings_highestOf N (nI (bt p fn)) = some (nI (bt (sgl (pick p allT fn)) fn)) := by
  have e : pick (fun i => decide (i < fn) && p i) allT 10 = pick p allT fn := by
    have h1 := pick_ext (p := fun i => decide (i < fn) && p i) (ol := allT) (n := fn) (10 - fn) (fun i h1 h2 => by
      show (decide (i < fn) && p i) = false
      rw [decide_eq_false (by omega), Bool.false_and])
    rw [show fn + (10 - fn) = 10 by omega] at h1
    rw [h1]
    exact pick_congr (fun i hi => by rw [decide_eq_true hi, Bool.true_and]) (fun _ _ _ _ _ _ => rfl)
  unfold sEvenings_highestOf
  rw [show (9 : Int32) = nI 10 - 1 from by decide, highest_it p hf 10 (by omega) N (by omega), e, ← sgl_n fun b hb => (pick_in hb).1, some_bind]
  cases ep : pick p allT fn with
  | none => rfl
  | some b =>
    have hb := pick_in ep
    show some (1 <<< (nI b &&& 31)) = some (nI (2 ^ b))
    rw [shOne (by omega)]
def mrk (F : Nat → Nat) (i : Nat) : Nat → Nat := fun j => if j = i then 1 else F j
def olR (rule : Nat) (A lim : Nat → Nat) : Nat → Nat → Bool := if rule = 0 then allT else olN A lim
section HA
variable {cn fn q hr b n h t : Nat} {w r d co li so k c a f A F lim : Nat → Nat} {M M' M0 : Mm} {N : Nat} {AG : Nat → Nat → Nat}
theorem isOlderR (hF : VRf M fn co li so) (hf : fn ≤ 10) (hk : ∀ i, i < fn → k i ≤ 3) (hs : VRs M 1 fn h k c A F) {i j : Nat} (hi : i < fn) (hj : j < fn) : sRef_isOlder (nI (10 + i)) (nI (10 + j)) M = some (if olN A (fun i => limN (k i) (li i)) i j = true then 1 else 0) := by
  obtain ⟨u1, u2, u3, u4⟩ := hs.2 i hi
  obtain ⟨v1, v2, v3, v4⟩ := hs.2 j hj
  rw [show 10 * 1 + i = 10 + i by omega] at u1 u2 u3 u4
  rw [show 10 * 1 + j = 10 + j by omega] at v1 v2 v3 v4
  have k1 := hk i hi
  have k2 := hk j hj
  unfold sRef_isOlder
  rw [rdc_n (by omega) (by omega), limR (by omega), some_bind, rdc_n (by omega) (by omega), limR (by omega), some_bind, show (10 + j) % 10 = j by omega, show (10 + i) % 10 = i by omega, u3, v3, u1, v1, (hF.2 i hi).2.1, (hF.2 j hj).2.1, limI_n (by omega), limI_n (by omega), olN_T (A := A) (lim := fun i => limN (k i) (li i))]
  by_cases c1 : olN A (fun i => limN (k i) (li i)) i j = true
  · rw [if_pos c1, if_pos c1]
  · rw [if_neg c1, if_neg c1]
theorem takenR (hF : VRf M fn co li so) (hf : fn ≤ 10) (hk : ∀ i, i < fn → k i ≤ 3) (hs : VRs M 1 fn h k c A F) (hF2 : ∀ i, i < fn → F i ≤ 2) (hN : 1000 < N) {rule : Nat} (hr1 : rule ≤ 1) : sRef_takenBy N (nI rule) M = some (eR (pick (fun i => decide (F i = 0)) (olR rule A (fun i => limN (k i) (li i))) fn)) := by
  unfold sRef_takenBy
  obtain ⟨p, hp⟩ : ∃ p : Nat → Bool, p = fun i => decide (F i = 0) := ⟨_, rfl⟩
  obtain ⟨ol, hol⟩ : ∃ ol, ol = olR rule A (fun i => limN (k i) (li i)) := ⟨_, rfl⟩
  rw [← hp, ← hol]
  refine itr_b (fun i => (eR (pick p ol i), nI (10 + i))) fn (r := eR (pick p ol fn)) rfl ?_ ?_ (by omega) rfl
  · intro i hi
    show LRef_takenBy_6_29 N (nI rule) M (eR (pick p ol i)) (nI (10 + i)) = some (.inl (eR (pick p ol (i + 1)), nI (10 + (i + 1))))
    have f2 := hF2 i hi
    have u4 := (hs.2 i hi).2.2.2
    rw [show 10 * 1 + i = 10 + i by omega] at u4
    have pi : p i = decide (F i = 0) := by rw [hp]
    unfold LRef_takenBy_6_29
    rw [rdc_0 (by omega) (by omega), hF.1, show (10 : Int32) = nI 10 from rfl, nI_add, if_neg (by rw [nIle (by omega) (by omega)]; omega), rdc_n (by omega) (by omega), u4, show 10 + (i + 1) = 10 + i + 1 by omega]
    simp only [nI_is0 (show F i ≤ 1000 by omega)]
    by_cases c0 : F i = 0
    · have c0' : p i = true := by rw [pi]; exact decide_eq_true c0
      rw [if_pos c0]
      cases ep : pick p ol i with
      | none =>
        rw [pick_N c0' ep, if_pos (show eR none < 0 from by decide), ltI_u, nI_s]
        rfl
      | some j =>
        have hj := pick_in ep
        rw [pick_S c0' ep, if_neg (show ¬ eR (some j) < 0 from nI_pos (by omega)), show eR (some j) = nI (10 + j) from rfl, isOlderR hF hf hk hs hi (by omega), some_bind]
        simp only [nI_is0 (show rule ≤ 1000 by omega)]
        by_cases cr : rule = 0
        · rw [if_pos cr, ltI_u, nI_s, if_pos (show ol i j = true by rw [hol]; unfold olR; rw [if_pos cr]; rfl)]
          rfl
        · have eo : ol i j = olN A (fun i => limN (k i) (li i)) i j := by rw [hol]; unfold olR; rw [if_neg cr]
          rw [if_neg cr, eo]
          by_cases c1 : olN A (fun i => limN (k i) (li i)) i j = true
          · rw [if_pos c1, i10, if_pos c1, ltI_u, nI_s]; rfl
          · rw [if_neg c1, i00, if_neg c1, ltI_u, nI_s]; rfl
    · have c0' : ¬ p i = true := by rw [pi]; simp [c0]
      rw [if_neg c0, pick_F c0', ltI_u, nI_s]
  · show LRef_takenBy_6_29 N (nI rule) M (eR (pick p ol fn)) (nI (10 + fn)) = _
    unfold LRef_takenBy_6_29
    rw [rdc_0 (by omega) (by omega), hF.1, show (10 : Int32) = nI 10 from rfl, nI_add, if_pos (by rw [nIle (by omega) (by omega)]; omega)]
theorem EvR_eat (h0 : EvR M0 M fn q hr t w r k c a F A) (hf : fn ≤ 10) {i : Nat} (hi : i < fn) : EvR M0 (mset M 25 (10 + i) 1) fn q hr t w r k c a (mrk F i) A := by
  obtain ⟨e1, e2, e3⟩ := h0
  refine ⟨fun r j h1 h2 => ?_, ⟨by rw [mset_ne _ _ _ (by omega)]; exact e2.1, fun j hj => ?_⟩, fun j hj => ?_⟩
  · by_cases h25 : r = 25
    · subst h25; rw [mset_eq, upd_ne _ _ (by omega)]; exact e1 25 j h1 h2
    · rw [mset_ne _ _ _ h25]; exact e1 r j h1 h2
  · obtain ⟨u1, u2, u3, u4⟩ := e2.2 j hj
    rw [mset_eq, mset_ne _ _ _ (show (22 : Nat) ≠ 25 by omega), mset_ne _ _ _ (show (23 : Nat) ≠ 25 by omega), mset_ne _ _ _ (show (24 : Nat) ≠ 25 by omega)]
    refine ⟨u1, u2, u3, ?_⟩
    unfold mrk
    by_cases hij : j = i
    · subst hij; rw [show 10 * 1 + j = 10 + j by omega, upd_eq, if_pos rfl]; rfl
    · rw [upd_ne _ _ (by omega), if_neg hij]; exact u4
  · obtain ⟨x1, x2, x3⟩ := e3 j hj
    refine ⟨?_, x2, fun h => ?_⟩
    · unfold mrk; split <;> omega
    · unfold mrk at h
      by_cases hij : j = i
      · rw [if_pos hij] at h; omega
      · rw [if_neg hij] at h; exact x3 h
end HA
theorem step1k {x y e : Nat} (h : y ≤ e * 1000) (hx : x ≤ 1000) : y + x ≤ (e + 1) * 1000 := by omega
theorem add0 (x : Nat) : x + 0 = x := rfl
theorem in0_9999 (a : Int32) : sRef_in (Int32.toInt64 a) 0 9999 = sOff_isWithin a 0 9999 := in_eq a 0 9999
theorem in1_20 (a : Int32) : sRef_in (Int32.toInt64 a) 1 20 = sOff_isWithin a 1 20 := in_eq a 1 20
theorem mrk_set {F : Nat → Nat} {i fn : Nat} : bt (fun j => decide (F j = 0) && !(sgl (some i)) j) fn = bt (fun j => decide (mrk F i j = 0)) fn := by
  refine btP_ext fun j hj => ?_
  show (decide (F j = 0) && !(decide (j = i))) = decide ((if j = i then 1 else F j) = 0)
  by_cases c : j = i
  · rw [if_pos c, decide_eq_true c, decide_eq_false (show ¬ 1 = 0 by omega)]; simp
  · rw [if_neg c, decide_eq_false c]; simp
theorem ok_habit {N : Nat} (hN : 1000 < N) : Ok_habit Rel N := by
  intro a1 a2 a3 MX MR h
  obtain ⟨cn, fn, q, hr, w, r, d, co, li, so, k, c, a, f, bC, bF, bS, xC, xF, xS, rC, rF, rS⟩ := Rel_view h
  have hf := bF.2.1
  have hh := bS.1
  by_cases hw : (0 : Int32).toInt ≤ a1.toInt ∧ a1.toInt ≤ (9999 : Int32).toInt
  · by_cases hw2 : (1 : Int32).toInt ≤ a2.toInt ∧ a2.toInt ≤ (20 : Int32).toInt
    · by_cases hw3 : (0 : Int32).toInt ≤ a3.toInt ∧ a3.toInt ≤ (1 : Int32).toInt
      · have w21 : (1 : Int) ≤ a2.toInt := hw2.1
        have w22 : a2.toInt ≤ (20 : Int) := hw2.2
        have w31 : (0 : Int) ≤ a3.toInt := hw3.1
        have w32 : a3.toInt ≤ (1 : Int) := hw3.2
        obtain ⟨n, hn, rfl⟩ := nI_ofRange (n := 21) (a := a2) (by omega) (by omega) (by omega)
        obtain ⟨rule, hrule, rfl⟩ := nI_ofRange (n := 2) (a := a3) (by omega) (by omega) (by omega)
        rw [nI_t (by omega)] at w21
        obtain ⟨M1, l0, l1⟩ := lookX xC bC xS xF bF bS hN (n := n) (by omega)
        have l1' := l1
        obtain ⟨g1, g2, g3⟩ := l1'
        have x7 : M1 27 7 = nI fn := by rw [g1 27 (by omega) (by omega) (by omega)]; exact xF.1
        have xF1 : VXf M1 fn co li so := by
          unfold VXf
          rw [g1 27 (by omega) (by omega) (by omega), g1 30 (by omega) (by omega) (by omega), g1 31 (by omega) (by omega) (by omega), g1 33 (by omega) (by omega) (by omega)]
          exact xF
        have b0 : sStock_bitsThere N M1 = some (nI (bt (fun i => decide (f i = 0)) fn)) := by
          rw [bitsX (M := M1) (by rw [g1 40 (by omega) (by omega) (by omega)]; exact xS.1) hf hN]
          congr 2
          refine btP_ext fun i hi => ?_
          obtain ⟨s1, s2, s3, s4⟩ := bS.2 i hi
          rw [g1 44 (by omega) (by omega) (by omega), (xS.2.2 i hi).2.2.2]
          simp only [nI_is0 (show f i ≤ 1000 by omega)]
        obtain ⟨m1, c1, c2, c3⟩ := copy01 hN hf rS
        have hkc : ∀ i, i < fn → k i ≤ 3 ∧ c i < cn := fun i hi => ⟨(bS.2 i hi).1, (bS.2 i hi).2.1⟩
        have E0 : EvR MR m1 fn q hr (tE hr 0) w r k c a f a := ⟨c2, c3, fun i hi => ⟨(bS.2 i hi).2.2.2, (bS.2 i hi).2.2.1, fun _ => by
          show a i = a i + agN (k i) (w (c i)) (r (c i)) q hr 0
          rw [agN_0]; rfl⟩⟩
        obtain ⟨rx, rr, p1, p2, F, A, cost, M', rfl, rfl, p3, p4⟩ := itr_t (f := fun z : Int32 × Int32 × Int32 => LEvenings_costOfHabit_23_52 N a1 (nI n) (nI rule) M1 z.1 z.2.1 z.2.2) (g := fun z : Int32 × Int32 × Mm => LRef_habit_48_62 N a1 (nI n) (nI rule) z.1 z.2.1 z.2.2)
          (fun e s t => ∃ (F A : Nat → Nat) (cost : Nat) (M' : Mm), s = (nI (bt (fun i => decide (F i = 0)) fn), nI cost, nI e) ∧ t = (nI cost, nI e, M') ∧ EvR MR M' fn q hr (tE hr e) w r k c a F A ∧ cost ≤ e * 1000)
          (fun s t => ∃ (F A : Nat → Nat) (cost : Nat) (M' : Mm), s = (nI (bt (fun i => decide (F i = 0)) fn), nI cost) ∧ t = (nI cost, M') ∧ EvR MR M' fn q hr (tE hr n) w r k c a F A ∧ cost ≤ n * 1000) n (s := (nI (bt (fun i => decide (f i = 0)) fn), 0, 0)) (t := (0, 0, m1)) (N := N)
          ⟨f, a, 0, m1, rfl, rfl, E0, by omega⟩ (fun e s t he hP => by
            obtain ⟨F, A, cost, M', rfl, rfl, p3, p4⟩ := hP
            obtain ⟨M3, A3, y1, y2⟩ := EvR_next rC bC rF bF hkc hN hh (show e ≤ 20 by omega) p3
            obtain ⟨M2, z1, z2⟩ := bnd_e y1
            have ete : tE hr (e + 1) = fst18 hr + e * 24 := by unfold tE; rw [if_neg (by omega)]; rfl
            obtain ⟨o1, o2⟩ := g3 e he
            have xo : sEvenings_offOn (nI e) M1 = some (nI (bt (fun i => decide (limN (k i) (li i) ≤ agT q hr w r k c a (fst18 hr + e * 24) i)) fn)) := by
              unfold sEvenings_offOn
              rw [atf_n (by omega) (by omega), o1]
            have hstop : ∀ i, i < fn → LEvenings_costOfHabit_23_52 N a1 (nI n) (nI rule) M1 (nI (bt (fun i => decide (F i = 0)) fn)) (nI cost) (nI e) = LEvenings_costOfHabit_23_52 N a1 (nI n) (nI rule) M1 (nI (bt (fun i => decide (F i = 0)) fn)) (nI cost) (nI e) := fun _ _ => rfl
            show ∃ s' t', LEvenings_costOfHabit_23_52 N a1 (nI n) (nI rule) M1 (nI (bt (fun i => decide (F i = 0)) fn)) (nI cost) (nI e) = some (.inl s') ∧ LRef_habit_48_62 N a1 (nI n) (nI rule) (nI cost) (nI e) M' = some (.inl t') ∧ _
            by_cases hq : lg_cmp (remL (remL ((((7919 * (Int32.toInt64 a1)) + (6151 * (Int32.toInt64 (nI e)))) + 1) * (((7919 * (Int32.toInt64 a1)) + (6151 * (Int32.toInt64 (nI e)))) + 1)) 65521) 3) 0 = 0
            · refine ⟨(nI (bt (fun i => decide (F i = 0)) fn), nI cost, nI (e + 1)), (nI cost, nI (e + 1), M3), ?_, ?_, F, A3, cost, M3, rfl, rfl, by rw [ete]; exact y2, step1k (x := 0) p4 (by omega)⟩
              · unfold LEvenings_costOfHabit_23_52 sEvenings_isOneTaken
                rw [if_neg (by rw [nIle (by omega) (by omega)]; omega), ltL_u, if_pos hq, some_bind, i00, ltI_u, nI_s]
              · unfold LRef_habit_48_62
                rw [if_neg (by rw [nIle (by omega) (by omega)]; omega), z1, some_bind, z2, some_bind, ltL_u, if_pos hq, some_bind, if_pos (by decide), ltI_u, nI_s]
            · -- one is taken
              have hT := takenR (rF.scr y2.1) hf (fun i hi => (hkc i hi).1) y2.2.1 (fun i hi => (y2.2.2 i hi).1) hN (show rule ≤ 1 by omega)
              have ep : pick (fun i => decide (F i = 0)) (olR rule A3 (fun i => limN (k i) (li i))) fn = pick (fun i => decide (F i = 0)) (olR rule (agT q hr w r k c a (fst18 hr + e * 24)) (fun i => limN (k i) (li i))) fn := by
                refine pick_congr (fun _ _ => rfl) fun i b hi hb pi pb => ?_
                unfold olR
                by_cases cr : rule = 0
                · rw [if_pos cr, if_pos cr]
                · rw [if_neg cr, if_neg cr]
                  unfold olN
                  rw [(y2.2.2 i hi).2.2 (of_decide_eq_true pi), (y2.2.2 b hb).2.2 (of_decide_eq_true pb)]
              rw [ep] at hT
              generalize hτ : pick (fun i => decide (F i = 0)) (olR rule (agT q hr w r k c a (fst18 hr + e * 24)) (fun i => limN (k i) (li i))) fn = τ at hT
              have ex : (((if nI rule = 0 then (sEvenings_highestOf N (nI (bt (fun i => decide (F i = 0)) fn))).bind fun zv46 => some zv46 else (sEvenings_oldestOn N (nI e) (nI (bt (fun i => decide (F i = 0)) fn)) M1).bind fun zv45 => some zv45) : Option (Int32))) = some (nI (bt (sgl τ) fn)) := by
                simp only [nI_is0 (show rule ≤ 1000 by omega)]
                by_cases cr : rule = 0
                · rw [if_pos cr, highestX _ hf hN, some_bind, ← hτ]
                  unfold olR
                  rw [if_pos cr]
                · rw [if_neg cr, oldestX l1 x7 hf hN he (by omega), some_bind, ← hτ]
                  unfold olR
                  rw [if_neg cr]
              have exx : LEvenings_costOfHabit_23_52 N a1 (nI n) (nI rule) M1 (nI (bt (fun i => decide (F i = 0)) fn)) (nI cost) (nI e) = some (.inl (nI (bt (fun i => decide (F i = 0) && !(sgl τ) i) fn), nI (cost + smN (fun i => if (sgl τ i && decide (limN (k i) (li i) ≤ agT q hr w r k c a (fst18 hr + e * 24) i)) = true then co i else 0) fn), nI (e + 1))) := by
                unfold LEvenings_costOfHabit_23_52 sEvenings_isOneTaken
                rw [if_neg (by rw [nIle (by omega) (by omega)]; omega), ltL_u, if_neg hq, some_bind, i10, ex, some_bind, xo, some_bind, bt_and _ _ hf, coinAllX xF1 bF hN, some_bind, nI_add, ltI_u, bt_dif _ _ hf, ltI_u, ltI_u, nI_s]
              rw [exx]
              cases τ with
              | none =>
                have eb : bt (fun i => decide (F i = 0) && !(sgl none) i) fn = bt (fun i => decide (F i = 0)) fn := btP_ext fun i hi => by
                  show (decide (F i = 0) && !false) = _
                  rw [Bool.not_false, Bool.and_true]
                have es : smN (fun i => if (sgl none i && decide (limN (k i) (li i) ≤ agT q hr w r k c a (fst18 hr + e * 24) i)) = true then co i else 0) fn = 0 := smN_zero fun i hi => rfl
                rw [eb, es, Nat.add_zero]
                refine ⟨_, (nI cost, nI (e + 1), M3), rfl, ?_, F, A3, cost, M3, rfl, rfl, by rw [ete]; exact y2, step1k (x := 0) p4 (by omega)⟩
                unfold LRef_habit_48_62
                rw [if_neg (by rw [nIle (by omega) (by omega)]; omega), z1, some_bind, z2, some_bind, ltL_u, if_neg hq, hT, some_bind, some_bind, if_pos (show eR none < 0 from by decide), ltI_u, nI_s]
              | some i =>
                obtain ⟨hi, hpi⟩ := pick_in hτ
                have hFi : F i = 0 := of_decide_eq_true hpi
                obtain ⟨u1, u2, u3, u4⟩ := y2.2.1.2 i hi
                rw [show 10 * 1 + i = 10 + i by omega] at u1 u2 u3 u4
                obtain ⟨v1, v2, v3⟩ := y2.2.2 i hi
                have rF3 := rF.scr y2.1
                obtain ⟨k1, -⟩ := hkc i hi
                obtain ⟨q1, q2, q3, q4⟩ := bF.2.2 i hi
                have bl := limN_b (k := k i) q2 q3
                have hfst : fst18 hr < 24 := Nat.mod_lt _ (by omega)
                have es : smN (fun j => if (sgl (some i) j && decide (limN (k j) (li j) ≤ agT q hr w r k c a (fst18 hr + e * 24) j)) = true then co j else 0) fn = if limN (k i) (li i) ≤ A3 i then co i else 0 := by
                  have := smN_one (co := co) (p := fun j => decide (limN (k j) (li j) ≤ agT q hr w r k c a (fst18 hr + e * 24) j)) hi
                  rw [v3 hFi]
                  refine Eq.trans this ?_
                  by_cases cl : limN (k i) (li i) ≤ agT q hr w r k c a (fst18 hr + e * 24) i
                  · rw [if_pos (decide_eq_true cl), if_pos cl]
                  · rw [if_neg (by simp [cl]), if_neg cl]
                rw [mrk_set, es]
                have rhead : LRef_habit_48_62 N a1 (nI n) (nI rule) (nI cost) (nI e) M' = some (.inl (nI (cost + (if limN (k i) (li i) ≤ A3 i then co i else 0)), nI (e + 1), mset M3 25 (10 + i) 1)) := by
                  unfold LRef_habit_48_62
                  rw [if_neg (by rw [nIle (by omega) (by omega)]; omega), z1, some_bind, z2, some_bind, ltL_u, if_neg hq, hT, some_bind, some_bind, show eR (some i) = nI (10 + i) from rfl, if_neg (nI_pos (by omega)), isOffR (by omega), some_bind, show (10 + i) % 10 = i by omega, u1, u3, (rF3.2 i hi).2.1]
                  unfold offI
                  rw [limI_n (by omega)]
                  by_cases cl : limN (k i) (li i) ≤ A3 i
                  · rw [if_neg (nI_nlt cl (by omega)), i10, if_pos cl, show (10 : Int32) = nI 10 from rfl, pk_sub (by omega), show 10 + i - 10 = i by omega, rdc_n (by omega) (by omega), (rF3.2 i hi).1, ltI_u, inc_n (by omega) (by omega), ltM_u, cl_n (by omega), ltI_u, nI_s, nI_add]
                  · rw [if_pos (nI_lt (by omega) (by omega)), i00, if_neg cl, ltI_u, inc_n (by omega) (by omega), ltM_u, cl_n (by omega), ltI_u, nI_s, add_z, add0 cost]
                rw [rhead]
                refine ⟨_, _, rfl, rfl, mrk F i, A3, _, _, rfl, rfl, by rw [ete]; exact EvR_eat y2 hf hi, step1k p4 (by split <;> omega)⟩) (fun s t hP => by
            obtain ⟨F, A, cost, M', rfl, rfl, p3, p4⟩ := hP
            refine ⟨_, _, ?_, ?_, F, A, cost, M', rfl, rfl, p3, p4⟩
            · show LEvenings_costOfHabit_23_52 N a1 (nI n) (nI rule) M1 (nI (bt (fun i => decide (F i = 0)) fn)) (nI cost) (nI n) = _
              unfold LEvenings_costOfHabit_23_52
              rw [if_pos (by rw [nIle (by omega) (by omega)]; omega)]
            · show LRef_habit_48_62 N a1 (nI n) (nI rule) (nI cost) (nI n) M' = _
              unfold LRef_habit_48_62
              rw [if_pos (by rw [nIle (by omega) (by omega)]; omega)]) (by omega)
        have etn : tE hr n = fst18 hr + (n - 1) * 24 := by unfold tE; rw [if_neg (by omega)]
        rw [etn] at p3
        obtain ⟨o1, o2⟩ := g3 (n - 1) (by omega)
        have hfst : fst18 hr < 24 := Nat.mod_lt _ (by omega)
        have rc := offCoinR (b := 1) (by omega) (rF.scr p3.1) bF hN (k := k) (f := F) (a := A) (fun i hi => by
          obtain ⟨u1, u2, u3, u4⟩ := p3.2.1.2 i hi
          obtain ⟨v1, v2, v3⟩ := p3.2.2 i hi
          exact ⟨(hkc i hi).1, v1, by omega, u1, u3, u4⟩)
        have es : smN (fun i => if (decide (F i = 0) && decide (limN (k i) (li i) ≤ agT q hr w r k c a (fst18 hr + (n - 1) * 24) i)) = true then co i else 0) fn = sOf F (fun i => limN (k i) (li i)) A co fn := by
          unfold sOf
          refine smN_congr fun i hi => ?_
          by_cases c0 : F i = 0
          · rw [decide_eq_true c0, Bool.true_and, ← (p3.2.2 i hi).2.2 c0]
            by_cases cl : limN (k i) (li i) ≤ A i
            · rw [if_pos (decide_eq_true cl), if_pos ⟨c0, cl⟩]
            · rw [if_neg (by simp [cl]), if_neg (fun z => cl z.2)]
          · rw [decide_eq_false c0, Bool.false_and, if_neg (by decide), if_neg (fun z => c0 z.1)]
        refine ⟨nI (cost + sOf F (fun i => limN (k i) (li i)) A co fn), M1, M', ?_, ?_, Rel_scr (Rel_scX h fun r hr => g1 r (by omega) (by omega) (by omega)) p3.1⟩
        · unfold sOff_habit sEvenings_costOfHabit
          rw [within_T hw.1 hw.2, some_bind, i10, within_T hw2.1 hw2.2, some_bind, i10, within_T hw3.1 hw3.2, some_bind, i10, l0, some_bind, b0, some_bind, p1, some_bind]
          show (((sEvenings_offOn (nI n - 1) M1).bind fun zv55 => (sFoods_coinOfAll_l N (nI (bt (fun i => decide (F i = 0)) fn) &&& zv55) M1).bind fun zv56 => some (nI cost + zv56, M1)).bind fun (zv4, zM5) => some (zv4, zM5)) = _
          rw [show nI n - 1 = nI (n - 1) from pk_sub (b := 1) (by omega)]
          unfold sEvenings_offOn
          rw [atf_n (by omega) (by omega), o1, some_bind, bt_and _ _ hf, coinAllX xF1 bF hN, some_bind, nI_add, es]
          rfl
        · unfold sRef_habit
          rw [in0_9999, within_T hw.1 hw.2, some_bind, i10, in1_20, within_T hw2.1 hw2.2, some_bind, i10, in01, within_T hw3.1 hw3.2, some_bind, i10, c1, some_bind]
          show (itr (fun z : Int32 × Int32 × Mm => LRef_habit_48_62 N a1 (nI n) (nI rule) z.1 z.2.1 z.2.2) N (0, 0, m1)).bind _ = _
          rw [p2, some_bind]
          show ((sRef_offCoin N (nI 1) M').bind fun zv65 => some (nI cost + zv65, M')) = _
          rw [rc, some_bind, nI_add]
      · refine ⟨-1, MX, MR, ?_, ?_, h⟩
        · unfold sOff_habit
          rw [within_T hw.1 hw.2, some_bind, i10, within_T hw2.1 hw2.2, some_bind, i10, within_F hw3]; rfl
        · unfold sRef_habit
          rw [in0_9999, within_T hw.1 hw.2, some_bind, i10, in1_20, within_T hw2.1 hw2.2, some_bind, i10, in01, within_F hw3]; rfl
    · refine ⟨-1, MX, MR, ?_, ?_, h⟩
      · unfold sOff_habit
        rw [within_T hw.1 hw.2, some_bind, i10, within_F hw2]; rfl
      · unfold sRef_habit
        rw [in0_9999, within_T hw.1 hw.2, some_bind, i10, in1_20, within_F hw2]; rfl
  · exact ⟨-1, MX, MR, by unfold sOff_habit; rw [within_F hw]; rfl, by unfold sRef_habit; rw [in0_9999, within_F hw]; rfl, h⟩
