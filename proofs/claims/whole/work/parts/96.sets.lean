/-! PURE PART 17: sets as bits; the pick of several; the class looks ahead at evenings; the reference goes there. By hand. -/
theorem btP_ext {p p' : Nat → Bool} {n : Nat} (h : ∀ i, i < n → p i = p' i) : bt p n = bt p' n := by
  apply Nat.eq_of_testBit_eq
  intro i
  rw [bt_bit, bt_bit]
  by_cases hi : i < n
  · rw [h i hi]
  · simp [hi]
theorem nI_xor {a b : Nat} (ha : a < 2 ^ 31) (hb : b < 2 ^ 31) : nI a ^^^ nI b = nI (a ^^^ b) := by
  apply Int32.toBitVec_inj.mp
  apply BitVec.eq_of_toNat_eq
  rw [pk_tn (Nat.lt_trans (Nat.xor_lt_two_pow ha hb) (by decide)), Int32.toBitVec_xor, BitVec.toNat_xor, pk_tn (by omega), pk_tn (by omega)]
theorem andn_x (x y : Int32) : x &&& (y ^^^ (-1)) = x ^^^ (x &&& y) := by
  apply Int32.toBitVec_inj.mp
  rw [Int32.toBitVec_and, Int32.toBitVec_xor, Int32.toBitVec_xor, Int32.toBitVec_and]
  have e : (-1 : Int32).toBitVec = BitVec.allOnes 32 := by decide
  rw [e]
  apply BitVec.eq_of_getLsbD_eq
  intro i hi
  rw [BitVec.getLsbD_and, BitVec.getLsbD_xor, BitVec.getLsbD_xor, BitVec.getLsbD_and, BitVec.getLsbD_allOnes, decide_eq_true hi]
  cases x.toBitVec.getLsbD i <;> cases y.toBitVec.getLsbD i <;> rfl
theorem bt31 (p : Nat → Bool) {n : Nat} (h : n ≤ 10) : bt p n < 2 ^ 31 := by have := bt_le p h; omega
theorem bt_and (p p' : Nat → Bool) {n : Nat} (h : n ≤ 10) : nI (bt p n) &&& nI (bt p' n) = nI (bt (fun i => p i && p' i) n) := by
  rw [nI_and (bt31 p h) (bt31 p' h)]
  congr 1
  apply Nat.eq_of_testBit_eq
  intro i
  rw [Nat.testBit_and, bt_bit, bt_bit, bt_bit]
  cases decide (i < n) <;> rfl
theorem bt_or (p p' : Nat → Bool) {n : Nat} (h : n ≤ 10) : nI (bt p n) ||| nI (bt p' n) = nI (bt (fun i => p i || p' i) n) := by
  rw [nI_or (bt31 p h) (bt31 p' h)]
  congr 1
  apply Nat.eq_of_testBit_eq
  intro i
  rw [Nat.testBit_or, bt_bit, bt_bit, bt_bit]
  cases decide (i < n) <;> rfl
theorem bt_dif (p p' : Nat → Bool) {n : Nat} (h : n ≤ 10) : nI (bt p n) &&& (nI (bt p' n) ^^^ (-1)) = nI (bt (fun i => p i && !p' i) n) := by
  have hlt : bt p n &&& bt p' n < 2 ^ 31 := Nat.lt_of_le_of_lt Nat.and_le_left (bt31 p h)
  rw [andn_x, nI_and (bt31 p h) (bt31 p' h), nI_xor (bt31 p h) hlt]
  congr 1
  apply Nat.eq_of_testBit_eq
  intro i
  rw [Nat.testBit_xor, Nat.testBit_and, bt_bit, bt_bit, bt_bit]
  cases decide (i < n) <;> cases p i <;> cases p' i <;> rfl
theorem bt_none {p : Nat → Bool} : ∀ {n : Nat}, (∀ i, i < n → p i = false) → bt p n = 0
  | 0, _ => rfl
  | n + 1, h => by rw [bt_F (by rw [h n (by omega)]; decide), bt_none fun i hi => h i (by omega)]
theorem bt_some {p : Nat → Bool} {n i : Nat} (hi : i < n) (h : p i = true) : 0 < bt p n := by
  have e := bt_bit p n i
  rw [decide_eq_true hi, h, Bool.and_self] at e
  by_cases c : bt p n = 0
  · rw [c, Nat.zero_testBit] at e
    exact absurd e (by decide)
  · omega
theorem bt_zero {p : Nat → Bool} {n : Nat} (h : bt p n = 0) : ∀ i, i < n → p i = false := fun i hi => by
  cases hp : p i
  · rfl
  · have := bt_some hi hp; omega
theorem bt_one {n i : Nat} (hi : i < n) : bt (fun j => decide (j = i)) n = 2 ^ i := by
  apply Nat.eq_of_testBit_eq
  intro j
  rw [bt_bit, Nat.testBit_two_pow]
  by_cases c : j = i
  · subst c; simp [hi]
  · simp [c]; omega
theorem hasBt (p : Nat → Bool) {n i : Nat} (h : n ≤ 10) (hi : i < n) : sOff_hasBit (nI (bt p n)) (nI i) = some (if p i = true then 1 else 0) := by
  rw [hasBit_n (bt31 p h) (by omega), bt_bit, decide_eq_true hi, Bool.true_and]
theorem hasBt_o (p : Nat → Bool) {n i : Nat} (h : n ≤ 10) (hi : ¬ i < n) (h30 : i < 30) : sOff_hasBit (nI (bt p n)) (nI i) = some 0 := by
  rw [hasBit_n (bt31 p h) h30, bt_bit, decide_eq_false hi, Bool.false_and]
  rfl
-- the pick
def pick (p : Nat → Bool) (ol : Nat → Nat → Bool) : Nat → Option Nat
  | 0 => none
  | n + 1 => if p n = true then (match pick p ol n with
    | none => some n
    | some b => if ol n b = true then some n else some b) else pick p ol n
theorem pick_F {p : Nat → Bool} {ol : Nat → Nat → Bool} {n : Nat} (h : ¬ p n = true) : pick p ol (n + 1) = pick p ol n := if_neg h
theorem pick_N {p : Nat → Bool} {ol : Nat → Nat → Bool} {n : Nat} (h : p n = true) (e : pick p ol n = none) : pick p ol (n + 1) = some n := by
  unfold pick; rw [if_pos h, e]
theorem pick_S {p : Nat → Bool} {ol : Nat → Nat → Bool} {n b : Nat} (h : p n = true) (e : pick p ol n = some b) : pick p ol (n + 1) = if ol n b = true then some n else some b := by
  show (if p n = true then (match pick p ol n with | none => some n | some b => if ol n b = true then some n else some b) else pick p ol n) = _
  rw [if_pos h, e]
theorem pick_in {p : Nat → Bool} {ol : Nat → Nat → Bool} : ∀ {n b : Nat}, pick p ol n = some b → b < n ∧ p b = true
  | 0, _, h => absurd h (by unfold pick; exact fun q => by cases q)
  | n + 1, b, h => by
    by_cases c : p n = true
    · cases e : pick p ol n with
      | none =>
        rw [pick_N c e] at h
        cases h
        exact ⟨by omega, c⟩
      | some b' =>
        rw [pick_S c e] at h
        by_cases c2 : ol n b' = true
        · rw [if_pos c2] at h
          cases h
          exact ⟨by omega, c⟩
        · rw [if_neg c2] at h
          cases h
          have := pick_in e
          exact ⟨by omega, this.2⟩
    · rw [pick_F c] at h
      have := pick_in h
      exact ⟨by omega, this.2⟩
theorem pick_none {p : Nat → Bool} {ol : Nat → Nat → Bool} : ∀ {n : Nat}, pick p ol n = none → ∀ i, i < n → p i = false
  | 0, _, i, hi => absurd hi (by omega)
  | n + 1, h, i, hi => by
    by_cases c : p n = true
    · cases e : pick p ol n with
      | none => rw [pick_N c e] at h; cases h
      | some b' =>
        rw [pick_S c e] at h
        by_cases c2 : ol n b' = true
        · rw [if_pos c2] at h; cases h
        · rw [if_neg c2] at h; cases h
    · rw [pick_F c] at h
      by_cases hn : i = n
      · subst hn; cases hp : p i
        · rfl
        · exact absurd hp c
      · exact pick_none h i (by omega)
theorem pick_congr {p p' : Nat → Bool} {ol ol' : Nat → Nat → Bool} : ∀ {n : Nat}, (∀ i, i < n → p i = p' i) → (∀ i b, i < n → b < n → p i = true → p b = true → ol i b = ol' i b) → pick p ol n = pick p' ol' n
  | 0, _, _ => rfl
  | n + 1, h, h2 => by
    have ih := pick_congr (p := p) (p' := p') (ol := ol) (ol' := ol') (n := n) (fun i hi => h i (by omega)) (fun i b hi hb => h2 i b (by omega) (by omega))
    have hn := h n (by omega)
    by_cases c : p n = true
    · have c' : p' n = true := hn ▸ c
      cases e : pick p ol n with
      | none => rw [pick_N c e, pick_N c' (ih ▸ e)]
      | some b =>
        have hb := pick_in e
        rw [pick_S c e, pick_S c' (ih ▸ e), h2 n b (by omega) (by omega) c hb.2]
    · rw [pick_F c, pick_F (hn ▸ c), ih]
theorem pick_ext {p : Nat → Bool} {ol : Nat → Nat → Bool} {n : Nat} : ∀ m, (∀ i, n ≤ i → i < n + m → p i = false) → pick p ol (n + m) = pick p ol n
  | 0, _ => rfl
  | m + 1, h => by
    rw [← Nat.add_assoc, pick_F (by rw [h (n + m) (by omega) (by omega)]; decide), pick_ext m fun i h1 h2 => h i h1 (by omega)]
def eX : Option Nat → Int32
  | none => -4
  | some i => nI i
def eR : Option Nat → Int32
  | none => -4
  | some i => nI (10 + i)
def sgl : Option Nat → (Nat → Bool)
  | none => fun _ => false
  | some i => fun j => decide (j = i)
def sgv : Option Nat → Int32
  | none => 0
  | some i => nI (2 ^ i)
theorem sgl_n {o : Option Nat} {n : Nat} (h : ∀ b, o = some b → b < n) : sgv o = nI (bt (sgl o) n) := by
  cases o with
  | none => rw [bt_none (p := sgl none) fun i _ => rfl]; rfl
  | some i => exact congrArg nI (bt_one (h i rfl)).symm
/-- older: by the products, in longs -/
def olN (A lim : Nat → Nat) (i b : Nat) : Bool := decide (¬ lg_cmp (Int32.toInt64 (nI (A i)) * Int32.toInt64 (nI (lim b))) (Int32.toInt64 (nI (A b)) * Int32.toInt64 (nI (lim i))) ≤ 0)
theorem olN_T {A lim : Nat → Nat} {i b : Nat} {α : Type} {x y : α} : (if lg_cmp (Int32.toInt64 (nI (A i)) * Int32.toInt64 (nI (lim b))) (Int32.toInt64 (nI (A b)) * Int32.toInt64 (nI (lim i))) ≤ 0 then x else y) = if olN A lim i b = true then y else x := by
  unfold olN
  by_cases c : lg_cmp (Int32.toInt64 (nI (A i)) * Int32.toInt64 (nI (lim b))) (Int32.toInt64 (nI (A b)) * Int32.toInt64 (nI (lim i))) ≤ 0
  · rw [if_pos c, if_neg (by simp [c])]
  · rw [if_neg c, if_pos (by simp [c])]
/-- what the class' lookAhead leaves -/
def LAx (M M' : Mm) (fn n first : Nat) (lim : Nat → Nat) (AG : Nat → Nat → Nat) : Prop := (∀ r, r ≠ 60 → r ≠ 61 → r ≠ 62 → M' r = M r) ∧ (∀ i, i < fn → M' 61 i = nI (lim i)) ∧ ∀ e, e < n → M' 62 e = nI (bt (fun i => decide (lim i ≤ AG (first + e * 24) i)) fn) ∧ ∀ i, i < fn → M' 60 (10 * e + i) = nI (AG (first + e * 24) i)
def agT (q hr : Nat) (w r k c a : Nat → Nat) (t : Nat) : Nat → Nat := fun i => a i + agN (k i) (w (c i)) (r (c i)) q hr t
def fst18 (hr : Nat) : Nat := (42 - hr % 24) % 24
section SE
variable {cn fn q hr b n h t : Nat} {w r d co li so k c a f A F lim : Nat → Nat} {M M' M0 : Mm} {N : Nat} {AG : Nat → Nat → Nat}
theorem coinAllX (hF : VXf M fn co li so) (hBF : BF fn co li so) (hN : 1000 < N) (p : Nat → Bool) : sFoods_coinOfAll_l N (nI (bt p fn)) M = some (nI (smN (fun i => if p i = true then co i else 0) fn)) := by
  have hf := hBF.2.1
  unfold sFoods_coinOfAll_l
  generalize he : (fun i => if p i = true then co i else 0) = e
  refine itr_b (fun i => (nI (smN e i), nI i)) fn (r := nI (smN e fn)) rfl ?_ ?_ (by omega) rfl
  · intro i hi
    show LFoods_coinOfAll_l_4_13 N (nI (bt p fn)) M (nI (smN e i)) (nI i) = some (.inl (nI (smN e (i + 1)), nI (i + 1)))
    unfold LFoods_coinOfAll_l_4_13
    have ei : e i = if p i = true then co i else 0 := by rw [← he]
    rw [hF.1, if_neg (by rw [nIle (by omega) (by omega)]; omega), hasBt p hf hi, some_bind, smN_s, ei]
    by_cases c0 : p i = true
    · rw [if_pos c0, i10, if_pos c0, atf_n (by omega) (by omega), (hF.2 i hi).1, ltI_u, ltI_u, nI_s, nI_add]
    · rw [if_neg c0, i00, if_neg c0, ltI_u, nI_s]; rfl
  · show LFoods_coinOfAll_l_4_13 N (nI (bt p fn)) M (nI (smN e fn)) (nI fn) = _
    unfold LFoods_coinOfAll_l_4_13
    rw [hF.1, if_pos (by rw [nIle (by omega) (by omega)]; omega)]
theorem oldestX (hL : LAx M0 M fn n h lim AG) (h7 : M 27 7 = nI fn) (hf : fn ≤ 10) (hN : 1000 < N) {e : Nat} (he : e < n) (hn : n ≤ 20) (p : Nat → Bool) : sEvenings_oldestOn N (nI e) (nI (bt p fn)) M = some (nI (bt (sgl (pick p (olN (AG (h + e * 24)) lim) fn)) fn)) := by
  obtain ⟨l1, l2, l3⟩ := hL
  obtain ⟨l4, l5⟩ := l3 e he
  unfold sEvenings_oldestOn
  refine itr_b (fun i => (eX (pick p (olN (AG (h + e * 24)) lim) i), nI i)) fn (r := eX (pick p (olN (AG (h + e * 24)) lim) fn)) rfl ?_ ?_ (by omega) ?_
  · intro i hi
    show LEvenings_oldestOn_6_19 N (nI e) (nI (bt p fn)) M (eX (pick p (olN (AG (h + e * 24)) lim) i)) (nI i) = some (.inl (eX (pick p (olN (AG (h + e * 24)) lim) (i + 1)), nI (i + 1)))
    unfold LEvenings_oldestOn_6_19
    rw [h7, if_neg (by rw [nIle (by omega) (by omega)]; omega), hasBt p hf hi, some_bind]
    by_cases c0 : p i = true
    · rw [if_pos c0, i10]
      cases ep : pick p (olN (AG (h + e * 24)) lim) i with
      | none =>
        rw [pick_N c0 ep, if_pos (show eX none < 0 from by decide), ltI_u, nI_s]
        rfl
      | some b =>
        have hb := pick_in ep
        have ho : sEvenings_isOlderOn (nI e) (nI i) (nI b) M = some (if olN (AG (h + e * 24)) lim i b = true then 1 else 0) := by
          unfold sEvenings_isOlderOn
          rw [show (10 : Int32) = nI 10 from rfl, pk_mul, nI_add, nI_add, show e * 10 + i = 10 * e + i by omega, show e * 10 + b = 10 * e + b by omega, atf_n (by omega) (by omega), atf_n (by omega) (by omega), atf_n (by omega) (by omega), atf_n (by omega) (by omega), l2 i hi, l2 b (by omega), l5 i hi, l5 b (by omega), ltL_u, ltL_u, olN_T]
          by_cases c1 : olN (AG (h + e * 24)) lim i b = true
          · rw [if_pos c1, if_pos c1]
          · rw [if_neg c1, if_neg c1]
        rw [pick_S c0 ep, if_neg (show ¬ eX (some b) < 0 from nI_pos (by omega)), show eX (some b) = nI b from rfl, ho, some_bind]
        by_cases c1 : olN (AG (h + e * 24)) lim i b = true
        · rw [if_pos c1, i10, if_pos c1, ltI_u, nI_s]; rfl
        · rw [if_neg c1, i00, if_neg c1, ltI_u, nI_s]; rfl
    · rw [if_neg c0, i00, pick_F c0, ltI_u, nI_s]
  · show LEvenings_oldestOn_6_19 N (nI e) (nI (bt p fn)) M (eX (pick p (olN (AG (h + e * 24)) lim) fn)) (nI fn) = _
    unfold LEvenings_oldestOn_6_19
    rw [h7, if_pos (by rw [nIle (by omega) (by omega)]; omega)]
  · rw [← sgl_n fun b hb => (pick_in hb).1]
    cases ep : pick p (olN (AG (h + e * 24)) lim) fn with
    | none => rw [if_neg (show ¬ 0 ≤ eX none from by decide)]; rfl
    | some b =>
      have hb := pick_in ep
      rw [if_pos (show 0 ≤ eX (some b) from nI_pos' (by omega)), show eX (some b) = nI b from rfl, shOne (by omega)]; rfl
theorem lookX (hv : VXc M cn q w r d) (hb : BC cn q w r d) (hs : VXs M fn hr k c a f) (hF : VXf M fn co li so) (hBF : BF fn co li so) (hBS : BS cn fn hr k c a f) (hN : 1000 < N) (hn : n ≤ 20) : ∃ M', sEvenings_lookAhead N (nI n) M = some M' ∧ LAx M M' fn n (fst18 hr) (fun i => limN (k i) (li i)) (agT q hr w r k c a) := by
  have hf := hBF.2.1
  have hh := hBS.1
  have e18 : remI (42 - remI (M 40 6) 24) 24 = nI (fst18 hr) := by
    rw [hs.2.1, show (24 : Int32) = nI 24 from rfl, rem_n (by omega) (by omega) (by omega), show (42 : Int32) = nI 42 from rfl, pk_sub (by omega), rem_n (by omega) (by omega) (by omega)]
    rfl
  have hfst : fst18 hr < 24 := Nat.mod_lt _ (by omega)
  unfold sEvenings_lookAhead
  rw [e18, ltI_u]
  generalize fst18 hr = h at hfst
  -- limits
  obtain ⟨M1, p1, p2, p3⟩ := itr_i (f := fun z : Int32 × Mm => LEvenings_lookAhead_22_10 N z.1 z.2)
    (fun i s => ∃ m, s = (nI i, m) ∧ (∀ r, r ≠ 61 → m r = M r) ∧ ∀ j, j < i → m 61 j = nI (limN (k j) (li j)))
    (fun m => (∀ r, r ≠ 61 → m r = M r) ∧ ∀ j, j < fn → m 61 j = nI (limN (k j) (li j))) fn (s := (0, M)) (N := N)
    ⟨M, rfl, fun _ _ => rfl, fun j hj => absurd hj (by omega)⟩ (fun i s hi hP => by
      obtain ⟨m, rfl, g1, g2⟩ := hP
      obtain ⟨s1, s2, s3, s4⟩ := hBS.2 i hi
      obtain ⟨t1, t2, t3, t4⟩ := hs.2.2 i hi
      refine ⟨(nI (i + 1), mset m 61 i (nI (limN (k i) (li i)))), ?_, _, rfl, fun r hr => by rw [mset_ne _ _ _ hr]; exact g1 r hr, fun j hj => ?_⟩
      · show LEvenings_lookAhead_22_10 N (nI i) m = _
        unfold LEvenings_lookAhead_22_10
        rw [g1 27 (by omega), hF.1, if_neg (by rw [nIle (by omega) (by omega)]; omega), limX (by omega), some_bind, g1 41 (by omega), g1 31 (by omega), t1, (hF.2 i hi).2.1, limI_n (by omega), putf_n (by omega) (by omega), ltM_u, ltI_u, nI_s]
      · rw [mset_eq]
        by_cases hj2 : j = i
        · subst hj2; rw [upd_eq]
        · rw [upd_ne _ _ hj2]; exact g2 j (by omega)) (fun s hP => by
      obtain ⟨m, rfl, g1, g2⟩ := hP
      refine ⟨m, ?_, g1, g2⟩
      show LEvenings_lookAhead_22_10 N (nI fn) m = _
      unfold LEvenings_lookAhead_22_10
      rw [g1 27 (by omega), hF.1, if_pos (by rw [nIle (by omega) (by omega)]; omega)]) (by omega)
  rw [p1, some_bind]
  -- evenings
  obtain ⟨M2, q1, q2⟩ := itr_i (f := fun z : Int32 × Mm => LEvenings_lookAhead_63_54 N (nI n) (nI h) z.1 z.2)
    (fun e s => ∃ m, s = (nI e, m) ∧ LAx M m fn e h (fun i => limN (k i) (li i)) (agT q hr w r k c a))
    (fun m => LAx M m fn n h (fun i => limN (k i) (li i)) (agT q hr w r k c a)) n (s := (0, M1)) (N := N)
    ⟨M1, rfl, fun r _ h2 _ => p2 r h2, p3, fun e he => absurd he (by omega)⟩ (fun e s he hP => by
      obtain ⟨m, rfl, l1, l2, l3⟩ := hP
      obtain ⟨P, hPd⟩ : ∃ P : Nat → Bool, P = fun i => decide (limN (k i) (li i) ≤ agT q hr w r k c a (h + e * 24) i) := ⟨_, rfl⟩
      -- foods of one evening
      obtain ⟨t, u1, m2, rfl, v1, v2, v3⟩ := itr_i (f := fun z : Int32 × Int32 × Mm => LEvenings_lookAhead_74_49 N (nI h) (nI e) z.1 z.2.1 z.2.2)
        (fun i s => ∃ m', s = (nI (bt P i), nI i, m') ∧ (∀ r, r ≠ 60 → m' r = m r) ∧ (∀ j, j < 10 * e → m' 60 j = m 60 j) ∧ ∀ j, j < i → m' 60 (10 * e + j) = nI (agT q hr w r k c a (h + e * 24) j))
        (fun t => ∃ m', t = (nI (bt P fn), m') ∧ (∀ r, r ≠ 60 → m' r = m r) ∧ (∀ j, j < 10 * e → m' 60 j = m 60 j) ∧ ∀ j, j < fn → m' 60 (10 * e + j) = nI (agT q hr w r k c a (h + e * 24) j)) fn (s := (0, 0, m)) (N := N)
        ⟨m, rfl, fun _ _ => rfl, fun _ _ => rfl, fun j hj => absurd hj (by omega)⟩ (fun i s hi hP => by
          obtain ⟨m', rfl, g1, g2, g3⟩ := hP
          obtain ⟨s1, s2, s3, s4⟩ := hBS.2 i hi
          obtain ⟨t1, t2, t3, t4⟩ := hs.2.2 i hi
          obtain ⟨y1, y2, -⟩ := hb.2.2.2 (c i) s2
          obtain ⟨f1, f2, f3, f4⟩ := hBF.2.2 i hi
          have b1 := agN_le (k := k i) (q := q) (h := hr) y1 y2 (h + e * 24)
          have b2 := limN_b (k := k i) f2 f3
          have ge : ∀ r, r ≠ 60 → r ≠ 61 → r ≠ 62 → m' r = M r := fun r h1 h2 h3 => (g1 r h1).trans (l1 r h1 h2 h3)
          have hv' : VXc m' cn q w r d := by
            unfold VXc
            rw [ge 23 (by omega) (by omega) (by omega), ge 24 (by omega) (by omega) (by omega), ge 25 (by omega) (by omega) (by omega), ge 26 (by omega) (by omega) (by omega)]
            exact hv
          have hs' : VXs m' fn hr k c a f := by
            unfold VXs
            rw [ge 40 (by omega) (by omega) (by omega), ge 41 (by omega) (by omega) (by omega), ge 42 (by omega) (by omega) (by omega), ge 43 (by omega) (by omega) (by omega), ge 44 (by omega) (by omega) (by omega)]
            exact hs
          have ea : sFridge_ageBehind N (nI i) (nI h + nI e * 24) m' = some (nI (agT q hr w r k c a (h + e * 24) i)) := by
            unfold sFridge_ageBehind
            rw [kindX (by omega), some_bind, cellX (by omega), some_bind, (hs'.2.2 i hi).1, (hs'.2.2 i hi).2.1, show (24 : Int32) = nI 24 from rfl, pk_mul, nI_add, ageAsX hv' hb hs' (by omega) hf hN hi s1 s2 (by omega), some_bind]
            rfl
          have eP : P i = decide (limN (k i) (li i) ≤ agT q hr w r k c a (h + e * 24) i) := by rw [hPd]
          have g61 : m' 61 i = nI (limN (k i) (li i)) := (congrFun (g1 61 (by omega)) i).trans (l2 i hi)
          have hat : agT q hr w r k c a (h + e * 24) i ≤ 100000000 := by
            show a i + agN (k i) (w (c i)) (r (c i)) q hr (h + e * 24) ≤ 100000000
            omega
          refine ⟨(nI (bt P (i + 1)), nI (i + 1), mset m' 60 (10 * e + i) (nI (agT q hr w r k c a (h + e * 24) i))), ?_, _, rfl, fun r hr => by rw [mset_ne _ _ _ hr]; exact g1 r hr, fun j hj => by rw [mset_eq, upd_ne _ _ (by omega)]; exact g2 j hj, fun j hj => ?_⟩
          · show LEvenings_lookAhead_74_49 N (nI h) (nI e) (nI (bt P i)) (nI i) m' = _
            unfold LEvenings_lookAhead_74_49
            rw [ge 27 (by omega) (by omega) (by omega), hF.1, if_neg (by rw [nIle (by omega) (by omega)]; omega), ea, some_bind, show (10 : Int32) = nI 10 from rfl, pk_mul, nI_add, show e * 10 + i = 10 * e + i by omega, putf_n (by omega) (by omega), ltM_u, mset_ne _ _ _ (show (61 : Nat) ≠ 60 by omega), atf_n (by omega) (by omega), g61]
            by_cases c0 : limN (k i) (li i) ≤ agT q hr w r k c a (h + e * 24) i
            · rw [if_neg (nI_nlt c0 (by omega)), ltI_u, ltI_u, nI_s, orBit (by omega) (bt_lt P i), bt_T (by rw [eP]; exact decide_eq_true c0)]
            · rw [if_pos (nI_lt (by omega) (by omega)), ltI_u, nI_s, bt_F (by rw [eP]; simp [c0])]
          · rw [mset_eq]
            by_cases hj2 : j = i
            · subst hj2; rw [upd_eq]
            · rw [upd_ne _ _ (by omega)]; exact g3 j (by omega)) (fun s hP => by
          obtain ⟨m', rfl, g1, g2, g3⟩ := hP
          refine ⟨(nI (bt P fn), m'), ?_, m', rfl, g1, g2, g3⟩
          show LEvenings_lookAhead_74_49 N (nI h) (nI e) (nI (bt P fn)) (nI fn) m' = _
          unfold LEvenings_lookAhead_74_49
          rw [g1 27 (by omega), l1 27 (by omega) (by omega) (by omega), hF.1, if_pos (by rw [nIle (by omega) (by omega)]; omega)]) (by omega)
      refine ⟨(nI (e + 1), mset m2 62 e (nI (bt P fn))), ?_, _, rfl, fun r h1 h2 h3 => ?_, fun i hi => ?_, fun e' he' => ?_⟩
      · show LEvenings_lookAhead_63_54 N (nI n) (nI h) (nI e) m = _
        unfold LEvenings_lookAhead_63_54
        rw [if_neg (by rw [nIle (by omega) (by omega)]; omega), u1, some_bind]
        show ltM (putf 20 m2 62 (nI e) (nI (bt P fn))) _ = _
        rw [putf_n (by omega) (by omega), ltM_u, ltI_u, nI_s]
      · rw [mset_ne _ _ _ h3, v1 r h1]; exact l1 r h1 h2 h3
      · rw [mset_ne _ _ _ (by omega), v1 61 (by omega)]; exact l2 i hi
      · by_cases hee : e' = e
        · subst hee
          refine ⟨by rw [mset_eq, upd_eq, hPd], fun i hi => ?_⟩
          rw [mset_ne _ _ _ (by omega)]
          exact v3 i hi
        · obtain ⟨w1, w2⟩ := l3 e' (by omega)
          refine ⟨by rw [mset_eq, upd_ne _ _ hee, v1 62 (by omega)]; exact w1, fun i hi => ?_⟩
          rw [mset_ne _ _ _ (by omega), v2 _ (by omega)]
          exact w2 i hi) (fun s hP => by
      obtain ⟨m, rfl, g⟩ := hP
      refine ⟨m, ?_, g⟩
      show LEvenings_lookAhead_63_54 N (nI n) (nI h) (nI n) m = _
      unfold LEvenings_lookAhead_63_54
      rw [if_pos (by rw [nIle (by omega) (by omega)]; omega)]) (by omega)
  exact ⟨M2, by rw [q1, some_bind], q2⟩
-- the reference's evenings
theorem tB_VRs (hs : VRs M b fn hr k c a f) : VRs (tB b fn A h M) b fn h k c A f := by
  refine ⟨tB_27, fun i hi => ?_⟩
  obtain ⟨u1, u2, u3, u4⟩ := hs.2 i hi
  rw [tB_ne (r := 22) (by omega) (by omega), tB_ne (r := 23) (by omega) (by omega), tB_ne (r := 25) (by omega) (by omega), tB_24 hi]
  exact ⟨u1, u2, rfl, u4⟩
/-- the reference's copy t hours on, of what is there (F) -/
def EvR (M0 M : Mm) (fn q hr t : Nat) (w r k c a F A : Nat → Nat) : Prop := Scr M0 M ∧ VRs M 1 fn (hr + t) k c A F ∧ ∀ i, i < fn → F i ≤ 2 ∧ A i ≤ 618 * (hr + t) ∧ (F i = 0 → A i = agT q hr w r k c a t i)
theorem EvR_go (hb : BC cn q w r d) (hf : fn ≤ 10) (hc : ∀ i, i < fn → c i < cn) (h0 : EvR M0 M fn q hr t w r k c a F A) (j : Nat) : EvR M0 (tB 1 fn (agF q (hr + t) w r k c A F j) (hr + t + j) M) fn q hr (t + j) w r k c a F (agF q (hr + t) w r k c A F j) := by
  obtain ⟨e1, e2, e3⟩ := h0
  refine ⟨e1.trans (tB_scr hf), by rw [← Nat.add_assoc]; exact tB_VRs e2, fun i hi => ?_⟩
  obtain ⟨x1, x2, x3⟩ := e3 i hi
  refine ⟨x1, ?_, fun h => ?_⟩
  · have := agF_le (k := k) (f := F) (n := j) hb (hc i hi) x2
    omega
  · show (if F i = 0 then A i + agN (k i) (w (c i)) (r (c i)) q (hr + t) j else A i) = a i + agN (k i) (w (c i)) (r (c i)) q hr (t + j)
    rw [if_pos h, x3 h, agN_add, ← Nat.add_assoc]
    rfl
theorem EvR_HB (hC : VRc M0 cn q w r d) (hb : BC cn q w r d) (hF : VRf M0 fn co li so) (hBF : BF fn co li so) (hk : ∀ i, i < fn → k i ≤ 3 ∧ c i < cn) (h0 : EvR M0 M fn q hr t w r k c a F A) : HB M 1 fn cn q w r d k c F := by
  obtain ⟨e1, e2, e3⟩ := h0
  refine ⟨by omega, hBF.2.1, (hF.scr e1).1, hC.scr e1, hb, fun i hi => ?_⟩
  obtain ⟨u1, u2, u3, u4⟩ := e2.2 i hi
  exact ⟨(hk i hi).1, (hk i hi).2, (e3 i hi).1, u1, u2, u4⟩
theorem EvR_one (hC : VRc M0 cn q w r d) (hb : BC cn q w r d) (hF : VRf M0 fn co li so) (hBF : BF fn co li so) (hk : ∀ i, i < fn → k i ≤ 3 ∧ c i < cn) (hN : 1000 < N) (hh : hr + t ≤ 150000) (h0 : EvR M0 M fn q hr t w r k c a F A) : ∃ M' A', sRef_goHour N 1 M = some M' ∧ EvR M0 M' fn q hr (t + 1) w r k c a F A' := by
  have H := EvR_HB hC hb hF hBF hk h0
  refine ⟨_, _, ?_, EvR_go hb hBF.2.1 (fun i hi => (hk i hi).2) h0 1⟩
  have g := goHourF (n := 0) (hr := hr + t) (a := A) H hN (by omega)
  rw [agF_0, Nat.add_zero, tB_self h0.2.1] at g
  exact g
theorem EvR_eve (hC : VRc M0 cn q w r d) (hb : BC cn q w r d) (hF : VRf M0 fn co li so) (hBF : BF fn co li so) (hk : ∀ i, i < fn → k i ≤ 3 ∧ c i < cn) (hN : 1000 < N) (hh : hr + t ≤ 150000) (h0 : EvR M0 M fn q hr t w r k c a F A) {s : Nat} (hs : s ≤ 30) (h18 : (hr + t + s) % 24 = 18) (hn : ∀ j, j < s → (hr + t + j) % 24 ≠ 18) : ∃ M' A', sRef_goToEvening N M = some M' ∧ EvR M0 M' fn q hr (t + s) w r k c a F A' := by
  have H := EvR_HB hC hb hF hBF hk h0
  refine ⟨_, _, ?_, EvR_go hb hBF.2.1 (fun i hi => (hk i hi).2) h0 s⟩
  unfold sRef_goToEvening
  refine itr_b (fun j => tB 1 fn (agF q (hr + t) w r k c A F j) (hr + t + j) M) s (r := tB 1 fn (agF q (hr + t) w r k c A F s) (hr + t + s) M) (by rw [agF_0, Nat.add_zero, tB_self h0.2.1]) ?_ ?_ (by omega) rfl
  · intro j hj
    have h1 := hn j hj
    show LRef_goToEvening_0_6 N (tB 1 fn (agF q (hr + t) w r k c A F j) (hr + t + j) M) = _
    unfold LRef_goToEvening_0_6
    rw [show (1 : Int32) = nI 1 from rfl, rdc_n (by omega) (by omega), tB_27, show (24 : Int32) = nI 24 from rfl, rem_n (by omega) (by omega) (by omega), if_neg (show ¬ nI ((hr + t + j) % 24) = 18 by rw [show (18 : Int32) = nI 18 from rfl, nIeq (by omega) (by omega)]; exact h1), goHourF H hN (by omega), some_bind]
  · show LRef_goToEvening_0_6 N (tB 1 fn (agF q (hr + t) w r k c A F s) (hr + t + s) M) = _
    unfold LRef_goToEvening_0_6
    rw [show (1 : Int32) = nI 1 from rfl, rdc_n (by omega) (by omega), tB_27, show (24 : Int32) = nI 24 from rfl, rem_n (by omega) (by omega) (by omega), h18, if_pos (show nI 18 = 18 from rfl)]
/-- to the next evening: e evenings have been (the hour stands at the last one of them, or where it began) -/
def tE (hr e : Nat) : Nat := if e = 0 then 0 else fst18 hr + (e - 1) * 24
theorem EvR_next (hC : VRc M0 cn q w r d) (hb : BC cn q w r d) (hF : VRf M0 fn co li so) (hBF : BF fn co li so) (hk : ∀ i, i < fn → k i ≤ 3 ∧ c i < cn) (hN : 1000 < N) (hh : hr ≤ 99999) {e : Nat} (he : e ≤ 20) (h0 : EvR M0 M fn q hr (tE hr e) w r k c a F A) : ∃ M' A', (((if nI e ≤ 0 then some M else (sRef_goHour N 1 M).bind fun zM38 => some zM38) : Option (Mm))).bind (fun zM36 => sRef_goToEvening N zM36) = some M' ∧ EvR M0 M' fn q hr (fst18 hr + e * 24) w r k c a F A' := by
  by_cases c0 : e = 0
  · subst c0
    rw [if_pos (show nI 0 ≤ 0 from by decide), some_bind]
    have h0' : EvR M0 M fn q hr 0 w r k c a F A := h0
    have hfst : fst18 hr < 24 := Nat.mod_lt _ (by omega)
    have := EvR_eve hC hb hF hBF hk hN (by omega) h0' (s := fst18 hr) (by omega) (by unfold fst18; omega) (fun j hj => by unfold fst18 at hj; omega)
    rw [Nat.zero_add] at this
    rw [Nat.zero_mul, Nat.add_zero]
    exact this
  · rw [if_neg (nI_nle (by omega) (by omega))]
    have ht : tE hr e = fst18 hr + (e - 1) * 24 := if_neg c0
    rw [ht] at h0
    have hfst : fst18 hr < 24 := Nat.mod_lt _ (by omega)
    have h18 : (hr + fst18 hr) % 24 = 18 := by unfold fst18; omega
    obtain ⟨M1, A1, g1, g2⟩ := EvR_one hC hb hF hBF hk hN (by omega) h0
    rw [g1, some_bind, some_bind]
    have := EvR_eve hC hb hF hBF hk hN (by omega) g2 (s := 23) (by omega) (by omega) (fun j hj => by omega)
    rw [show fst18 hr + (e - 1) * 24 + 1 + 23 = fst18 hr + e * 24 by omega] at this
    exact this
end SE
/-- the class' scratch: evenings, planner, layer -/
def ScX (M M' : Mm) : Prop := ∀ r, ¬ (60 ≤ r ∧ r ≤ 70) → M' r = M r
theorem Rel_scX {MX MX1 MR : Mm} (h : Rel MX MR) (hs : ScX MX MX1) : Rel MX1 MR := by
  obtain ⟨cn, fn, kp, hT, hC, hF, hD, hE, hP, hS, hk, hk1, hk2, hNn⟩ := h
  have e : MX1 = fun r => if 60 ≤ r ∧ r ≤ 70 then MX1 r else MX r := funext fun r => by
    by_cases c : 60 ≤ r ∧ r ≤ 70
    · rw [if_pos c]
    · rw [if_neg c]; exact hs r c
  rw [e]
  exact ⟨cn, fn, kp, hT, hC, hF, hD, hE, hP, hS, hk, hk1, hk2, hNn⟩
