/-! PURE PART 19: rows of digits, the first of the least; what one evening's dish takes. By hand. -/
def rch {σ : Type} (B : Nat) (st : Nat → Nat → σ → Option σ) (s0 : σ) : Nat → Nat → Option σ
  | 0, _ => some s0
  | j + 1, P => (rch B st s0 j (P / B)).bind (st j (P % B))
theorem rch_s {σ : Type} (B : Nat) (st : Nat → Nat → σ → Option σ) (s0 : σ) (j P : Nat) : rch B st s0 (j + 1) P = (rch B st s0 j (P / B)).bind (st j (P % B)) := rfl
theorem rch_child {σ : Type} {B : Nat} {st : Nat → Nat → σ → Option σ} {s0 s : σ} {j P d : Nat} (h : rch B st s0 j P = some s) (hd : d < B) : rch B st s0 (j + 1) (P * B + d) = st j d s := by
  have hB : 0 < B := by omega
  have e1 : (P * B + d) / B = P := by
    rw [Nat.mul_comm, Nat.mul_add_div hB, Nat.div_eq_of_lt hd, Nat.add_zero]
  have e2 : (P * B + d) % B = d := by
    rw [Nat.mul_comm, Nat.mul_add_mod, Nat.mod_eq_of_lt hd]
  rw [rch_s, e1, e2, h]
  rfl
theorem rch_up {σ : Type} {B : Nat} {st : Nat → Nat → σ → Option σ} {s0 : σ} {cst : σ → Nat} (hst : ∀ j d s s', st j d s = some s' → cst s ≤ cst s') (j : Nat) : ∀ d C s', rch B st s0 (j + d) C = some s' → ∃ s, rch B st s0 j (C / B ^ d) = some s ∧ cst s ≤ cst s'
  | 0, C, s', h => ⟨s', by rw [Nat.pow_zero, Nat.div_one]; exact h, Nat.le_refl _⟩
  | d + 1, C, s', h => by
    rw [← Nat.add_assoc, rch_s] at h
    obtain ⟨s1, h1, h2⟩ := bnd_e h
    obtain ⟨s, g1, g2⟩ := rch_up hst j d (C / B) s1 h1
    refine ⟨s, ?_, Nat.le_trans g2 (hst _ _ _ _ h2)⟩
    rw [Nat.div_div_eq_div_mul] at g1
    rw [Nat.pow_succ, Nat.mul_comm]
    exact g1
def scn (v : Nat → Option Nat) : Nat → Option (Nat × Nat)
  | 0 => none
  | n + 1 => match v n with
    | none => scn v n
    | some x => match scn v n with
      | none => some (n, x)
      | some bl => if bl.2 ≤ x then some bl else some (n, x)
theorem scn_none {v : Nat → Option Nat} {n : Nat} (h : v n = none) : scn v (n + 1) = scn v n := by
  show (match v n with | none => scn v n | some x => match scn v n with | none => some (n, x) | some bl => if bl.2 ≤ x then some bl else some (n, x)) = _
  rw [h]
theorem scn_first {v : Nat → Option Nat} {n x : Nat} (h : v n = some x) (e : scn v n = none) : scn v (n + 1) = some (n, x) := by
  show (match v n with | none => scn v n | some x => match scn v n with | none => some (n, x) | some bl => if bl.2 ≤ x then some bl else some (n, x)) = _
  rw [h, e]
theorem scn_more {v : Nat → Option Nat} {n x b l : Nat} (h : v n = some x) (e : scn v n = some (b, l)) : scn v (n + 1) = if l ≤ x then some (b, l) else some (n, x) := by
  show (match v n with | none => scn v n | some x => match scn v n with | none => some (n, x) | some bl => if bl.2 ≤ x then some bl else some (n, x)) = _
  rw [h, e]
theorem scn_in {v : Nat → Option Nat} : ∀ {n b l : Nat}, scn v n = some (b, l) → b < n ∧ v b = some l
  | 0, _, _, h => by cases h
  | n + 1, b, l, h => by
    cases hv : v n with
    | none =>
      rw [scn_none hv] at h
      have := scn_in h
      exact ⟨by omega, this.2⟩
    | some x =>
      cases hs : scn v n with
      | none =>
        rw [scn_first hv hs] at h
        cases h
        exact ⟨by omega, hv⟩
      | some bl =>
        obtain ⟨b1, l1⟩ := bl
        rw [scn_more hv hs] at h
        by_cases c : l1 ≤ x
        · rw [if_pos c] at h
          cases h
          have := scn_in hs
          exact ⟨by omega, this.2⟩
        · rw [if_neg c] at h
          cases h
          exact ⟨by omega, hv⟩
theorem scn_skip {v : Nat → Option Nat} {n : Nat} : ∀ m, (∀ i, n ≤ i → i < n + m → v i = none) → scn v (n + m) = scn v n
  | 0, _ => rfl
  | m + 1, h => by rw [← Nat.add_assoc, scn_none (h (n + m) (by omega) (by omega)), scn_skip m fun i h1 h2 => h i h1 (by omega)]
theorem scn_prune {v : Nat → Option Nat} {n b l : Nat} (e : scn v n = some (b, l)) : ∀ m, (∀ i x, n ≤ i → i < n + m → v i = some x → l ≤ x) → scn v (n + m) = some (b, l)
  | 0, _ => e
  | m + 1, h => by
    have ih := scn_prune e m fun i x h1 h2 => h i x h1 (by omega)
    rw [← Nat.add_assoc]
    cases hv : v (n + m) with
    | none => rw [scn_none hv, ih]
    | some x => rw [scn_more hv ih, if_pos (h _ _ (by omega) (by omega) hv)]
theorem interval {B P d C : Nat} (h1 : P * B ^ d ≤ C) (h2 : C < P * B ^ d + B ^ d) : C / B ^ d = P := by
  refine Nat.div_eq_of_lt_le h1 ?_
  rw [Nat.add_mul, Nat.one_mul]
  exact h2
/-- a row of digits -/
def RwX (f : Nat → Int32) (B : Nat) (dg : Nat → Int32) : Nat → Nat → Prop
  | 0, _ => True
  | j + 1, P => RwX f B dg j (P / B) ∧ f j = dg (P % B)
theorem RwX_congr {f g : Nat → Int32} {B : Nat} {dg : Nat → Int32} : ∀ {j P : Nat}, (∀ i, i < j → g i = f i) → RwX f B dg j P → RwX g B dg j P
  | 0, _, _, _ => trivial
  | j + 1, P, h, hr => ⟨RwX_congr (fun i hi => h i (by omega)) hr.1, (h j (by omega)).trans hr.2⟩
theorem RwX_child {f : Nat → Int32} {B : Nat} {dg : Nat → Int32} {j P d : Nat} (h : RwX f B dg j P) (hd : d < B) (e : f j = dg d) : RwX f B dg (j + 1) (P * B + d) := by
  have hB : 0 < B := by omega
  have e1 : (P * B + d) / B = P := by
    rw [Nat.mul_comm, Nat.mul_add_div hB, Nat.div_eq_of_lt hd, Nat.add_zero]
  have e2 : (P * B + d) % B = d := by
    rw [Nat.mul_comm, Nat.mul_add_mod, Nat.mod_eq_of_lt hd]
  exact ⟨by rw [e1]; exact h, by rw [e2]; exact e⟩
theorem RwX_at {f : Nat → Int32} {B : Nat} {dg : Nat → Int32} : ∀ {n b : Nat}, RwX f B dg n b → ∀ i, i < n → f i = dg (b / B ^ (n - 1 - i) % B)
  | 0, _, _, i, hi => absurd hi (by omega)
  | n + 1, b, h, i, hi => by
    by_cases c : i = n
    · subst c
      rw [show i + 1 - 1 - i = 0 by omega, Nat.pow_zero, Nat.div_one]
      exact h.2
    · have := RwX_at h.1 i (by omega)
      rw [this, Nat.div_div_eq_div_mul, show n + 1 - 1 - i = (n - 1 - i) + 1 by omega, Nat.pow_succ, Nat.mul_comm B]
theorem figureR {N : Nat} (hN : 1000 < N) {code B e i : Nat} (hc : code ≤ 1000000) (h0 : 0 < B) (hB : B ≤ 100) (hi : i < e) (he : e ≤ 100) : sRef_figure N (nI code) (nI B) (nI e) (nI i) = some (nI (code / B ^ (e - 1 - i) % B)) := by
  unfold sRef_figure
  have hq : ∀ t, code / B ^ t ≤ 1000000 := fun t => Nat.le_trans (Nat.div_le_self _ _) hc
  rw [show nI e - 1 = nI (e - 1) from pk_sub (b := 1) (by omega), ltI_u]
  refine itr_b (fun t => (nI (code / B ^ t), nI (e - 1 - t))) (e - 1 - i) (r := nI (code / B ^ (e - 1 - i))) (by rw [Nat.pow_zero, Nat.div_one]; rfl) ?_ ?_ (by omega) ?_
  · intro t ht
    have := hq t
    show LRef_figure_8_8 N (nI B) (nI i) (nI (code / B ^ t)) (nI (e - 1 - t)) = some (.inl (nI (code / B ^ (t + 1)), nI (e - 1 - (t + 1))))
    unfold LRef_figure_8_8 dvc
    rw [if_neg (by rw [nIle (by omega) (by omega)]; omega), if_neg (nI_ne0 h0 (by omega)), pk_div (by omega) h0 (by omega), ltI_u, addm1, dec_n (by omega), ltI_u, Nat.div_div_eq_div_mul, ← Nat.pow_succ, show e - 1 - t - 1 = e - 1 - (t + 1) by omega]
  · show LRef_figure_8_8 N (nI B) (nI i) (nI (code / B ^ (e - 1 - i))) (nI (e - 1 - (e - 1 - i))) = _
    unfold LRef_figure_8_8
    rw [if_pos (by rw [nIle (by omega) (by omega)]; omega)]
  · have := hq (e - 1 - i)
    unfold dvc
    rw [if_neg (nI_ne0 h0 (by omega)), rem_n (by omega) h0 (by omega)]
-- dishes
def eats (pk : Nat → Option Nat) (D : Nat) : Nat → Option (Nat → Bool)
  | 0 => some fun _ => false
  | s + 1 => (eats pk D s).bind fun E => if D.testBit s = true then (pk s).map (fun i => fun j => E j || sgl (some i) j) else some E
theorem eats_s (pk : Nat → Option Nat) (D s : Nat) : eats pk D (s + 1) = (eats pk D s).bind fun E => if D.testBit s = true then (pk s).map (fun i => fun j => E j || sgl (some i) j) else some E := rfl
theorem eats_up {pk : Nat → Option Nat} {D s : Nat} (h : eats pk D s = none) : ∀ d, eats pk D (s + d) = none
  | 0 => h
  | d + 1 => by rw [← Nat.add_assoc, eats_s, eats_up h d]; rfl
theorem eats_some {pk : Nat → Option Nat} {D : Nat} {fn : Nat} (hpk : ∀ s i, pk s = some i → i < fn) : ∀ {s E}, eats pk D s = some E → ∀ t, t < s → D.testBit t = true → ∃ i, i < fn ∧ E i = true
  | 0, _, _, t, ht, _ => absurd ht (by omega)
  | s + 1, E, h, t, ht, hb => by
    rw [eats_s] at h
    obtain ⟨E1, h1, h2⟩ := bnd_e h
    by_cases c : D.testBit s = true
    · rw [if_pos c] at h2
      cases hp : pk s with
      | none => rw [hp] at h2; cases h2
      | some i =>
        rw [hp] at h2
        have h2 := Option.some.inj h2
        refine ⟨i, hpk s i hp, ?_⟩
        rw [← h2]
        show (E1 i || decide (i = i)) = true
        rw [decide_eq_true rfl, Bool.or_true]
    · rw [if_neg c] at h2
      have h2 := Option.some.inj h2
      have hts : t ≠ s := fun z => c (z ▸ hb)
      obtain ⟨i, i1, i2⟩ := eats_some hpk h1 t (by omega) hb
      exact ⟨i, i1, by rw [← h2]; exact i2⟩
theorem eats_in {pk : Nat → Option Nat} {D : Nat} {G : Nat → Nat → Prop} (hpk : ∀ s i, pk s = some i → G s i) : ∀ {s E}, eats pk D s = some E → ∀ i, E i = true → ∃ t, t < s ∧ G t i
  | 0, E, h, i, hi => by
    have h := Option.some.inj h
    rw [← h] at hi
    exact (Bool.false_ne_true hi).elim
  | s + 1, E, h, i, hi => by
    rw [eats_s] at h
    obtain ⟨E1, h1, h2⟩ := bnd_e h
    by_cases c : D.testBit s = true
    · rw [if_pos c] at h2
      cases hp : pk s with
      | none => rw [hp] at h2; cases h2
      | some i' =>
        rw [hp] at h2
        have h2 := Option.some.inj h2
        rw [← h2] at hi
        have hi : (E1 i || decide (i = i')) = true := hi
        by_cases ci : i = i'
        · subst ci; exact ⟨s, by omega, hpk s i hp⟩
        · rw [decide_eq_false ci, Bool.or_false] at hi
          obtain ⟨t, t1, t2⟩ := eats_in hpk h1 i hi
          exact ⟨t, by omega, t2⟩
    · rw [if_neg c] at h2
      have h2 := Option.some.inj h2
      rw [← h2] at hi
      obtain ⟨t, t1, t2⟩ := eats_in hpk h1 i hi
      exact ⟨t, by omega, t2⟩
/-- the pick of a sort -/
def pkS (p off : Nat → Bool) (so : Nat → Nat) (ol : Nat → Nat → Bool) (fn s : Nat) : Option Nat := pick (fun i => (p i && !off i) && decide (so i = s)) ol fn
def offB (lim A : Nat → Nat) : Nat → Bool := fun i => decide (lim i ≤ A i)
def huN (ea : Nat → Nat) (en D : Nat) : Nat := ctb (fun e => decide (D = 0 ∨ ¬ (nI (ea e) &&& nI D = 0))) en
section PL
variable {cn fn q hr b n h t en : Nat} {w r d co li so k c a f A F lim ea : Nat → Nat} {M M' M0 : Mm} {N : Nat} {AG : Nat → Nat → Nat}
theorem hungryX (he : M 22 5 = nI en) (hen : en ≤ 4) (hea : ∀ e, e < en → M 36 e = nI (ea e)) (hN : 1000 < N) {D : Nat} (hD : D ≤ 1000) : sTold_hungryWith_l N (nI D) M = some (nI (huN ea en D)) := by
  unfold sTold_hungryWith_l huN
  generalize hp : (fun e => decide (D = 0 ∨ ¬ (nI (ea e) &&& nI D = 0))) = p
  refine itr_b (fun i => (nI (ctb p i), nI i)) en (r := nI (ctb p en)) rfl ?_ ?_ (by omega) rfl
  · intro i hi
    have pi : p i = decide (D = 0 ∨ ¬ (nI (ea i) &&& nI D = 0)) := by rw [← hp]
    show LTold_hungryWith_l_4_19 N (nI D) M (nI (ctb p i)) (nI i) = some (.inl (nI (ctb p (i + 1)), nI (i + 1)))
    unfold LTold_hungryWith_l_4_19
    rw [he, if_neg (by rw [nIle (by omega) (by omega)]; omega), atf_n (by omega) (by omega), hea i hi]
    simp only [nI_is0 hD]
    by_cases c0 : D = 0
    · rw [if_pos c0, ltI_u, ltI_u, nI_s, nI_s, ctb_T (by rw [pi]; exact decide_eq_true (Or.inl c0))]
    · rw [if_neg c0]
      by_cases c1 : nI (ea i) &&& nI D = 0
      · rw [if_pos c1, ltI_u, nI_s, ctb_F (by rw [pi]; simp [c0, c1])]
      · rw [if_neg c1, ltI_u, ltI_u, nI_s, nI_s, ctb_T (by rw [pi]; exact decide_eq_true (Or.inr c1))]
  · show LTold_hungryWith_l_4_19 N (nI D) M (nI (ctb p en)) (nI en) = _
    unfold LTold_hungryWith_l_4_19
    rw [he, if_pos (by rw [nIle (by omega) (by omega)]; omega)]
theorem hungryR (he : M 16 0 = nI en) (hen : en ≤ 4) (hea : ∀ e, e < en → M 17 e = nI (ea e)) (hN : 1000 < N) {D : Nat} (hD : D ≤ 1000) : sRef_hungryOf N (nI D) M = some (nI (huN ea en D)) := by
  unfold sRef_hungryOf huN
  generalize hp : (fun e => decide (D = 0 ∨ ¬ (nI (ea e) &&& nI D = 0))) = p
  refine itr_b (fun i => (nI (ctb p i), nI i)) en (r := nI (ctb p en)) rfl ?_ ?_ (by omega) rfl
  · intro i hi
    have pi : p i = decide (D = 0 ∨ ¬ (nI (ea i) &&& nI D = 0)) := by rw [← hp]
    show LRef_hungryOf_4_21 N (nI D) M (nI (ctb p i)) (nI i) = some (.inl (nI (ctb p (i + 1)), nI (i + 1)))
    unfold LRef_hungryOf_4_21
    rw [rdc_0 (by omega) (by omega), he, if_neg (by rw [nIle (by omega) (by omega)]; omega)]
    simp only [nI_is0 hD]
    by_cases c0 : D = 0
    · rw [if_pos c0, ltI_u, ltI_u, nI_s, nI_s, ctb_T (by rw [pi]; exact decide_eq_true (Or.inl c0))]
    · rw [if_neg c0, rdc_n (by omega) (by omega), hea i hi]
      by_cases c1 : nI (ea i) &&& nI D = 0
      · rw [if_pos c1, ltI_u, ltI_u, nI_s, add_z, ctb_F (by rw [pi]; simp [c0, c1])]
      · rw [if_neg c1, ltI_u, ltI_u, nI_s, nI_s, ctb_T (by rw [pi]; exact decide_eq_true (Or.inr c1))]
  · show LRef_hungryOf_4_21 N (nI D) M (nI (ctb p en)) (nI en) = _
    unfold LRef_hungryOf_4_21
    rw [rdc_0 (by omega) (by omega), he, if_pos (by rw [nIle (by omega) (by omega)]; omega)]
/-- which foods are of a sort, as the class keeps them -/
def SoX (M : Mm) (fn : Nat) (so : Nat → Nat) : Prop := ∀ t, t < 4 → M 34 t = nI (bt (fun i => decide (so i = t)) fn)
theorem eatenX (hL : LAx M0 M fn n h lim AG) (h7 : M 27 7 = nI fn) (hf : fn ≤ 10) (hS : SoX M fn so) (hN : 1000 < N) {e : Nat} (he : e < n) (hn : n ≤ 20) (p : Nat → Bool) {D : Nat} (hD : D ≤ 1000) : sPlanner_eatenOn N (nI e) (nI (bt p fn)) (nI D) M = some (match eats (pkS p (offB lim (AG (h + e * 24))) so (olN (AG (h + e * 24)) lim) fn) D 4 with | none => 0 | some E => nI (bt E fn)) := by
  obtain ⟨l1, l2, l3⟩ := id hL
  obtain ⟨l4, l5⟩ := l3 e he
  have xo : sEvenings_offOn (nI e) M = some (nI (bt (offB lim (AG (h + e * 24))) fn)) := by
    unfold sEvenings_offOn
    rw [atf_n (by omega) (by omega), l4]
    rfl
  generalize hpk : pkS p (offB lim (AG (h + e * 24))) so (olN (AG (h + e * 24)) lim) fn = pk
  unfold sPlanner_eatenOn
  rw [xo, some_bind, bt_dif _ _ hf, ltI_u]
  have go : ∀ d s E, s + d = 4 → eats pk D s = some E → ∀ F, d < F → itr (fun z : Int32 × Int32 => LPlanner_eatenOn_20_17 N (nI e) (nI D) M (nI (bt (fun i => p i && !offB lim (AG (h + e * 24)) i) fn)) z.1 z.2) F (nI (bt E fn), nI s) = some (match eats pk D 4 with | none => .inl () | some E => .inr (nI (bt E fn))) := by
    intro d
    induction d with
    | zero =>
      intro s E hs hE F hF
      obtain rfl : s = 4 := by omega
      obtain ⟨F, rfl⟩ : ∃ m, F = m + 1 := ⟨F - 1, by omega⟩
      unfold itr
      have : LPlanner_eatenOn_20_17 N (nI e) (nI D) M (nI (bt (fun i => p i && !offB lim (AG (h + e * 24)) i) fn)) (nI (bt E fn)) (nI 4) = some (.inr (.inr (nI (bt E fn)))) := by
        unfold LPlanner_eatenOn_20_17
        rw [if_pos (show (4 : Int32) ≤ nI 4 from by decide)]
      show (LPlanner_eatenOn_20_17 N (nI e) (nI D) M (nI (bt (fun i => p i && !offB lim (AG (h + e * 24)) i) fn)) (nI (bt E fn)) (nI 4)).bind _ = _
      rw [this, hE]
      rfl
    | succ d ih =>
      intro s E hs hE F hF
      obtain ⟨F, rfl⟩ : ∃ m, F = m + 1 := ⟨F - 1, by omega⟩
      have es := eats_s pk D s
      rw [hE, some_bind] at es
      have ho : sEvenings_oldestOn N (nI e) (nI (bt (fun i => (p i && !offB lim (AG (h + e * 24)) i) && decide (so i = s)) fn)) M = some (nI (bt (sgl (pk s)) fn)) := by
        rw [oldestX hL h7 hf hN he hn, ← hpk]
        rfl
      have hb : sFoods_bitsOfSort_l (nI s) M = some (nI (bt (fun i => decide (so i = s)) fn)) := by
        unfold sFoods_bitsOfSort_l
        rw [atf_n (by omega) (by omega), hS s (by omega)]
      unfold itr
      show (LPlanner_eatenOn_20_17 N (nI e) (nI D) M (nI (bt (fun i => p i && !offB lim (AG (h + e * 24)) i) fn)) (nI (bt E fn)) (nI s)).bind _ = _
      by_cases c : D.testBit s = true
      · rw [if_pos c] at es
        cases hp : pk s with
        | none =>
          have : LPlanner_eatenOn_20_17 N (nI e) (nI D) M (nI (bt (fun i => p i && !offB lim (AG (h + e * 24)) i) fn)) (nI (bt E fn)) (nI s) = some (.inr (.inl ())) := by
            unfold LPlanner_eatenOn_20_17
            rw [if_neg (show ¬ (4 : Int32) ≤ nI s from by rw [show (4 : Int32) = nI 4 from rfl, nIle (by omega) (by omega)]; omega), hasBit_n (by omega) (by omega), if_pos c, some_bind, i10, hb, some_bind, bt_and _ _ hf, ho, hp, some_bind, bt_none (p := sgl none) fun i _ => rfl, if_pos (show nI 0 = 0 from rfl)]
          rw [this]
          rw [hp] at es
          have e4 := eats_up (pk := pk) (D := D) (s := s + 1) es (3 - s)
          rw [show s + 1 + (3 - s) = 4 by omega] at e4
          rw [e4]
          rfl
        | some i =>
          have hi : i < fn := by
            have : pick (fun i => (p i && !offB lim (AG (h + e * 24)) i) && decide (so i = s)) (olN (AG (h + e * 24)) lim) fn = some i := by
              rw [← hp, ← hpk]; rfl
            exact (pick_in this).1
          have nz : ¬ nI (bt (sgl (some i)) fn) = 0 := nI_ne0 (bt_some hi (decide_eq_true rfl)) (bt31 _ hf)
          have : LPlanner_eatenOn_20_17 N (nI e) (nI D) M (nI (bt (fun i => p i && !offB lim (AG (h + e * 24)) i) fn)) (nI (bt E fn)) (nI s) = some (.inl (nI (bt (fun j => E j || sgl (some i) j) fn), nI (s + 1))) := by
            unfold LPlanner_eatenOn_20_17
            rw [if_neg (show ¬ (4 : Int32) ≤ nI s from by rw [show (4 : Int32) = nI 4 from rfl, nIle (by omega) (by omega)]; omega), hasBit_n (by omega) (by omega), if_pos c, some_bind, i10, hb, some_bind, bt_and _ _ hf, ho, hp, some_bind, if_neg nz, bt_or _ _ hf, ltI_u, ltI_u, nI_s]
          rw [this, some_bind]
          rw [hp] at es
          exact ih (s + 1) _ (by omega) es F (by omega)
      · rw [if_neg c] at es
        have : LPlanner_eatenOn_20_17 N (nI e) (nI D) M (nI (bt (fun i => p i && !offB lim (AG (h + e * 24)) i) fn)) (nI (bt E fn)) (nI s) = some (.inl (nI (bt E fn), nI (s + 1))) := by
          unfold LPlanner_eatenOn_20_17
          rw [if_neg (show ¬ (4 : Int32) ≤ nI s from by rw [show (4 : Int32) = nI 4 from rfl, nIle (by omega) (by omega)]; omega), hasBit_n (by omega) (by omega), if_neg c, some_bind, i00, ltI_u, nI_s]
        rw [this, some_bind]
        exact ih (s + 1) E (by omega) es F (by omega)
  have g := go 4 0 (fun _ => false) rfl rfl N (by omega)
  rw [bt_none (p := fun _ => false) (n := fn) fun _ _ => rfl] at g
  rw [show (itr (fun z : Int32 × Int32 => LPlanner_eatenOn_20_17 N (nI e) (nI D) M (nI (bt (fun i => p i && !offB lim (AG (h + e * 24)) i) fn)) z.1 z.2) N (0, 0)) = _ from g, some_bind]
  cases eats pk D 4 <;> rfl
-- the reference's dish
theorem oldestR (hF : VRf M fn co li so) (hBF : BF fn co li so) (hk : ∀ i, i < fn → k i ≤ 3) (hs : VRs M 1 fn h k c A F) (hA : ∀ i, i < fn → F i ≤ 2 ∧ A i ≤ 100000000) (hN : 1000 < N) {s : Nat} (hs4 : s < 4) : sRef_oldestOf N (nI s) M = some (eR (pick (fun i => (decide (F i = 0) && !offB (fun i => limN (k i) (li i)) A i) && decide (so i = s)) (olN A (fun i => limN (k i) (li i))) fn)) := by
  have hf := hBF.2.1
  unfold sRef_oldestOf
  obtain ⟨p, hp⟩ : ∃ p : Nat → Bool, p = fun i => (decide (F i = 0) && !offB (fun i => limN (k i) (li i)) A i) && decide (so i = s) := ⟨_, rfl⟩
  obtain ⟨ol, hol⟩ : ∃ ol, ol = olN A (fun i => limN (k i) (li i)) := ⟨_, rfl⟩
  rw [← hp, ← hol]
  refine itr_b (fun i => (eR (pick p ol i), nI (10 + i))) fn (r := eR (pick p ol fn)) rfl ?_ ?_ (by omega) rfl
  · intro i hi
    show LRef_oldestOf_6_33 N (nI s) M (eR (pick p ol i)) (nI (10 + i)) = some (.inl (eR (pick p ol (i + 1)), nI (10 + (i + 1))))
    obtain ⟨f2, a2⟩ := hA i hi
    obtain ⟨u1, u2, u3, u4⟩ := hs.2 i hi
    obtain ⟨m1, m2, m3⟩ := hF.2 i hi
    obtain ⟨q1, q2, q3, q4⟩ := hBF.2.2 i hi
    have k1 := hk i hi
    have bl := limN_b (k := k i) q2 q3
    rw [show 10 * 1 + i = 10 + i by omega] at u1 u2 u3 u4
    have pi : p i = ((decide (F i = 0) && !decide (limN (k i) (li i) ≤ A i)) && decide (so i = s)) := by rw [hp]; rfl
    have e22 : (((if nI (F i) = 0 then (sRef_isOff (nI (10 + i)) M).bind fun zv24 => (if zv24 = 0 then rdc 20 (M 13) (nI (10 + i) - 10) fun zv25 => (if zv25 = nI s then some 1 else some 0) else some 0) else some 0) : Option (Int32))) = some (if p i = true then 1 else 0) := by
      simp only [nI_is0 (show F i ≤ 1000 by omega)]
      by_cases c0 : F i = 0
      · rw [if_pos c0, isOffR (by omega), some_bind, show (10 + i) % 10 = i by omega, u1, u3, m2]
        unfold offI
        rw [limI_n (by omega)]
        by_cases cl : limN (k i) (li i) ≤ A i
        · rw [if_neg (nI_nlt cl (by omega)), i10, if_neg (by rw [pi]; simp [cl])]
        · rw [if_pos (nI_lt (by omega) (by omega)), i00, show (10 : Int32) = nI 10 from rfl, pk_sub (by omega), show 10 + i - 10 = i by omega, rdc_n (by omega) (by omega), m3]
          by_cases cs : so i = s
          · rw [if_pos (by rw [cs]), if_pos (by rw [pi]; simp [c0, cl, cs])]
          · rw [if_neg (show ¬ nI (so i) = nI s by rw [nIeq (by omega) (by omega)]; exact cs), if_neg (by rw [pi]; simp [cs])]
      · rw [if_neg c0, if_neg (by rw [pi]; simp [c0])]
    unfold LRef_oldestOf_6_33
    rw [rdc_0 (by omega) (by omega), hF.1, show (10 : Int32) = nI 10 from rfl, nI_add, if_neg (by rw [nIle (by omega) (by omega)]; omega), rdc_n (by omega) (by omega), u4]
    rw [show (nI 10 : Int32) = 10 from rfl, e22, some_bind, show 10 + (i + 1) = 10 + i + 1 by omega]
    by_cases c0 : p i = true
    · rw [if_pos c0, i10]
      cases ep : pick p ol i with
      | none =>
        rw [pick_N c0 ep, if_pos (show eR none < 0 from by decide), ltI_u, nI_s]
        rfl
      | some j =>
        have hj := pick_in ep
        rw [pick_S c0 ep, if_neg (show ¬ eR (some j) < 0 from nI_pos (by omega)), show eR (some j) = nI (10 + j) from rfl, isOlderR hF hf hk hs hi (by omega), some_bind, hol]
        by_cases c1 : olN A (fun i => limN (k i) (li i)) i j = true
        · rw [if_pos c1, i10, if_pos c1, ltI_u, nI_s]; rfl
        · rw [if_neg c1, i00, if_neg c1, ltI_u, nI_s]; rfl
    · rw [if_neg c0, i00, pick_F c0, ltI_u, nI_s]
  · show LRef_oldestOf_6_33 N (nI s) M (eR (pick p ol fn)) (nI (10 + fn)) = _
    unfold LRef_oldestOf_6_33
    rw [rdc_0 (by omega) (by omega), hF.1, show (10 : Int32) = nI 10 from rfl, nI_add, if_pos (by rw [nIle (by omega) (by omega)]; omega)]
/-- the state of the reference's copy, of what is there: p -/
def EvP (M0 M : Mm) (fn q hr t : Nat) (w r k c a : Nat → Nat) (p : Nat → Bool) : Prop := ∃ F A : Nat → Nat, EvR M0 M fn q hr t w r k c a F A ∧ ∀ i, i < fn → p i = decide (F i = 0)
theorem eatR (hC : VRc M0 cn q w r d) (hF : VRf M0 fn co li so) (hBF : BF fn co li so) (hk : ∀ i, i < fn → k i ≤ 3) (hN : 1000 < N) (hh : hr + t ≤ 150000) {p : Nat → Bool} (h0 : EvP M0 M fn q hr t w r k c a p) {D : Nat} (hD : D ≤ 1000) : ∃ M', sRef_eatDish N (nI D) M = some (match eats (pkS p (offB (fun i => limN (k i) (li i)) (agT q hr w r k c a t)) so (olN (agT q hr w r k c a t) (fun i => limN (k i) (li i))) fn) D 4 with | none => 0 | some _ => 1, M') ∧ Scr M0 M' ∧ ∀ E, eats (pkS p (offB (fun i => limN (k i) (li i)) (agT q hr w r k c a t)) so (olN (agT q hr w r k c a t) (fun i => limN (k i) (li i))) fn) D 4 = some E → EvP M0 M' fn q hr t w r k c a (fun i => p i && !E i) := by
  have hf := hBF.2.1
  generalize hpk : pkS p (offB (fun i => limN (k i) (li i)) (agT q hr w r k c a t)) so (olN (agT q hr w r k c a t) (fun i => limN (k i) (li i))) fn = pk
  have pkin : ∀ s i, pk s = some i → i < fn ∧ so i = s := fun s i hp => by
    rw [← hpk] at hp
    obtain ⟨z1, z2⟩ := pick_in (p := fun i => (p i && !offB (fun i => limN (k i) (li i)) (agT q hr w r k c a t) i) && decide (so i = s)) hp
    refine ⟨z1, ?_⟩
    have z2 : ((p i && !offB (fun i => limN (k i) (li i)) (agT q hr w r k c a t) i) && decide (so i = s)) = true := z2
    rw [Bool.and_eq_true] at z2
    exact of_decide_eq_true z2.2
  have go : ∀ d s E m, s + d = 4 → eats pk D s = some E → EvP M0 m fn q hr t w r k c a (fun i => p i && !E i) → ∀ G, d < G → ∃ M', itr (fun z : Int32 × Mm => LRef_eatDish_2_23 N (nI D) z.1 z.2) G (nI s, m) = some (match eats pk D 4 with | none => .inl M' | some _ => .inr M') ∧ Scr M0 M' ∧ ∀ E, eats pk D 4 = some E → EvP M0 M' fn q hr t w r k c a (fun i => p i && !E i) := by
    intro d
    induction d with
    | zero =>
      intro s E m hs hE hev G hG
      obtain rfl : s = 4 := by omega
      obtain ⟨G, rfl⟩ : ∃ m, G = m + 1 := ⟨G - 1, by omega⟩
      refine ⟨m, ?_, hev.elim fun _ z => z.elim fun _ z => z.1.1, fun E' hE' => ?_⟩
      · unfold itr
        have : LRef_eatDish_2_23 N (nI D) (nI 4) m = some (.inr (.inr m)) := by
          unfold LRef_eatDish_2_23
          rw [if_pos (show (4 : Int32) ≤ nI 4 from by decide)]
        show (LRef_eatDish_2_23 N (nI D) (nI 4) m).bind _ = _
        rw [this, hE]
        rfl
      · rw [hE] at hE'
        cases hE'
        exact hev
    | succ d ih =>
      intro s E m hs hE hev G hG
      obtain ⟨G, rfl⟩ : ∃ m, G = m + 1 := ⟨G - 1, by omega⟩
      have es := eats_s pk D s
      rw [hE, some_bind] at es
      by_cases c0 : D.testBit s = true
      · rw [if_pos c0] at es
        obtain ⟨Fs, A, h1, h2⟩ := id hev
        have ho := oldestR (hF.scr h1.1) hBF hk h1.2.1 (fun i hi => ⟨(h1.2.2 i hi).1, by have := (h1.2.2 i hi).2.1; omega⟩) hN (s := s) (by omega)
        have ep : pick (fun i => (decide (Fs i = 0) && !offB (fun i => limN (k i) (li i)) A i) && decide (so i = s)) (olN A (fun i => limN (k i) (li i))) fn = pk s := by
          rw [← hpk]
          refine pick_congr (fun i hi => ?_) fun i j hi hj pi pj => ?_
          · have x : (p i && !E i) = decide (Fs i = 0) := h2 i hi
            have y := (h1.2.2 i hi).2.2
            by_cases cF : Fs i = 0
            · have x1 : (p i && !E i) = true := by rw [x]; exact decide_eq_true cF
              rw [Bool.and_eq_true] at x1
              rw [decide_eq_true cF, x1.1]
              unfold offB
              rw [y cF]
            · rw [decide_eq_false cF, Bool.false_and, Bool.false_and]
              by_cases cs : so i = s
              · have x1 : (p i && !E i) = false := by rw [x]; exact decide_eq_false cF
                cases hEi : E i with
                | false =>
                  rw [hEi, Bool.not_false, Bool.and_true] at x1
                  rw [x1, Bool.false_and, Bool.false_and]
                | true =>
                  obtain ⟨t', t1, t2⟩ := eats_in (G := fun s i => i < fn ∧ so i = s) pkin hE i hEi
                  have := t2.2
                  omega
              · rw [decide_eq_false cs, Bool.and_false]
          · rw [Bool.and_eq_true, Bool.and_eq_true] at pi pj
            unfold olN
            rw [(h1.2.2 i hi).2.2 (of_decide_eq_true pi.1.1), (h1.2.2 j hj).2.2 (of_decide_eq_true pj.1.1)]
        rw [ep] at ho
        unfold itr
        show ∃ M', (LRef_eatDish_2_23 N (nI D) (nI s) m).bind _ = _ ∧ _
        cases hp : pk s with
        | none =>
          rw [hp] at es ho
          have : LRef_eatDish_2_23 N (nI D) (nI s) m = some (.inr (.inl m)) := by
            unfold LRef_eatDish_2_23
            rw [if_neg (show ¬ (4 : Int32) ≤ nI s from by rw [show (4 : Int32) = nI 4 from rfl, nIle (by omega) (by omega)]; omega), has_n (by omega) (by omega), if_pos c0, some_bind, i10, ho, some_bind, some_bind, if_neg (show ¬ 0 ≤ eR none from by decide)]
          have e4 := eats_up (pk := pk) (D := D) (s := s + 1) es (3 - s)
          rw [show s + 1 + (3 - s) = 4 by omega] at e4
          rw [this, e4]
          exact ⟨m, rfl, h1.1, fun E' hE' => by cases hE'⟩
        | some i =>
          rw [hp] at es ho
          obtain ⟨hi, -⟩ := pkin s i hp
          have : LRef_eatDish_2_23 N (nI D) (nI s) m = some (.inl (nI (s + 1), mset m 25 (10 + i) 1)) := by
            unfold LRef_eatDish_2_23
            rw [if_neg (show ¬ (4 : Int32) ≤ nI s from by rw [show (4 : Int32) = nI 4 from rfl, nIle (by omega) (by omega)]; omega), has_n (by omega) (by omega), if_pos c0, some_bind, i10, ho, some_bind, some_bind, show eR (some i) = nI (10 + i) from rfl, if_pos (nI_pos' (by omega)), some_bind, i10, inc_n (by omega) (by omega), ltM_u, cl_n (by omega), ltI_u, nI_s]
          rw [this, some_bind]
          refine ih (s + 1) _ _ (by omega) es ⟨mrk Fs i, A, EvR_eat h1 hf hi, fun j hj => ?_⟩ G (by omega)
          have x : (p j && !E j) = decide (Fs j = 0) := h2 j hj
          show (p j && !(E j || decide (j = i))) = decide ((if j = i then 1 else Fs j) = 0)
          by_cases cj : j = i
          · rw [if_pos cj, decide_eq_true cj, Bool.or_true, Bool.not_true, Bool.and_false]
            rfl
          · rw [if_neg cj, decide_eq_false cj, Bool.or_false]
            exact x
      · rw [if_neg c0] at es
        have : LRef_eatDish_2_23 N (nI D) (nI s) m = some (.inl (nI (s + 1), m)) := by
          unfold LRef_eatDish_2_23
          rw [if_neg (show ¬ (4 : Int32) ≤ nI s from by rw [show (4 : Int32) = nI 4 from rfl, nIle (by omega) (by omega)]; omega), has_n (by omega) (by omega), if_neg c0, some_bind, i00, some_bind, if_pos (show (0 : Int32) ≤ 0 from by decide), some_bind, i00, ltI_u, nI_s]
        unfold itr
        show ∃ M', (LRef_eatDish_2_23 N (nI D) (nI s) m).bind _ = _ ∧ _
        rw [this, some_bind]
        exact ih (s + 1) E m (by omega) es hev G (by omega)
  obtain ⟨F0, A0, h1, h2⟩ := h0
  obtain ⟨M', g1, g2, g3⟩ := go 4 0 (fun _ => false) M rfl rfl ⟨F0, A0, h1, fun i hi => by rw [← h2 i hi]; show (p i && !false) = p i; rw [Bool.not_false, Bool.and_true]⟩ N (by omega)
  refine ⟨M', ?_, g2, g3⟩
  unfold sRef_eatDish
  rw [show (itr (fun z : Int32 × Mm => LRef_eatDish_2_23 N (nI D) z.1 z.2) N (0, M)) = _ from g1, some_bind]
  cases eats pk D 4 <;> rfl
end PL
