/-! PURE PART 24: the text: figures, numbers, items. By hand. -/
def isF (x : Int32) : Bool := decide (¬ x < 48 ∧ ¬ 57 < x)
def dgv (x : Int32) : Nat := nN x - 48
theorem isF_v {x : Int32} (h : isF x = true) : x = nI (48 + dgv x) ∧ dgv x ≤ 9 := by
  obtain ⟨h1, h2⟩ := of_decide_eq_true h
  rw [Int32.lt_iff_toInt_lt] at h1 h2
  have e1 : (48 : Int32).toInt = 48 := rfl
  have e2 : (57 : Int32).toInt = 57 := rfl
  obtain ⟨j, hj, rfl⟩ := nI_ofRange (n := 58) (a := x) (by omega) (by omega) (by omega)
  rw [nI_t (by omega)] at h1
  unfold dgv
  rw [nN_I (by omega), show 48 + (j - 48) = j by omega]
  exact ⟨rfl, by omega⟩
theorem isFig_e (x : Int32) : sText_isFigure x = some (if isF x = true then 1 else 0) := by
  unfold sText_isFigure isF
  by_cases h1 : x < 48
  · rw [if_pos h1, if_neg (by simp [h1])]
  · rw [if_neg h1]
    by_cases h2 : 57 < x
    · rw [if_pos h2, if_neg (by simp [h2])]
    · rw [if_neg h2, if_pos (decide_eq_true ⟨h1, h2⟩)]
theorem inFig_e (x : Int32) : sRef_in (Int32.toInt64 x) 48 57 = some (if isF x = true then 1 else 0) := by
  rw [show sRef_in (Int32.toInt64 x) 48 57 = sOff_isWithin x 48 57 from in_eq x 48 57, ← isFig_e]
  rfl
def nf (B : Nat → Int32) (p : Nat) : Nat → Nat
  | 0 => 0
  | t + 1 => if nf B p t = t ∧ isF (B (p + t)) = true then t + 1 else nf B p t
theorem nf_s (B : Nat → Int32) (p t : Nat) : nf B p (t + 1) = if nf B p t = t ∧ isF (B (p + t)) = true then t + 1 else nf B p t := rfl
theorem nf_p (B : Nat → Int32) (p : Nat) : ∀ t, nf B p t ≤ t ∧ (∀ i, i < nf B p t → isF (B (p + i)) = true) ∧ (nf B p t < t → isF (B (p + nf B p t)) = false)
  | 0 => ⟨Nat.le_refl 0, fun i hi => absurd hi (Nat.not_lt_zero i), fun h => absurd h (Nat.not_lt_zero _)⟩
  | t + 1 => by
    obtain ⟨h1, h2, h3⟩ := nf_p B p t
    rw [nf_s]
    by_cases c : nf B p t = t ∧ isF (B (p + t)) = true
    · rw [if_pos c]
      refine ⟨Nat.le_refl _, fun i hi => ?_, fun h => absurd h (Nat.lt_irrefl _)⟩
      by_cases e : i = t
      · rw [e]; exact c.2
      · exact h2 i (by omega)
    · rw [if_neg c]
      refine ⟨by omega, h2, fun h => ?_⟩
      by_cases e : nf B p t = t
      · rw [e]
        cases hb : isF (B (p + t)) with
        | false => rfl
        | true => exact absurd ⟨e, hb⟩ c
      · exact h3 (by omega)
theorem nf_34 (B : Nat → Int32) (p : Nat) : nf B p 3 = min (nf B p 4) 3 := by
  have h := (nf_p B p 3).1
  rw [nf_s B p 3]
  by_cases c : nf B p 3 = 3 ∧ isF (B (p + 3)) = true
  · rw [if_pos c]; omega
  · rw [if_neg c]; omega
def vl (B : Nat → Int32) (p : Nat) : Nat → Nat
  | 0 => 0
  | t + 1 => 10 * vl B p t + dgv (B (p + t))
theorem vl_s (B : Nat → Int32) (p t : Nat) : vl B p (t + 1) = 10 * vl B p t + dgv (B (p + t)) := rfl
theorem vl_b (B : Nat → Int32) (p : Nat) {n : Nat} (h : ∀ i, i < n → isF (B (p + i)) = true) : ∀ t, t ≤ n → vl B p t + 1 ≤ 10 ^ t
  | 0, _ => Nat.le_refl 1
  | t + 1, ht => by
    have h1 := vl_b B p h t (by omega)
    have h2 := (isF_v (h t (by omega))).2
    rw [vl_s, Nat.pow_succ]
    omega
/-- the text -/
def TxX (M : Mm) (len : Nat) (B : Nat → Int32) : Prop := len ≤ 400 ∧ M 1 1 = nI len ∧ (∀ j, j < len → M 2 j = B j) ∧ ∀ j, len ≤ j → B j = 0
def TxR (M : Mm) (len : Nat) (B : Nat → Int32) : Prop := len ≤ 400 ∧ M 0 0 = nI len ∧ (∀ j, j < len → M 1 j = B j) ∧ ∀ j, len ≤ j → B j = 0
section PA
variable {B : Nat → Int32} {len p : Nat} {M M' : Mm} {N : Nat}
theorem byteX (h : TxX M len B) {j : Nat} (hj : j ≤ 10000) : sText_byteAt (nI j) M = some (B j) := by
  obtain ⟨h1, h2, h3, h4⟩ := h
  unfold sText_byteAt
  rw [h2]
  by_cases c : len ≤ j
  · rw [if_pos (by rw [nIle (by omega) (by omega)]; exact c), h4 j c]
  · rw [if_neg (by rw [nIle (by omega) (by omega)]; exact c), atf_n (by omega) (by omega), h3 j (by omega)]
theorem byteR (h : TxR M len B) {j : Nat} (hj : j ≤ 10000) : sRef_byteAt (nI j) M = some (B j) := by
  obtain ⟨h1, h2, h3, h4⟩ := h
  unfold sRef_byteAt
  rw [h2]
  by_cases c : len ≤ j
  · rw [if_pos (by rw [nIle (by omega) (by omega)]; exact c), h4 j c]
  · rw [if_neg (by rw [nIle (by omega) (by omega)]; exact c), rdc_n (by omega) (by omega), h3 j (by omega)]
theorem addDig {x v : Nat} {y : Int32} (hy : isF y = true) : 10 * nI v + y - 48 = nI (10 * v + dgv y) := by
  obtain ⟨e, -⟩ := isF_v hy
  generalize dgv y = d at e
  subst e
  rw [ten_n, nI_add, show (48 : Int32) = nI 48 from rfl, pk_sub (by omega)]
  congr 1
  omega
theorem readNumX (h : TxX M len B) (hp : p ≤ 1000) (hN : 1000 < N) : itr (fun z : Int32 × Int32 × Int32 => LText_readNumber_7_16 N (nI p) M z.1 z.2.1 z.2.2) N (0, 0, 0) = some (nI (vl B p (nf B p 3)), nI (nf B p 3)) := by
  obtain ⟨n1, n2, n3⟩ := nf_p B p 3
  refine itr_n (fun i => (nI (vl B p i), nI i, nI i)) (nf B p 3) rfl (fun i hi => ?_) ?_ (by omega)
  · show LText_readNumber_7_16 N (nI p) M (nI (vl B p i)) (nI i) (nI i) = some (.inl (nI (vl B p (i + 1)), nI (i + 1), nI (i + 1)))
    have hf := n2 i hi
    unfold LText_readNumber_7_16
    rw [if_neg (show ¬ (3 : Int32) ≤ nI i from by rw [show (3 : Int32) = nI 3 from rfl, nIle (by omega) (by omega)]; omega), nI_add, byteX h (by omega), some_bind, isFig_e, if_pos hf, some_bind, i10, some_bind, addDig (x := 0) hf, ltI_u, ltI_u, ltI_u, nI_s, vl_s]
  · show LText_readNumber_7_16 N (nI p) M (nI (vl B p (nf B p 3))) (nI (nf B p 3)) (nI (nf B p 3)) = _
    unfold LText_readNumber_7_16
    by_cases c : nf B p 3 = 3
    · rw [if_pos (show (3 : Int32) ≤ nI (nf B p 3) from by rw [c]; decide)]
    · rw [if_neg (show ¬ (3 : Int32) ≤ nI (nf B p 3) from by rw [show (3 : Int32) = nI 3 from rfl, nIle (by omega) (by omega)]; omega), nI_add, byteX h (by omega), some_bind, isFig_e, n3 (by omega), if_neg (by decide), some_bind, i00]
theorem TxR_place (h : TxR M len B) {x : Int32} : TxR (mset M 0 31 x) len B := ⟨h.1, by rw [mset_eq, upd_ne _ _ (by omega)]; exact h.2.1, by rw [mset_ne _ _ _ (by omega)]; exact h.2.2.1, h.2.2.2⟩
theorem runR (h : TxR M len B) (h31 : M 0 31 = nI p) (hp : p ≤ 1000) (hN : 1000 < N) : itr (fun z : Int32 × Int32 × Mm => LRef_figures_12_44 N z.1 z.2.1 z.2.2) N (0, 0, M) = some (nI (nf B p 4), nI (vl B p (nf B p 4)), mset M 0 31 (nI (p + nf B p 4))) := by
  obtain ⟨n1, n2, n3⟩ := nf_p B p 4
  refine itr_n (fun i => (nI i, nI (vl B p i), mset M 0 31 (nI (p + i)))) (nf B p 4) ?_ (fun i hi => ?_) ?_ (by omega)
  · show (0, 0, M) = (nI 0, nI 0, mset M 0 31 (nI p))
    rw [mset_self h31]; rfl
  · show LRef_figures_12_44 N (nI i) (nI (vl B p i)) (mset M 0 31 (nI (p + i))) = some (.inl (nI (i + 1), nI (vl B p (i + 1)), mset M 0 31 (nI (p + (i + 1)))))
    have hf := n2 i hi
    have e31 : mset M 0 31 (nI (p + i)) 0 31 = nI (p + i) := by rw [mset_eq, upd_eq]
    unfold LRef_figures_12_44
    rw [e31, byteR (TxR_place h) (by omega), some_bind, inFig_e, if_pos hf, some_bind, i10, if_neg (show ¬ (4 : Int32) ≤ nI i from by rw [show (4 : Int32) = nI 4 from rfl, nIle (by omega) (by omega)]; omega), some_bind, addDig (x := 0) hf, ltI_u, ltI_u, nI_s, nI_s, ltM_u, mset_mset, vl_s]
    rfl
  · show LRef_figures_12_44 N (nI (nf B p 4)) (nI (vl B p (nf B p 4))) (mset M 0 31 (nI (p + nf B p 4))) = _
    have e31 : mset M 0 31 (nI (p + nf B p 4)) 0 31 = nI (p + nf B p 4) := by rw [mset_eq, upd_eq]
    unfold LRef_figures_12_44
    rw [e31, byteR (TxR_place h) (by omega), some_bind, inFig_e]
    by_cases c : isF (B (p + nf B p 4)) = true
    · have : nf B p 4 = 4 := by
        by_cases e : nf B p 4 = 4
        · exact e
        · rw [n3 (by omega)] at c; exact (Bool.false_ne_true c).elim
      rw [if_pos c, some_bind, i10, if_pos (show (4 : Int32) ≤ nI (nf B p 4) from by rw [this]; decide)]
    · rw [if_neg c, some_bind, i00]
end PA
-- items
def posI (B : Nat → Int32) (p : Nat) : Nat → Nat
  | 0 => p + 1
  | i + 1 => posI B p i + nf B (posI B p i) 3 + 1
theorem posI_s (B : Nat → Int32) (p i : Nat) : posI B p (i + 1) = posI B p i + nf B (posI B p i) 3 + 1 := rfl
theorem posI_b (B : Nat → Int32) (p : Nat) : ∀ i, posI B p i ≤ p + 1 + 4 * i ∧ p + 1 + i ≤ posI B p i
  | 0 => ⟨Nat.le_refl _, Nat.le_refl _⟩
  | i + 1 => by
    have h := posI_b B p i
    have h2 := (nf_p B (posI B p i) 3).1
    rw [posI_s]
    omega
def okI (B : Nat → Int32) (p i : Nat) : Prop := 1 ≤ nf B (posI B p i) 4 ∧ nf B (posI B p i) 4 ≤ 3
def sepI (B : Nat → Int32) (p i : Nat) : Int32 := B (posI B p i + nf B (posI B p i) 3)
def valI (B : Nat → Int32) (p i : Nat) : Nat := vl B (posI B p i) (nf B (posI B p i) 3)
theorem valI_b (B : Nat → Int32) (p i : Nat) : valI B p i ≤ 999 := by
  obtain ⟨n1, n2, -⟩ := nf_p B (posI B p i) 3
  have h := vl_b B (posI B p i) n2 _ (Nat.le_refl _)
  have h2 : 10 ^ nf B (posI B p i) 3 ≤ 10 ^ 3 := Nat.pow_le_pow_right (by omega) n1
  unfold valI
  omega
def ItemP (B : Nat → Int32) (p m : Nat) : Prop := 1 ≤ m ∧ (∀ i, i + 1 < m → okI B p i ∧ sepI B p i = 44) ∧ okI B p (m - 1) ∧ sepI B p (m - 1) = 59
theorem ItemP_lt {B : Nat → Int32} {p m m' : Nat} (h : ItemP B p m) (h' : ItemP B p m') : ¬ m < m' := fun hl => by
  have e1 := h.2.2.2
  have e2 := (h'.2.1 (m - 1) (by have := h.1; omega)).2
  rw [e1] at e2
  exact absurd e2 (by decide)
theorem ItemP_u {B : Nat → Int32} {p m m' : Nat} (h : ItemP B p m) (h' : ItemP B p m') : m = m' := by
  have h1 := ItemP_lt h h'
  have h2 := ItemP_lt h' h
  omega
/-- what the class reads changes only the item -/
def FrI (M M' : Mm) : Prop := (∀ r, r ≠ 1 → r ≠ 3 → M' r = M r) ∧ M' 1 1 = M 1 1
section PB
variable {B : Nat → Int32} {len p : Nat} {M M' : Mm} {N : Nat}
theorem TxX_fr (h : TxX M len B) (hf : FrI M M') : TxX M' len B := ⟨h.1, by rw [hf.2]; exact h.2.1, by rw [hf.1 2 (by omega) (by omega)]; exact h.2.2.1, h.2.2.2⟩
theorem readItemX (h : TxX M len B) (hp : p < len) (hN : 1000 < N) : ∃ M', FrI M M' ∧ M' 1 2 = B p ∧ ((∃ m, m ≤ 6 ∧ ItemP B p m ∧ sText_readItem N (nI p) M = some (nI (posI B p m), M') ∧ M' 1 4 = nI m ∧ ∀ i, i < m → M' 3 i = nI (valI B p i)) ∨ ((∀ m, m ≤ 6 → ¬ ItemP B p m) ∧ sText_readItem N (nI p) M = some (-4, M'))) := by
  have hl := h.1
  have go : ∀ d i m, i + d = 6 → FrI M m → m 1 2 = B p → m 1 4 = nI i → (∀ j, j < i → m 3 j = nI (valI B p j)) → (∀ j, j < i → okI B p j ∧ sepI B p j = 44) → ∀ G, d < G → ∃ M' x, itr (fun z : Int32 × Int32 × Mm => LText_readItem_20_18 N z.1 z.2.1 z.2.2) G (nI (posI B p i), nI i, m) = some x ∧ FrI M M' ∧ M' 1 2 = B p ∧ ((∃ m, m ≤ 6 ∧ ItemP B p m ∧ x = .inr (.inl (nI (posI B p m), M')) ∧ M' 1 4 = nI m ∧ ∀ i, i < m → M' 3 i = nI (valI B p i)) ∨ ((∀ m, m ≤ 6 → ¬ ItemP B p m) ∧ (x = .inl M' ∨ x = .inr (.inr (.inl M')) ∨ x = .inr (.inr (.inr M'))))) := by
    intro d
    induction d with
    | zero =>
      intro i m hi hfr h12 h14 h3 hch G hG
      obtain ⟨G, rfl⟩ : ∃ m, G = m + 1 := ⟨G - 1, by omega⟩
      obtain rfl : i = 6 := by omega
      refine ⟨m, .inr (.inr (.inr m)), ?_, hfr, h12, Or.inr ⟨fun m' hm' hI => ?_, Or.inr (Or.inr rfl)⟩⟩
      · unfold itr
        have : LText_readItem_20_18 N (nI (posI B p 6)) (nI 6) m = some (.inr (.inr (.inr (.inr m)))) := by
          unfold LText_readItem_20_18
          rw [if_pos (by decide)]
        show (LText_readItem_20_18 N (nI (posI B p 6)) (nI 6) m).bind _ = _
        rw [this]
        rfl
      · have e1 := hI.2.2.2
        have e2 := (hch (m' - 1) (by have := hI.1; omega)).2
        rw [e1] at e2
        exact absurd e2 (by decide)
    | succ d ih =>
      intro i m hi hfr h12 h14 h3 hch G hG
      obtain ⟨G, rfl⟩ : ∃ m, G = m + 1 := ⟨G - 1, by omega⟩
      have hpb := posI_b B p i
      have htx := TxX_fr h hfr
      have hrn := readNumX (N := N) htx (p := posI B p i) (by omega) hN
      obtain ⟨n1, n2, n3⟩ := nf_p B (posI B p i) 3
      obtain ⟨k1, k2, k3⟩ := nf_p B (posI B p i) 4
      have n34 := nf_34 B (posI B p i)
      have hnot : ¬ (okI B p i ∧ (sepI B p i = 44 ∨ sepI B p i = 59)) → ∀ m', m' ≤ 6 → ¬ ItemP B p m' := fun hno m' hm' hI => by
        by_cases c1 : m' ≤ i
        · have e1 := hI.2.2.2
          have e2 := (hch (m' - 1) (by have := hI.1; omega)).2
          rw [e1] at e2
          exact absurd e2 (by decide)
        · by_cases c2 : i + 1 < m'
          · have := hI.2.1 i c2
            exact hno ⟨this.1, Or.inl this.2⟩
          · have e : m' - 1 = i := by omega
            have e1 := hI.2.2
            rw [e] at e1
            exact hno ⟨e1.1, Or.inr e1.2⟩
      unfold itr
      show ∃ M' x, (LText_readItem_20_18 N (nI (posI B p i)) (nI i) m).bind _ = _ ∧ _
      by_cases c0 : nf B (posI B p i) 3 = 0
      · have hread : sText_readNumber N (nI (posI B p i)) m = some (nI (posI B p i), m) := by
          unfold sText_readNumber
          rw [hrn, some_bind]
          show (if nI (nf B (posI B p i) 3) ≤ 0 then some (nI (posI B p i) + nI (nf B (posI B p i) 3), m) else _) = _
          rw [c0, if_pos (show nI 0 ≤ 0 from by decide), nI_add, Nat.add_zero]
        have : LText_readItem_20_18 N (nI (posI B p i)) (nI i) m = some (.inr (.inl m)) := by
          unfold LText_readItem_20_18
          rw [if_neg (show ¬ (6 : Int32) ≤ nI i from by rw [show (6 : Int32) = nI 6 from rfl, nIle (by omega) (by omega)]; omega), hread, some_bind]
          exact if_pos rfl
        rw [this]
        exact ⟨m, .inl m, rfl, hfr, h12, Or.inr ⟨hnot fun q => by have := q.1.1; omega, Or.inl rfl⟩⟩
      · obtain ⟨m2, hm2⟩ : ∃ m2, m2 = mset (mset m 3 i (nI (valI B p i))) 1 4 (nI (i + 1)) := ⟨_, rfl⟩
        have hread : sText_readNumber N (nI (posI B p i)) m = some (nI (posI B p i + nf B (posI B p i) 3), m2) := by
          unfold sText_readNumber
          rw [hrn, some_bind]
          show (if nI (nf B (posI B p i) 3) ≤ 0 then _ else ltM (putf 6 m 3 (m 1 4) (nI (vl B (posI B p i) (nf B (posI B p i) 3)))) fun zM21 => ltM (mset zM21 1 4 ((zM21 1 4) + 1)) fun zM22 => some (nI (posI B p i) + nI (nf B (posI B p i) 3), zM22)) = _
          rw [if_neg (nI_nle (by omega) (by omega)), h14, putf_n (by omega) (by omega), ltM_u, mset_ne _ _ _ (by omega), h14, nI_s, ltM_u, nI_add, hm2]
          rfl
        have fr2 : FrI M m2 := by
          refine ⟨fun r r1 r3 => by rw [hm2, mset_ne _ _ _ r1, mset_ne _ _ _ r3]; exact hfr.1 r r1 r3, ?_⟩
          rw [hm2, mset_eq, upd_ne _ _ (by omega), mset_ne _ _ _ (by omega)]
          exact hfr.2
        have e12 : m2 1 2 = B p := by rw [hm2, mset_eq, upd_ne _ _ (by omega), mset_ne _ _ _ (by omega)]; exact h12
        have e14 : m2 1 4 = nI (i + 1) := by rw [hm2, mset_eq, upd_eq]
        have e3 : ∀ j, j < i + 1 → m2 3 j = nI (valI B p j) := fun j hj => by
          rw [hm2, mset_ne _ _ _ (by omega), mset_eq]
          by_cases ej : j = i
          · subst ej; rw [upd_eq]
          · rw [upd_ne _ _ ej]; exact h3 j (by omega)
        have hby : sText_byteAt (nI (posI B p i + nf B (posI B p i) 3)) m2 = some (sepI B p i) := byteX (TxX_fr h fr2) (by omega)
        have hok : ∀ x : Int32, sepI B p i = x → isF x = false → okI B p i := fun x hx hxf => by
          refine ⟨by omega, ?_⟩
          by_cases c4 : nf B (posI B p i) 4 = 4
          · have e := k2 3 (by omega)
            have e2 : sepI B p i = B (posI B p i + 3) := by
              unfold sepI
              rw [n34, c4]
              rfl
            rw [e2] at hx
            rw [hx, hxf] at e
            exact (Bool.false_ne_true e).elim
          · omega
        have hhead : LText_readItem_20_18 N (nI (posI B p i)) (nI i) m = if sepI B p i = 59 then some (.inr (.inr (.inl (nI (posI B p (i + 1)), m2)))) else (if sepI B p i = 44 then some (.inl (nI (posI B p (i + 1)), nI (i + 1), m2)) else some (.inr (.inr (.inr (.inl m2))))) := by
          unfold LText_readItem_20_18
          rw [if_neg (show ¬ (6 : Int32) ≤ nI i from by rw [show (6 : Int32) = nI 6 from rfl, nIle (by omega) (by omega)]; omega), hread, some_bind]
          show (if nI (posI B p i + nf B (posI B p i) 3) = nI (posI B p i) then _ else (sText_byteAt (nI (posI B p i + nf B (posI B p i) 3)) m2).bind _) = _
          rw [if_neg (by rw [nIeq (by omega) (by omega)]; omega), hby, some_bind, nI_s, nI_s, ltI_u, ltI_u, posI_s]
        rw [hhead]
        by_cases c59 : sepI B p i = 59
        · rw [if_pos c59]
          refine ⟨m2, .inr (.inl (nI (posI B p (i + 1)), m2)), rfl, fr2, e12, Or.inl ⟨i + 1, by omega, ⟨by omega, fun j hj => hch j (by omega), ?_, c59⟩, rfl, e14, e3⟩⟩
          exact hok 59 c59 (by decide)
        · rw [if_neg c59]
          by_cases c44 : sepI B p i = 44
          · rw [if_pos c44]
            refine ih (i + 1) m2 (by omega) fr2 e12 e14 e3 (fun j hj => ?_) G (by omega)
            by_cases ej : j = i
            · subst ej; exact ⟨hok 44 c44 (by decide), c44⟩
            · exact hch j (by omega)
          · rw [if_neg c44]
            refine ⟨m2, .inr (.inr (.inl m2)), rfl, fr2, e12, Or.inr ⟨hnot fun q => ?_, Or.inr (Or.inl rfl)⟩⟩
            rcases q.2 with z | z
            · exact c44 z
            · exact c59 z
  have fr0 : FrI M (mset (mset M 1 2 (B p)) 1 4 0) := by
    refine ⟨fun r r1 r3 => by rw [mset_ne _ _ _ r1, mset_ne _ _ _ r1], ?_⟩
    rw [mset_eq, upd_ne _ _ (by omega), mset_eq, upd_ne _ _ (by omega)]
  obtain ⟨M', x, g1, g2, g3, g4⟩ := go 6 0 (mset (mset M 1 2 (B p)) 1 4 0) rfl fr0 (by rw [mset_eq, upd_ne _ _ (by omega), mset_eq, upd_eq]) (by rw [mset_eq, upd_eq]; rfl) (fun j hj => absurd hj (by omega)) (fun j hj => absurd hj (by omega)) N (by omega)
  have head : sText_readItem N (nI p) M = (some x).bind (fun q => match q with
      | .inl zM19 => some ((-4), zM19)
      | .inr (.inl (zv20, zM21)) => some (zv20, zM21)
      | .inr (.inr (.inl zM22)) => some ((-4), zM22)
      | .inr (.inr (.inr zM23)) => some ((-4), zM23)) := by
    rw [← g1]
    unfold sText_readItem
    rw [byteX h (by omega), some_bind, ltM_u, ltM_u, ltI_u, nI_s]
    rfl
  refine ⟨M', g2, g3, ?_⟩
  rw [head]
  rcases g4 with ⟨m, m1, m2, rfl, m4, m5⟩ | ⟨m1, m2⟩
  · exact Or.inl ⟨m, m1, m2, rfl, m4, m5⟩
  · refine Or.inr ⟨m1, ?_⟩
    rcases m2 with rfl | rfl | rfl <;> rfl
/-- what the reference's numbers change -/
def FrF (M M' : Mm) : Prop := (∀ r, r ≠ 0 → r ≠ 29 → M' r = M r) ∧ ∀ j, j ≠ 31 → M' 0 j = M 0 j
theorem TxR_fr (h : TxR M len B) (hf : FrF M M') : TxR M' len B := ⟨h.1, by rw [hf.2 0 (by omega)]; exact h.2.1, by rw [hf.1 1 (by omega) (by omega)]; exact h.2.2.1, h.2.2.2⟩
theorem figuresR (h : TxR M len B) (hp : p < len) (h31 : M 0 31 = nI (p + 1)) (hN : 1000 < N) {m : Nat} (hm1 : 1 ≤ m) (hm6 : m ≤ 6) : ∃ M', FrF M M' ∧ ((ItemP B p m ∧ sRef_figures N (nI m) M = some (1, M') ∧ M' 0 31 = nI (posI B p m) ∧ ∀ i, i < m → M' 29 i = nI (valI B p i)) ∨ (¬ ItemP B p m ∧ sRef_figures N (nI m) M = some (0, M'))) := by
  have hl := h.1
  have go : ∀ d i mm, i + d = m → 1 ≤ d → FrF M mm → mm 0 31 = nI (posI B p i) → (∀ j, j < i → mm 29 j = nI (valI B p j)) → (∀ j, j < i → okI B p j ∧ sepI B p j = 44) → ∀ G, d < G → ∃ M' x, itr (fun z : Int32 × Mm => LRef_figures_2_55 N (nI m) z.1 z.2) G (nI i, mm) = some x ∧ FrF M M' ∧ ((ItemP B p m ∧ x = .inr M' ∧ M' 0 31 = nI (posI B p m) ∧ ∀ i, i < m → M' 29 i = nI (valI B p i)) ∨ (¬ ItemP B p m ∧ x = .inl M')) := by
    intro d
    induction d with
    | zero => intro i mm _ h1; omega
    | succ d ih =>
      intro i mm hi _ hfr h31 h29 hch G hG
      obtain ⟨G, rfl⟩ : ∃ m, G = m + 1 := ⟨G - 1, by omega⟩
      have hpb := posI_b B p i
      have htx := TxR_fr h hfr
      have hrun := runR (N := N) htx h31 (by omega) hN
      obtain ⟨k1, k2, k3⟩ := nf_p B (posI B p i) 4
      have n34 := nf_34 B (posI B p i)
      obtain ⟨m1, hm1'⟩ : ∃ m1, m1 = mset mm 0 31 (nI (posI B p i + nf B (posI B p i) 4)) := ⟨_, rfl⟩
      rw [← hm1'] at hrun
      have fr1 : FrF M m1 := ⟨fun r r0 r29 => by rw [hm1', mset_ne _ _ _ r0]; exact hfr.1 r r0 r29, fun j hj => by rw [hm1', mset_eq, upd_ne _ _ hj]; exact hfr.2 j hj⟩
      have e31 : m1 0 31 = nI (posI B p i + nf B (posI B p i) 4) := by rw [hm1', mset_eq, upd_eq]
      have hin : sRef_in (Int32.toInt64 (nI (nf B (posI B p i) 4))) 1 3 = sOff_isWithin (nI (nf B (posI B p i) 4)) 1 3 := in_eq _ 1 3
      unfold itr
      show ∃ M' x, (LRef_figures_2_55 N (nI m) (nI i) mm).bind _ = _ ∧ _
      by_cases cok : okI B p i
      · have hw : sOff_isWithin (nI (nf B (posI B p i) 4)) 1 3 = some 1 := within_T (by rw [nI_t (by omega)]; have := cok.1; exact (by omega : (1 : Int) ≤ (nf B (posI B p i) 4 : Int))) (by rw [nI_t (by omega)]; have := cok.2; exact (by omega : (nf B (posI B p i) 4 : Int) ≤ 3))
        have e34 : nf B (posI B p i) 4 = nf B (posI B p i) 3 := by have := cok.2; omega
        have hby : sRef_byteAt (m1 0 31) m1 = some (sepI B p i) := by
          rw [e31, byteR (TxR_fr h fr1) (by omega), e34]
          rfl
        obtain ⟨m3, hm3⟩ : ∃ m3, m3 = mset (mset m1 29 i (nI (valI B p i))) 0 31 (nI (posI B p (i + 1))) := ⟨_, rfl⟩
        have head : LRef_figures_2_55 N (nI m) (nI i) mm = if sepI B p i = (if m = i + 1 then 59 else 44) then some (.inl (nI (i + 1), m3)) else some (.inr (.inl m1)) := by
          have e50 : (((if (nI m - 1) ≤ nI i then some 59 else some 44) : Option (Int32))) = some (if m = i + 1 then 59 else 44) := by
            rw [dec_n (by omega)]
            by_cases c : m = i + 1
            · rw [if_pos (by rw [nIle (by omega) (by omega)]; omega), if_pos c]
            · rw [if_neg (by rw [nIle (by omega) (by omega)]; omega), if_neg c]
          unfold LRef_figures_2_55
          rw [if_neg (by rw [nIle (by omega) (by omega)]; omega), hrun, some_bind]
          show (sRef_in (Int32.toInt64 (nI (nf B (posI B p i) 4))) 1 3).bind _ = _
          rw [hin, hw, some_bind, i10, hby, some_bind, e50, some_bind, inc_n (by omega) (by omega), ltM_u, cl_n (by omega), mset_ne _ _ _ (show (0 : Nat) ≠ 29 by omega), e31, nI_s, nI_s, ltM_u, ltI_u, hm3, posI_s, e34]
          rfl
        have fr3 : FrF M m3 := ⟨fun r r0 r29 => by rw [hm3, mset_ne _ _ _ r0, mset_ne _ _ _ r29]; exact fr1.1 r r0 r29, fun j hj => by rw [hm3, mset_eq, upd_ne _ _ hj, mset_ne _ _ _ (by omega)]; exact fr1.2 j hj⟩
        have f31 : m3 0 31 = nI (posI B p (i + 1)) := by rw [hm3, mset_eq, upd_eq]
        have f29 : ∀ j, j < i + 1 → m3 29 j = nI (valI B p j) := fun j hj => by
          rw [hm3, mset_ne _ _ _ (by omega), mset_eq]
          by_cases ej : j = i
          · subst ej; rw [upd_eq]
          · rw [upd_ne _ _ ej, hm1', mset_ne _ _ _ (by omega)]; exact h29 j (by omega)
        rw [head]
        by_cases cm : m = i + 1
        · rw [if_pos cm]
          by_cases cs : sepI B p i = 59
          · rw [if_pos cs, some_bind]
            refine ⟨m3, .inr m3, ?_, fr3, Or.inl ⟨⟨hm1, fun j hj => hch j (by omega), by rw [cm]; exact cok, by rw [cm]; exact cs⟩, rfl, by rw [cm]; exact f31, by rw [cm]; exact f29⟩⟩
            obtain ⟨G, rfl⟩ : ∃ m, G = m + 1 := ⟨G - 1, by omega⟩
            show itr _ (G + 1) (nI (i + 1), m3) = _
            unfold itr
            have : LRef_figures_2_55 N (nI m) (nI (i + 1)) m3 = some (.inr (.inr m3)) := by
              unfold LRef_figures_2_55
              rw [if_pos (by rw [nIle (by omega) (by omega)]; omega)]
            show (LRef_figures_2_55 N (nI m) (nI (i + 1)) m3).bind _ = _
            rw [this]
            rfl
          · rw [if_neg cs]
            refine ⟨m1, .inl m1, rfl, fr1, Or.inr ⟨fun hI => cs ?_, rfl⟩⟩
            have := hI.2.2.2
            rw [show m - 1 = i by omega] at this
            exact this
        · rw [if_neg cm]
          by_cases cs : sepI B p i = 44
          · rw [if_pos cs, some_bind]
            refine ih (i + 1) m3 (by omega) (by omega) fr3 f31 f29 (fun j hj => ?_) G (by omega)
            by_cases ej : j = i
            · subst ej; exact ⟨cok, cs⟩
            · exact hch j (by omega)
          · rw [if_neg cs]
            refine ⟨m1, .inl m1, rfl, fr1, Or.inr ⟨fun hI => cs (hI.2.1 i (by omega)).2, rfl⟩⟩
      · have hw : sOff_isWithin (nI (nf B (posI B p i) 4)) 1 3 = some 0 := within_F (by rw [nI_t (by omega)]; exact fun q : (1 : Int) ≤ (nf B (posI B p i) 4 : Int) ∧ (nf B (posI B p i) 4 : Int) ≤ 3 => cok ⟨by omega, by omega⟩)
        have head : LRef_figures_2_55 N (nI m) (nI i) mm = some (.inr (.inl m1)) := by
          unfold LRef_figures_2_55
          rw [if_neg (by rw [nIle (by omega) (by omega)]; omega), hrun, some_bind]
          show (sRef_in (Int32.toInt64 (nI (nf B (posI B p i) 4))) 1 3).bind _ = _
          rw [hin, hw, some_bind, i00]
        rw [head]
        refine ⟨m1, .inl m1, rfl, fr1, Or.inr ⟨fun hI => cok ?_, rfl⟩⟩
        by_cases cm : m = i + 1
        · have := hI.2.2.1
          rw [show m - 1 = i by omega] at this
          exact this
        · exact (hI.2.1 i (by omega)).1
  obtain ⟨M', x, g1, g2, g3⟩ := go m 0 M (by omega) hm1 ⟨fun _ _ _ => rfl, fun _ _ => rfl⟩ h31 (fun j hj => absurd hj (by omega)) (fun j hj => absurd hj (by omega)) N (by omega)
  refine ⟨M', g2, ?_⟩
  have head : sRef_figures N (nI m) M = (some x).bind (fun q => match q with
      | .inl zM56 => some ((0 : Int32), zM56)
      | .inr zM57 => some ((1 : Int32), zM57)) := by
    rw [← g1]
    rfl
  rw [head]
  rcases g3 with ⟨e1, rfl, e3, e4⟩ | ⟨e1, rfl⟩
  · exact Or.inl ⟨e1, rfl, e3, e4⟩
  · exact Or.inr ⟨e1, rfl⟩
end PB
