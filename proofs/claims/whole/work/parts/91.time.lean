/-! PURE PART 12: the opened hours counted; time in naturals. By hand. -/
theorem and_split {w x c : Nat} (y d : Nat) (hx : x < 2 ^ w) (hc : c < 2 ^ w) : (2 ^ w * y + x) &&& (2 ^ w * d + c) = 2 ^ w * (y &&& d) + (x &&& c) := by
  apply Nat.eq_of_testBit_eq
  intro j
  rw [Nat.testBit_and, Nat.testBit_two_pow_mul_add _ hx, Nat.testBit_two_pow_mul_add _ hc, Nat.testBit_two_pow_mul_add _ (Nat.lt_of_le_of_lt Nat.and_le_left hx)]
  by_cases h : j < w
  · rw [if_pos h, if_pos h, if_pos h, Nat.testBit_and]
  · rw [if_neg h, if_neg h, if_neg h, Nat.testBit_and]
theorem and3 {x0 x1 x2 : Nat} (c : Nat) (h0 : x0 < 256) (h1 : x1 < 256) (h2 : x2 < 256) (hc : c < 256) : (x0 + 256 * (x1 + 256 * x2)) &&& (c + 256 * (c + 256 * (c + 256 * c))) = (x0 &&& c) + 256 * ((x1 &&& c) + 256 * (x2 &&& c)) := by
  have e1 := and_split (w := 8) (x1 + 256 * x2) (c + 256 * (c + 256 * c)) (show x0 < 2 ^ 8 from h0) (show c < 2 ^ 8 from hc)
  have e2 := and_split (w := 8) x2 (c + 256 * c) (show x1 < 2 ^ 8 from h1) (show c < 2 ^ 8 from hc)
  have e3 := and_split (w := 8) 0 c (show x2 < 2 ^ 8 from h2) (show c < 2 ^ 8 from hc)
  rw [Nat.zero_and] at e3
  have p : (2 : Nat) ^ 8 = 256 := rfl
  rw [p] at e1 e2 e3
  rw [show x0 + 256 * (x1 + 256 * x2) = 256 * (x1 + 256 * x2) + x0 by omega, show c + 256 * (c + 256 * (c + 256 * c)) = 256 * (c + 256 * (c + 256 * c)) + c by omega, e1, show x1 + 256 * x2 = 256 * x2 + x1 by omega, show c + 256 * (c + 256 * c) = 256 * (c + 256 * c) + c by omega, e2]
  rw [show x2 &&& (c + 256 * c) = x2 &&& c from by
    have := e3
    rw [Nat.mul_zero, Nat.zero_add, Nat.zero_add] at this
    rw [show c + 256 * c = 256 * c + c by omega]
    exact this]
  omega
def g1b (x : Nat) : Nat := x - ((x / 2) &&& 85)
def g2b (y : Nat) : Nat := (y &&& 51) + ((y / 4) &&& 51)
def g3b (z : Nat) : Nat := (z + z / 16) &&& 15
theorem gb_1 : ∀ x : Fin 256, ∀ e : Fin 2, ((x.val / 2 + 128 * e.val) &&& 85) = ((x.val / 2) &&& 85) := by decide +kernel
theorem gb_2 : ∀ x : Fin 256, ∀ e : Fin 4, ((x.val / 4 + 64 * e.val) &&& 51) = ((x.val / 4) &&& 51) := by decide +kernel
theorem gb_3 : ∀ x : Fin 69, ∀ e : Fin 5, ((x.val + x.val / 16 + 16 * e.val) &&& 15) = ((x.val + x.val / 16) &&& 15) := by decide +kernel
theorem gb_4 : ∀ x : Fin 256, g1b x.val < 256 ∧ ((x.val / 2) &&& 85) ≤ x.val ∧ g2b (g1b x.val) ≤ 68 ∧ g2b (g1b x.val) % 16 ≤ 4 ∧ g3b (g2b (g1b x.val)) = ctb x.val.testBit 8 ∧ ctb x.val.testBit 8 ≤ 8 := by decide +kernel
theorem gc_1 {x e : Nat} (hx : x < 256) (he : e < 2) : ((x / 2 + 128 * e) &&& 85) = ((x / 2) &&& 85) := gb_1 ⟨x, hx⟩ ⟨e, he⟩
theorem gc_2 {x e : Nat} (hx : x < 256) (he : e < 4) : ((x / 4 + 64 * e) &&& 51) = ((x / 4) &&& 51) := gb_2 ⟨x, hx⟩ ⟨e, he⟩
theorem gc_3 {x e : Nat} (hx : x < 69) (he : e < 5) : ((x + x / 16 + 16 * e) &&& 15) = ((x + x / 16) &&& 15) := gb_3 ⟨x, hx⟩ ⟨e, he⟩
theorem ctb_add (p : Nat → Bool) (m : Nat) : ∀ n, ctb p (m + n) = ctb p m + ctb (fun j => p (m + j)) n
  | 0 => rfl
  | n + 1 => by
    rw [← Nat.add_assoc, ctb_s, ctb_add p m n, ctb_s]
    omega
theorem bitCount24 {q : Nat} (hq : q < 2 ^ 24) : sJint_bitCount (nI q) = some (nI (ctb q.testBit 24)) := by
  obtain ⟨x0, x1, x2, h0, h1, h2, rfl⟩ : ∃ x0 x1 x2 : Nat, x0 < 256 ∧ x1 < 256 ∧ x2 < 256 ∧ q = x0 + 256 * (x1 + 256 * x2) := ⟨q % 256, q / 256 % 256, q / 65536, by omega, by omega, by omega, by omega⟩
  obtain ⟨a0, b0, c0, d0, s0, t0⟩ := gb_4 ⟨x0, h0⟩
  obtain ⟨a1, b1, c1, d1, s1, t1⟩ := gb_4 ⟨x1, h1⟩
  obtain ⟨a2, b2, c2, d2, s2, t2⟩ := gb_4 ⟨x2, h2⟩
  simp only at a0 b0 c0 d0 s0 t0 a1 b1 c1 d1 s1 t1 a2 b2 c2 d2 s2 t2
  have hs : ctb (x0 + 256 * (x1 + 256 * x2)).testBit 24 = ctb x0.testBit 8 + (ctb x1.testBit 8 + ctb x2.testBit 8) := by
    rw [show 24 = 8 + (8 + 8) from rfl, ctb_add, ctb_add]
    have p : (2 : Nat) ^ 8 = 256 := rfl
    have e1 : ∀ j, (x0 + 256 * (x1 + 256 * x2)).testBit j = if j < 8 then x0.testBit j else (x1 + 256 * x2).testBit (j - 8) := fun j => by
      rw [show x0 + 256 * (x1 + 256 * x2) = 2 ^ 8 * (x1 + 256 * x2) + x0 by omega, Nat.testBit_two_pow_mul_add _ (show x0 < 2 ^ 8 from h0)]
    have e2 : ∀ j, (x1 + 256 * x2).testBit j = if j < 8 then x1.testBit j else x2.testBit (j - 8) := fun j => by
      rw [show x1 + 256 * x2 = 2 ^ 8 * x2 + x1 by omega, Nat.testBit_two_pow_mul_add _ (show x1 < 2 ^ 8 from h1)]
    congr 1
    · exact ctb_congr fun j hj => by rw [e1, if_pos hj]
    · congr 1
      · exact ctb_congr fun j hj => by rw [e1, if_neg (by omega), e2, if_pos (by omega), show 8 + j - 8 = j by omega]
      · exact ctb_congr fun j hj => by rw [e1, if_neg (by omega), e2, if_neg (by omega), show 8 + (8 + j) - 8 - 8 = j by omega]
  rw [hs]
  generalize ctb x0.testBit 8 = n0 at s0 t0
  generalize ctb x1.testBit 8 = n1 at s1 t1
  generalize ctb x2.testBit 8 = n2 at s2 t2
  -- step 1
  have f1 : (x0 + 256 * (x1 + 256 * x2)) / 2 &&& 1431655765 = ((x0 / 2) &&& 85) + 256 * (((x1 / 2) &&& 85) + 256 * ((x2 / 2) &&& 85)) := by
    rw [show (x0 + 256 * (x1 + 256 * x2)) / 2 = (x0 / 2 + 128 * (x1 % 2)) + 256 * ((x1 / 2 + 128 * (x2 % 2)) + 256 * (x2 / 2)) by omega, show 1431655765 = 85 + 256 * (85 + 256 * (85 + 256 * 85)) from rfl, and3 85 (by omega) (by omega) (by omega) (by omega), gc_1 h0 (by omega), gc_1 h1 (by omega)]
  have f1' : (x0 + 256 * (x1 + 256 * x2)) - ((x0 + 256 * (x1 + 256 * x2)) / 2 &&& 1431655765) = g1b x0 + 256 * (g1b x1 + 256 * g1b x2) := by
    rw [f1]; unfold g1b; omega
  have k1 : (x0 + 256 * (x1 + 256 * x2)) / 2 &&& 1431655765 ≤ x0 + 256 * (x1 + 256 * x2) := by rw [f1]; omega
  generalize hy0 : g1b x0 = y0 at a0 c0 d0 s0 f1'
  generalize hy1 : g1b x1 = y1 at a1 c1 d1 s1 f1'
  generalize hy2 : g1b x2 = y2 at a2 c2 d2 s2 f1'
  have f2 : ((y0 + 256 * (y1 + 256 * y2)) &&& 858993459) + ((y0 + 256 * (y1 + 256 * y2)) / 4 &&& 858993459) = g2b y0 + 256 * (g2b y1 + 256 * g2b y2) := by
    rw [show (y0 + 256 * (y1 + 256 * y2)) / 4 = (y0 / 4 + 64 * (y1 % 4)) + 256 * ((y1 / 4 + 64 * (y2 % 4)) + 256 * (y2 / 4)) by omega, show 858993459 = 51 + 256 * (51 + 256 * (51 + 256 * 51)) from rfl, and3 51 (by omega) (by omega) (by omega) (by omega), and3 51 (by omega) (by omega) (by omega) (by omega), gc_2 a0 (by omega), gc_2 a1 (by omega)]
    unfold g2b
    omega
  generalize g2b y0 = z0 at c0 d0 s0 f2
  generalize g2b y1 = z1 at c1 d1 s1 f2
  generalize g2b y2 = z2 at c2 d2 s2 f2
  have f3 : ((z0 + 256 * (z1 + 256 * z2)) + (z0 + 256 * (z1 + 256 * z2)) / 16) &&& 252645135 = n0 + 256 * (n1 + 256 * n2) := by
    rw [show (z0 + 256 * (z1 + 256 * z2)) + (z0 + 256 * (z1 + 256 * z2)) / 16 = (z0 + z0 / 16 + 16 * (z1 % 16)) + 256 * ((z1 + z1 / 16 + 16 * (z2 % 16)) + 256 * (z2 + z2 / 16)) by omega, show 252645135 = 15 + 256 * (15 + 256 * (15 + 256 * 15)) from rfl, and3 15 (by omega) (by omega) (by omega) (by omega), gc_3 (by omega) (by omega), gc_3 (by omega) (by omega)]
    unfold g3b at s0 s1 s2
    omega
  unfold sJint_bitCount
  have u1 : ∀ n : Nat, n < 2 ^ 31 → ushI (nI n) 1 = nI (n / 2) := fun n hn => pk_ushrN (by omega) 1 1 (by decide +kernel)
  have u2 : ∀ n : Nat, n < 2 ^ 31 → ushI (nI n) 2 = nI (n / 4) := fun n hn => pk_ushrN (by omega) 2 2 (by decide +kernel)
  have u4 : ∀ n : Nat, n < 2 ^ 31 → ushI (nI n) 4 = nI (n / 16) := fun n hn => pk_ushrN (by omega) 4 4 (by decide +kernel)
  have u8 : ∀ n : Nat, n < 2 ^ 31 → ushI (nI n) 8 = nI (n / 256) := fun n hn => pk_ushrN (by omega) 8 8 (by decide +kernel)
  have u16 : ∀ n : Nat, n < 2 ^ 31 → ushI (nI n) 16 = nI (n / 65536) := fun n hn => pk_ushrN (by omega) 16 16 (by decide +kernel)
  rw [u1 _ (by omega), show (1431655765 : Int32) = nI 1431655765 from rfl, nI_and (by omega) (by omega), pk_sub k1, f1', ltI_u, show (858993459 : Int32) = nI 858993459 from rfl, u2 _ (by omega), nI_and (by omega) (by omega), nI_and (by omega) (by omega), nI_add, f2, ltI_u, u4 _ (by omega), nI_add, show (252645135 : Int32) = nI 252645135 from rfl, nI_and (by omega) (by omega), f3, ltI_u, u8 _ (by omega), nI_add, ltI_u, u16 _ (by omega), nI_add, ltI_u, pk_andN (by omega) 6 (by decide)]
  congr 2
  rw [show (n0 + 256 * (n1 + 256 * n2)) / 256 = n1 + 256 * n2 by omega]
  rw [show (n0 + 256 * (n1 + 256 * n2) + (n1 + 256 * n2)) / 65536 = n2 by omega]
  omega
-- time
def opN (q t : Nat) : Nat := if q.testBit (t % 24) then 1 else 0
def OC (q h n : Nat) : Nat := smN (fun j => opN q (h + j)) n
def agH (k v : Nat) : Nat := if k = 3 then 1 else if k = 1 then (10 + v) * 2 else 10 + v
def agN (k w r q h n : Nat) : Nat := if k = 3 then n else if k = 1 then 2 * (10 * n + (n * w + OC q h n * r)) else 10 * n + (n * w + OC q h n * r)
theorem opN_1 (q t : Nat) : opN q t ≤ 1 := by unfold opN; split <;> omega
theorem opN_24 (q t : Nat) : opN q (t + 24) = opN q t := by unfold opN; rw [Nat.add_mod_right]
theorem OC_s (q h n : Nat) : OC q h (n + 1) = OC q h n + opN q (h + n) := rfl
theorem OC_le (q h : Nat) : ∀ n, OC q h n ≤ n
  | 0 => Nat.le_refl 0
  | n + 1 => by
    have h1 := OC_le q h n
    have h2 := opN_1 q (h + n)
    rw [OC_s]
    omega
theorem OC_add (q h m : Nat) : ∀ n, OC q h (m + n) = OC q h m + OC q (h + m) n
  | 0 => rfl
  | n + 1 => by rw [← Nat.add_assoc, OC_s, OC_add q h m n, OC_s, ← Nat.add_assoc, Nat.add_assoc]
theorem OC_day (q : Nat) : ∀ h, OC q h 24 = ctb q.testBit 24
  | 0 => by
    have : ∀ n, n ≤ 24 → OC q 0 n = ctb q.testBit n := fun n => by
      induction n with
      | zero => intro _; rfl
      | succ n ih =>
        intro hn
        rw [OC_s, ih (by omega), ctb_s]
        unfold opN
        rw [Nat.zero_add, Nat.mod_eq_of_lt (by omega)]
    exact this 24 (by omega)
  | h + 1 => by
    have e1 : OC q h (24 + 1) = OC q h 24 + opN q (h + 24) := OC_s q h 24
    have e2 : OC q h (1 + 24) = OC q h 1 + OC q (h + 1) 24 := OC_add q h 1 24
    have e3 : OC q h 1 = opN q h := by
      rw [show 1 = 0 + 1 from rfl, OC_s]
      show 0 + _ = _
      rw [Nat.zero_add]
      rfl
    have e4 := opN_24 q h
    have e5 := OC_day q h
    rw [Nat.add_comm 1 24] at e2
    omega
theorem OC_days (q h : Nat) : ∀ d r, OC q h (24 * d + r) = d * ctb q.testBit 24 + OC q h r
  | 0, r => by rw [Nat.mul_zero, Nat.zero_mul, Nat.zero_add, Nat.zero_add]
  | d + 1, r => by
    rw [show 24 * (d + 1) + r = (24 * d + r) + 24 by omega, OC_add, OC_days q h d r, OC_day, Nat.add_mul, Nat.one_mul]
    omega
theorem agN_0 (k w r q h : Nat) : agN k w r q h 0 = 0 := by
  unfold agN
  have : OC q h 0 = 0 := rfl
  rw [this]
  split
  · rfl
  · split <;> omega
theorem agN_s (k w r q h n : Nat) : agN k w r q h (n + 1) = agN k w r q h n + agH k (w + opN q (h + n) * r) := by
  unfold agN agH
  rw [OC_s, Nat.add_mul n 1 w, Nat.one_mul, Nat.add_mul _ _ r]
  split
  · rfl
  · split <;> omega
theorem agN_add (k w r q h m : Nat) : ∀ n, agN k w r q h (m + n) = agN k w r q h m + agN k w r q (h + m) n
  | 0 => by rw [agN_0]; rfl
  | n + 1 => by rw [← Nat.add_assoc, agN_s, agN_add k w r q h m n, agN_s, Nat.add_assoc h m n, Nat.add_assoc]
theorem agH_le {k v : Nat} (h : v ≤ 299) : agH k v ≤ 618 := by
  unfold agH
  split
  · omega
  · split <;> omega
theorem agH_pos (k v : Nat) : 1 ≤ agH k v := by
  unfold agH
  split
  · omega
  · split <;> omega
theorem agN_le {k w r q h : Nat} (hw : w ≤ 200) (hr : r ≤ 99) : ∀ n, agN k w r q h n ≤ 618 * n
  | 0 => by rw [agN_0]; omega
  | n + 1 => by
    have h1 := agN_le (k := k) (q := q) (h := h) hw hr n
    have h2 : opN q (h + n) * r ≤ 1 * r := Nat.mul_le_mul_right _ (opN_1 q _)
    have h3 := agH_le (k := k) (v := w + opN q (h + n) * r) (by omega)
    rw [agN_s]
    omega
theorem opnI_n {q t : Nat} (hq : q < 2 ^ 24) (ht : t ≤ 1000000) : opnI (nI q) (nI t) = nI (opN q t) := by
  unfold opnI opN
  rw [show (24 : Int32) = nI 24 from rfl, rem_n (by omega) (by omega) (by omega), shBit (by omega) (by omega)]
  by_cases c : q.testBit (t % 24) = true
  · rw [if_pos c, if_pos rfl, if_pos c]; rfl
  · rw [if_neg c, if_neg (by decide), if_neg c]; rfl
theorem wrmI_n {w r q t : Nat} (hq : q < 2 ^ 24) (ht : t ≤ 1000000) : wrmI (nI w) (nI r) (nI q) (nI t) = nI (w + opN q t * r) := by
  unfold wrmI
  rw [opnI_n hq ht]
  unfold opN
  by_cases c : q.testBit (t % 24) = true
  · rw [if_pos c, if_neg (by decide), nI_add, Nat.one_mul]
  · rw [if_neg c, if_pos (show nI 0 = 0 from rfl), Nat.zero_mul, Nat.add_zero]
