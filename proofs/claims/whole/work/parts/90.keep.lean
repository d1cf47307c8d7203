/-! PURE PART 11: keep, back; copies. By hand. -/
theorem RStk_tr {cn fn o o' : Nat} {room k c a f l rk rc ra rf rl k' c' a' f' l' rk' rc' ra' rf' rl' : Nat → Int32} {x5 x6 rh x5' x6' rh' : Int32} (h : RStk cn fn room x5 x6 k c a f l o rh rk rc ra rf rl) (e5 : x5' = x5) (e6 : x6' = x6) (eh : rh' = rh) (eX : ∀ j, j < fn → k' j = k j ∧ c' j = c j ∧ a' j = a j ∧ f' j = f j ∧ l' j = l j) (eR : ∀ j, j < fn → rk' (o' + j) = rk (o + j) ∧ rc' (o' + j) = rc (o + j) ∧ ra' (o' + j) = ra (o + j) ∧ rf' (o' + j) = rf (o + j) ∧ rl' (o' + j) = rl (o + j)) : RStk cn fn room x5' x6' k' c' a' f' l' o' rh' rk' rc' ra' rf' rl' := by
  obtain ⟨h5, hr, h0, h1, h2, h3, h4⟩ := h
  refine ⟨e5.trans h5, hr, h0, e6.trans h1, eh.trans h2, fun i hi => ?_, fun q hq => ?_⟩
  · obtain ⟨y1, y2, y3, y4, y5⟩ := eX i hi
    obtain ⟨z1, z2, z3, z4, z5⟩ := eR i hi
    rw [y1, y2, y3, y4, y5, z1, z2, z3, z4, z5]
    exact h3 i hi
  · obtain ⟨d, d1, d2, d3⟩ := h4 q hq
    refine ⟨d, d1, d2, ?_⟩
    rw [show ctb (fun i => decide (f' i = 0 ∧ c' i = nI q)) fn = ctb (fun i => decide (f i = 0 ∧ c i = nI q)) fn from ctb_congr fun i hi => by
      obtain ⟨y1, y2, y3, y4, y5⟩ := eX i hi
      rw [y2, y4]]
    exact d3
/-- the reference's copy of n foods of block a into block b -/
def cpR (a b n : Nat) (M : Mm) : Mm := fun r i => if (22 ≤ r ∧ r ≤ 26) ∧ 10 * b ≤ i ∧ i < 10 * b + n then M r (10 * a + (i - 10 * b)) else M r i
theorem cpR_at {a b n : Nat} {M : Mm} {r i : Nat} (hr : 22 ≤ r ∧ r ≤ 26) (h : ¬ (10 * b ≤ i ∧ i < 10 * b + n)) : cpR a b n M r i = M r i := if_neg fun q => h q.2
theorem cpR_in {a b n : Nat} {M : Mm} {r j : Nat} (hr : 22 ≤ r ∧ r ≤ 26) (h : j < n) : cpR a b n M r (10 * b + j) = M r (10 * a + j) := by
  unfold cpR
  rw [if_pos ⟨hr, by omega, by omega⟩, show 10 * b + j - 10 * b = j by omega]
theorem cpR_ne {a b n : Nat} {M : Mm} {r i : Nat} (hr : ¬ (22 ≤ r ∧ r ≤ 26)) : cpR a b n M r i = M r i := if_neg fun q => hr q.1
theorem cpR_s (a b n : Nat) (M : Mm) (hab : a ≠ b) (hn : n < 10) : mset (mset (mset (mset (mset (cpR a b n M) 22 (10 * b + n) (M 22 (10 * a + n))) 23 (10 * b + n) (M 23 (10 * a + n))) 24 (10 * b + n) (M 24 (10 * a + n))) 25 (10 * b + n) (M 25 (10 * a + n))) 26 (10 * b + n) (M 26 (10 * a + n)) = cpR a b (n + 1) M := by
  have st : ∀ (r i : Nat), cpR a b (n + 1) M r i = if (22 ≤ r ∧ r ≤ 26) ∧ i = 10 * b + n then M r (10 * a + n) else cpR a b n M r i := fun r i => by
    by_cases c : (22 ≤ r ∧ r ≤ 26) ∧ i = 10 * b + n
    · obtain ⟨hr, rfl⟩ := c
      rw [if_pos ⟨hr, rfl⟩, cpR_in hr (by omega)]
    · rw [if_neg c]
      unfold cpR
      by_cases c2 : (22 ≤ r ∧ r ≤ 26) ∧ 10 * b ≤ i ∧ i < 10 * b + n
      · rw [if_pos c2, if_pos ⟨c2.1, by omega, by omega⟩]
      · rw [if_neg c2, if_neg]
        rintro ⟨q1, q2, q3⟩
        by_cases c3 : i = 10 * b + n
        · exact c ⟨q1, c3⟩
        · exact c2 ⟨q1, q2, by omega⟩
  funext r i
  rw [st]
  by_cases c : (22 ≤ r ∧ r ≤ 26) ∧ i = 10 * b + n
  · rw [if_pos c]
    obtain ⟨hr, rfl⟩ := c
    unfold mset upd
    rcases (show r = 22 ∨ r = 23 ∨ r = 24 ∨ r = 25 ∨ r = 26 by omega) with rfl | rfl | rfl | rfl | rfl <;> simp
  · rw [if_neg c]
    unfold mset upd
    by_cases hr : 22 ≤ r ∧ r ≤ 26
    · have hi : ¬ i = 10 * b + n := fun q => c ⟨hr, q⟩
      rcases (show r = 22 ∨ r = 23 ∨ r = 24 ∨ r = 25 ∨ r = 26 by omega) with rfl | rfl | rfl | rfl | rfl <;> simp [hi]
    · simp [show ¬ r = 22 by omega, show ¬ r = 23 by omega, show ¬ r = 24 by omega, show ¬ r = 25 by omega, show ¬ r = 26 by omega]
theorem copyR {N : Nat} (hN : 1000 < N) {a b : Nat} (ha : a < 4) (hb : b < 4) (hab : a ≠ b) (M : Mm) : sRef_copy N (nI a) (nI b) M = some (mset (cpR a b 10 M) 27 b (M 27 a)) := by
  unfold sRef_copy
  refine itr_b (fun n => (nI n, cpR a b n M)) 10 (r := cpR a b 10 M) ?_ ?_ ?_ (by omega) ?_
  · have : cpR a b 0 M = M := by
      funext r i
      unfold cpR
      rw [if_neg (by omega)]
    rw [this]; rfl
  · intro n hn
    show LRef_copy_2_25 N (nI a) (nI b) (nI n) (cpR a b n M) = some (.inl (nI (n + 1), cpR a b (n + 1) M))
    have g : ∀ r, 22 ≤ r ∧ r ≤ 26 → cpR a b n M r (10 * a + n) = M r (10 * a + n) := fun r hr => cpR_at hr (by omega)
    unfold LRef_copy_2_25
    rw [if_neg (by rw [show (10 : Int32) = nI 10 from rfl, nIle (by omega) (by omega)]; omega), ten_n, ten_n, nI_add, nI_add]
    rw [rdc_n (by omega) (by omega), inc_n (by omega) (by omega), ltM_u, cl_n (by omega), rdc_n (by omega) (by omega), inc_n (by omega) (by omega), ltM_u, rdc_n (by omega) (by omega), inc_n (by omega) (by omega), ltM_u, rdc_n (by omega) (by omega), inc_n (by omega) (by omega), ltM_u, rdc_n (by omega) (by omega), inc_n (by omega) (by omega), ltM_u, ltI_u, nI_s]
    rw [← cpR_s a b n M hab hn, ← g 22 (by omega), ← g 23 (by omega), ← g 24 (by omega), ← g 25 (by omega), ← g 26 (by omega)]
    rfl
  · show LRef_copy_2_25 N (nI a) (nI b) (nI 10) (cpR a b 10 M) = _
    unfold LRef_copy_2_25
    rw [if_pos (by decide)]
  · show rdc 4 ((cpR a b 10 M) 27) (nI a) _ = _
    rw [rdc_n (by omega) (by omega), inc_n (by omega) (by omega), ltM_u, cl_n (by omega), cpR_ne (by omega)]
/-- the class's own -/
def cpX (D S n : Nat) (M : Mm) : Mm := fun r i => if (D + 1 ≤ r ∧ r ≤ D + 5) ∧ i < n then M (S + (r - D)) i else M r i
theorem cpX_in {D S n : Nat} {M : Mm} {r i : Nat} (hr : D + 1 ≤ r ∧ r ≤ D + 5) (h : i < n) : cpX D S n M r i = M (S + (r - D)) i := if_pos ⟨hr, h⟩
theorem cpX_ne {D S n : Nat} {M : Mm} {r : Nat} (hr : ¬ (D + 1 ≤ r ∧ r ≤ D + 5)) : cpX D S n M r = M r := funext fun i => if_neg fun q => hr q.1
theorem cpX_s (D S n : Nat) (M : Mm) : mset (mset (mset (mset (mset (cpX D S n M) (D + 1) n (M (S + 1) n)) (D + 2) n (M (S + 2) n)) (D + 3) n (M (S + 3) n)) (D + 4) n (M (S + 4) n)) (D + 5) n (M (S + 5) n) = cpX D S (n + 1) M := by
  have st : ∀ (r i : Nat), cpX D S (n + 1) M r i = if (D + 1 ≤ r ∧ r ≤ D + 5) ∧ i = n then M (S + (r - D)) n else cpX D S n M r i := fun r i => by
    by_cases c : (D + 1 ≤ r ∧ r ≤ D + 5) ∧ i = n
    · obtain ⟨hr, rfl⟩ := c
      rw [if_pos ⟨hr, rfl⟩, cpX_in hr (by omega)]
    · rw [if_neg c]
      unfold cpX
      by_cases c2 : (D + 1 ≤ r ∧ r ≤ D + 5) ∧ i < n
      · rw [if_pos c2, if_pos ⟨c2.1, by omega⟩]
      · rw [if_neg c2, if_neg]
        rintro ⟨q1, q2⟩
        by_cases c3 : i = n
        · exact c ⟨q1, c3⟩
        · exact c2 ⟨q1, by omega⟩
  funext r i
  rw [st]
  by_cases c : (D + 1 ≤ r ∧ r ≤ D + 5) ∧ i = n
  · rw [if_pos c]
    obtain ⟨hr, rfl⟩ := c
    unfold mset upd
    rcases (show r = D + 1 ∨ r = D + 2 ∨ r = D + 3 ∨ r = D + 4 ∨ r = D + 5 by omega) with rfl | rfl | rfl | rfl | rfl <;> simp
  · rw [if_neg c]
    unfold mset upd
    by_cases hr : D + 1 ≤ r ∧ r ≤ D + 5
    · have hi : ¬ i = n := fun q => c ⟨hr, q⟩
      rcases (show r = D + 1 ∨ r = D + 2 ∨ r = D + 3 ∨ r = D + 4 ∨ r = D + 5 by omega) with rfl | rfl | rfl | rfl | rfl <;> simp [hi]
    · simp [show ¬ r = D + 1 by omega, show ¬ r = D + 2 by omega, show ¬ r = D + 3 by omega, show ¬ r = D + 4 by omega, show ¬ r = D + 5 by omega]
theorem copyX20 {N fn : Nat} (hN : 1000 < N) (hf : fn ≤ 10) {M : Mm} (h5 : M 40 5 = nI fn) : sStock_copyFrom_20 N M = some (cpX 52 40 fn (mset (mset M 52 5 (M 40 5)) 52 6 (M 40 6))) := by
  unfold sStock_copyFrom_20
  rw [ltM_u, ltM_u]
  have e0 : mset (mset M 52 5 (M 40 5)) 52 6 (mset M 52 5 (M 40 5) 40 6) = mset (mset M 52 5 (M 40 5)) 52 6 (M 40 6) := rfl
  rw [e0]
  have e5 : mset (mset M 52 5 (M 40 5)) 52 6 (M 40 6) 52 5 = nI fn := h5
  generalize mset (mset M 52 5 (M 40 5)) 52 6 (M 40 6) = M2 at e5 ⊢
  refine itr_b (fun n => (nI n, cpX 52 40 n M2)) fn (r := cpX 52 40 fn M2) ?_ ?_ ?_ (by omega) rfl
  · have : cpX 52 40 0 M2 = M2 := by
      funext r i
      unfold cpX
      rw [if_neg (by omega)]
    rw [this]; rfl
  · intro n hn
    show LStock_copyFrom_20_18_17 N (nI n) (cpX 52 40 n M2) = some (.inl (nI (n + 1), cpX 52 40 (n + 1) M2))
    have g : ∀ r, 40 + 1 ≤ r ∧ r ≤ 40 + 5 → cpX 52 40 n M2 r n = M2 r n := fun r hr => congrFun (cpX_ne (by omega)) n
    unfold LStock_copyFrom_20_18_17
    rw [show cpX 52 40 n M2 52 5 = nI fn from (congrFun (cpX_ne (by omega)) 5).trans e5, if_neg (by rw [nIle (by omega) (by omega)]; omega)]
    rw [atf_n (by omega) (by omega), putf_n (by omega) (by omega), ltM_u, atf_n (by omega) (by omega), putf_n (by omega) (by omega), ltM_u, atf_n (by omega) (by omega), putf_n (by omega) (by omega), ltM_u, atf_n (by omega) (by omega), putf_n (by omega) (by omega), ltM_u, atf_n (by omega) (by omega), putf_n (by omega) (by omega), ltM_u, ltI_u, nI_s]
    rw [← cpX_s 52 40 n M2, ← g (40 + 1) (by omega), ← g (40 + 2) (by omega), ← g (40 + 3) (by omega), ← g (40 + 4) (by omega), ← g (40 + 5) (by omega)]
    rfl
  · show LStock_copyFrom_20_18_17 N (nI fn) (cpX 52 40 fn M2) = _
    unfold LStock_copyFrom_20_18_17
    rw [show cpX 52 40 fn M2 52 5 = nI fn from (congrFun (cpX_ne (by omega)) 5).trans e5, if_pos (by rw [nIle (by omega) (by omega)]; omega)]
theorem copyX10 {N fn : Nat} (hN : 1000 < N) (hf : fn ≤ 10) {M : Mm} (h5 : M 40 5 = nI fn) : sStock_copyFrom_10 N M = some (cpX 46 40 fn (mset (mset M 46 5 (M 40 5)) 46 6 (M 40 6))) := by
  unfold sStock_copyFrom_10
  rw [ltM_u, ltM_u]
  have e0 : mset (mset M 46 5 (M 40 5)) 46 6 (mset M 46 5 (M 40 5) 40 6) = mset (mset M 46 5 (M 40 5)) 46 6 (M 40 6) := rfl
  rw [e0]
  have e5 : mset (mset M 46 5 (M 40 5)) 46 6 (M 40 6) 46 5 = nI fn := h5
  generalize mset (mset M 46 5 (M 40 5)) 46 6 (M 40 6) = M2 at e5 ⊢
  refine itr_b (fun n => (nI n, cpX 46 40 n M2)) fn (r := cpX 46 40 fn M2) ?_ ?_ ?_ (by omega) rfl
  · have : cpX 46 40 0 M2 = M2 := by
      funext r i
      unfold cpX
      rw [if_neg (by omega)]
    rw [this]; rfl
  · intro n hn
    show LStock_copyFrom_10_18_17 N (nI n) (cpX 46 40 n M2) = some (.inl (nI (n + 1), cpX 46 40 (n + 1) M2))
    have g : ∀ r, 40 + 1 ≤ r ∧ r ≤ 40 + 5 → cpX 46 40 n M2 r n = M2 r n := fun r hr => congrFun (cpX_ne (by omega)) n
    unfold LStock_copyFrom_10_18_17
    rw [show cpX 46 40 n M2 46 5 = nI fn from (congrFun (cpX_ne (by omega)) 5).trans e5, if_neg (by rw [nIle (by omega) (by omega)]; omega)]
    rw [atf_n (by omega) (by omega), putf_n (by omega) (by omega), ltM_u, atf_n (by omega) (by omega), putf_n (by omega) (by omega), ltM_u, atf_n (by omega) (by omega), putf_n (by omega) (by omega), ltM_u, atf_n (by omega) (by omega), putf_n (by omega) (by omega), ltM_u, atf_n (by omega) (by omega), putf_n (by omega) (by omega), ltM_u, ltI_u, nI_s]
    rw [← cpX_s 46 40 n M2, ← g (40 + 1) (by omega), ← g (40 + 2) (by omega), ← g (40 + 3) (by omega), ← g (40 + 4) (by omega), ← g (40 + 5) (by omega)]
    rfl
  · show LStock_copyFrom_10_18_17 N (nI fn) (cpX 46 40 fn M2) = _
    unfold LStock_copyFrom_10_18_17
    rw [show cpX 46 40 fn M2 46 5 = nI fn from (congrFun (cpX_ne (by omega)) 5).trans e5, if_pos (by rw [nIle (by omega) (by omega)]; omega)]
theorem copyX02 {N fn : Nat} (hN : 1000 < N) (hf : fn ≤ 10) {M : Mm} (h5 : M 52 5 = nI fn) : sStock_copyFrom_02 N M = some (cpX 40 52 fn (mset (mset M 40 5 (M 52 5)) 40 6 (M 52 6))) := by
  unfold sStock_copyFrom_02
  rw [ltM_u, ltM_u]
  have e0 : mset (mset M 40 5 (M 52 5)) 40 6 (mset M 40 5 (M 52 5) 52 6) = mset (mset M 40 5 (M 52 5)) 40 6 (M 52 6) := rfl
  rw [e0]
  have e5 : mset (mset M 40 5 (M 52 5)) 40 6 (M 52 6) 40 5 = nI fn := h5
  generalize mset (mset M 40 5 (M 52 5)) 40 6 (M 52 6) = M2 at e5 ⊢
  refine itr_b (fun n => (nI n, cpX 40 52 n M2)) fn (r := cpX 40 52 fn M2) ?_ ?_ ?_ (by omega) rfl
  · have : cpX 40 52 0 M2 = M2 := by
      funext r i
      unfold cpX
      rw [if_neg (by omega)]
    rw [this]; rfl
  · intro n hn
    show LStock_copyFrom_02_18_17 N (nI n) (cpX 40 52 n M2) = some (.inl (nI (n + 1), cpX 40 52 (n + 1) M2))
    have g : ∀ r, 52 + 1 ≤ r ∧ r ≤ 52 + 5 → cpX 40 52 n M2 r n = M2 r n := fun r hr => congrFun (cpX_ne (by omega)) n
    unfold LStock_copyFrom_02_18_17
    rw [show cpX 40 52 n M2 40 5 = nI fn from (congrFun (cpX_ne (by omega)) 5).trans e5, if_neg (by rw [nIle (by omega) (by omega)]; omega)]
    rw [atf_n (by omega) (by omega), putf_n (by omega) (by omega), ltM_u, atf_n (by omega) (by omega), putf_n (by omega) (by omega), ltM_u, atf_n (by omega) (by omega), putf_n (by omega) (by omega), ltM_u, atf_n (by omega) (by omega), putf_n (by omega) (by omega), ltM_u, atf_n (by omega) (by omega), putf_n (by omega) (by omega), ltM_u, ltI_u, nI_s]
    rw [← cpX_s 40 52 n M2, ← g (52 + 1) (by omega), ← g (52 + 2) (by omega), ← g (52 + 3) (by omega), ← g (52 + 4) (by omega), ← g (52 + 5) (by omega)]
    rfl
  · show LStock_copyFrom_02_18_17 N (nI fn) (cpX 40 52 fn M2) = _
    unfold LStock_copyFrom_02_18_17
    rw [show cpX 40 52 fn M2 40 5 = nI fn from (congrFun (cpX_ne (by omega)) 5).trans e5, if_pos (by rw [nIle (by omega) (by omega)]; omega)]
theorem copyX01 {N fn : Nat} (hN : 1000 < N) (hf : fn ≤ 10) {M : Mm} (h5 : M 46 5 = nI fn) : sStock_copyFrom_01 N M = some (cpX 40 46 fn (mset (mset M 40 5 (M 46 5)) 40 6 (M 46 6))) := by
  unfold sStock_copyFrom_01
  rw [ltM_u, ltM_u]
  have e0 : mset (mset M 40 5 (M 46 5)) 40 6 (mset M 40 5 (M 46 5) 46 6) = mset (mset M 40 5 (M 46 5)) 40 6 (M 46 6) := rfl
  rw [e0]
  have e5 : mset (mset M 40 5 (M 46 5)) 40 6 (M 46 6) 40 5 = nI fn := h5
  generalize mset (mset M 40 5 (M 46 5)) 40 6 (M 46 6) = M2 at e5 ⊢
  refine itr_b (fun n => (nI n, cpX 40 46 n M2)) fn (r := cpX 40 46 fn M2) ?_ ?_ ?_ (by omega) rfl
  · have : cpX 40 46 0 M2 = M2 := by
      funext r i
      unfold cpX
      rw [if_neg (by omega)]
    rw [this]; rfl
  · intro n hn
    show LStock_copyFrom_01_18_17 N (nI n) (cpX 40 46 n M2) = some (.inl (nI (n + 1), cpX 40 46 (n + 1) M2))
    have g : ∀ r, 46 + 1 ≤ r ∧ r ≤ 46 + 5 → cpX 40 46 n M2 r n = M2 r n := fun r hr => congrFun (cpX_ne (by omega)) n
    unfold LStock_copyFrom_01_18_17
    rw [show cpX 40 46 n M2 40 5 = nI fn from (congrFun (cpX_ne (by omega)) 5).trans e5, if_neg (by rw [nIle (by omega) (by omega)]; omega)]
    rw [atf_n (by omega) (by omega), putf_n (by omega) (by omega), ltM_u, atf_n (by omega) (by omega), putf_n (by omega) (by omega), ltM_u, atf_n (by omega) (by omega), putf_n (by omega) (by omega), ltM_u, atf_n (by omega) (by omega), putf_n (by omega) (by omega), ltM_u, atf_n (by omega) (by omega), putf_n (by omega) (by omega), ltM_u, ltI_u, nI_s]
    rw [← cpX_s 40 46 n M2, ← g (46 + 1) (by omega), ← g (46 + 2) (by omega), ← g (46 + 3) (by omega), ← g (46 + 4) (by omega), ← g (46 + 5) (by omega)]
    rfl
  · show LStock_copyFrom_01_18_17 N (nI fn) (cpX 40 46 fn M2) = _
    unfold LStock_copyFrom_01_18_17
    rw [show cpX 40 46 fn M2 40 5 = nI fn from (congrFun (cpX_ne (by omega)) 5).trans e5, if_pos (by rw [nIle (by omega) (by omega)]; omega)]
theorem ok_keep {N : Nat} (hN : 1000 < N) : Ok_keep Rel N := by
  intro MX MR h
  have hR := h
  obtain ⟨cn, fn, kp, hT, hC, hF, hD, hE, hP, hS, ⟨kk, kx, kr⟩, hk1, hk2, hNn⟩ := h
  have hf10 := hF.2.1
  by_cases c2 : kp = 2
  · subst c2
    refine ⟨-3, MX, MR, ?_, ?_, hR⟩
    · unfold sOff_keep; rw [kx, if_neg (by decide)]
    · unfold sRef_keep; rw [kr, if_pos (by decide)]
  · have cR : sRef_keep N MR = some (nI (kp + 1), mset (cpR 0 (kp + 2) 10 (mset MR 0 28 (nI (kp + 1)))) 27 (kp + 2) (MR 27 0)) := by
      unfold sRef_keep
      have e1 : mset MR 0 28 (nI (kp + 1)) 0 28 = nI (kp + 1) := rfl
      rw [kr, if_neg (show ¬ nI kp = 2 by rw [show (2 : Int32) = nI 2 from rfl, nIeq (by omega) (by omega)]; exact c2), nI_s, ltM_u, e1, show (1 : Int32) + nI (kp + 1) = nI (kp + 2) from by rw [show (1 : Int32) = nI 1 from rfl, nI_add]; congr 1; omega, show (0 : Int32) = nI 0 from rfl, copyR hN (by omega) (by omega) (by omega), some_bind]
      have e2 : mset (cpR 0 (kp + 2) 10 (mset MR 0 28 (nI (kp + 1)))) 27 (kp + 2) (mset MR 0 28 (nI (kp + 1)) 27 0) 0 28 = nI (kp + 1) := by
        show cpR 0 (kp + 2) 10 (mset MR 0 28 (nI (kp + 1))) 0 28 = _
        rw [cpR_ne (by omega)]
        rfl
      rw [e2]
      rfl
    have hm : ∀ (o : Nat), o + 10 ≤ 10 * (kp + 2) → ∀ r, 22 ≤ r ∧ r ≤ 26 → ∀ j, j < fn → mset (cpR 0 (kp + 2) 10 (mset MR 0 28 (nI (kp + 1)))) 27 (kp + 2) (MR 27 0) r (o + j) = MR r (o + j) := fun o ho r hr j hj => by
      rw [mset_ne _ _ _ (by omega), cpR_at hr (by omega), mset_ne _ _ _ (by omega)]
    have hnew : ∀ r, 22 ≤ r ∧ r ≤ 26 → ∀ j, j < fn → mset (cpR 0 (kp + 2) 10 (mset MR 0 28 (nI (kp + 1)))) 27 (kp + 2) (MR 27 0) r (10 * (kp + 2) + j) = MR r (0 + j) := fun r hr j hj => by
      rw [mset_ne _ _ _ (by omega), cpR_in hr (by omega), mset_ne _ _ _ (by omega)]
    have ho : ∀ r, ¬ (22 ≤ r ∧ r ≤ 27) → r ≠ 0 → mset (cpR 0 (kp + 2) 10 (mset MR 0 28 (nI (kp + 1)))) 27 (kp + 2) (MR 27 0) r = MR r := fun r hr h0 => by
      rw [mset_ne _ _ _ (by omega)]
      funext i
      rw [cpR_ne (by omega), mset_ne _ _ _ h0]
    have ho0 : ∀ i, i ≠ 28 → mset (cpR 0 (kp + 2) 10 (mset MR 0 28 (nI (kp + 1)))) 27 (kp + 2) (MR 27 0) 0 i = MR 0 i := fun i hi => by
      rw [mset_ne _ _ _ (by omega), cpR_ne (by omega), mset_eq, upd_ne _ _ hi]
    have h28 : mset (cpR 0 (kp + 2) 10 (mset MR 0 28 (nI (kp + 1)))) 27 (kp + 2) (MR 27 0) 0 28 = nI (kp + 1) := by
      rw [mset_ne _ _ _ (by omega), cpR_ne (by omega), mset_eq, upd_eq]
    have h27 : ∀ i, i ≠ kp + 2 → mset (cpR 0 (kp + 2) 10 (mset MR 0 28 (nI (kp + 1)))) 27 (kp + 2) (MR 27 0) 27 i = MR 27 i := fun i hi => by
      rw [mset_eq, upd_ne _ _ hi, cpR_ne (by omega), mset_ne _ _ _ (by omega)]
    have h27n : mset (cpR 0 (kp + 2) 10 (mset MR 0 28 (nI (kp + 1)))) 27 (kp + 2) (MR 27 0) 27 (kp + 2) = MR 27 0 := by
      rw [mset_eq, upd_eq]
    generalize hMR : mset (cpR 0 (kp + 2) 10 (mset MR 0 28 (nI (kp + 1)))) 27 (kp + 2) (MR 27 0) = MR1 at cR hm hnew ho ho0 h28 h27 h27n
    have gT : RTxt (MX 1 1) (MX 2) (MR1 0 0) (MR1 1) := by rw [ho0 0 (by omega), ho 1 (by omega) (by omega)]; exact hT
    have gC : RCel cn (MX 23 3) (MX 23 4) (MX 24) (MX 25) (MX 26) (MR1 2 0) (MR1 6 0) (MR1 3) (MR1 4) (MR1 5) := by rw [ho 2 (by omega) (by omega), ho 3 (by omega) (by omega), ho 4 (by omega) (by omega), ho 5 (by omega) (by omega), ho 6 (by omega) (by omega)]; exact hC
    have gF : RFoo fn (MX 27 7) (MX 30) (MX 31) (MX 32) (MX 33) (MX 34) (MR1 7 0) (MR1 10) (MR1 11) (MR1 12) (MR1 13) := by rw [ho 7 (by omega) (by omega), ho 10 (by omega) (by omega), ho 11 (by omega) (by omega), ho 12 (by omega) (by omega), ho 13 (by omega) (by omega)]; exact hF
    have gD : RBit 5 1 (MX 22 3) (MX 35) (MR1 14 0) (MR1 15) := by rw [ho 14 (by omega) (by omega), ho 15 (by omega) (by omega)]; exact hD
    have gE : RBit 4 0 (MX 22 5) (MX 36) (MR1 16 0) (MR1 17) := by rw [ho 16 (by omega) (by omega), ho 17 (by omega) (by omega)]; exact hE
    have gP : RPar (MX 37 2) (MX 38) (MX 39) (MX 37 3) (MX 37 4) (MX 22 7) (MR1 18 0) (MR1 19) (MR1 20) (MR1 21) := by rw [ho 18 (by omega) (by omega), ho 19 (by omega) (by omega), ho 20 (by omega) (by omega), ho 21 (by omega) (by omega)]; exact hP
    have gN : RSpn (MX 71 2) (MX 72) (MX 73) (MR1 0 29) (MR1 28) := by rw [ho0 29 (by omega), ho 28 (by omega) (by omega)]; exact hNn
    have gS : RStk cn fn (MX 26) (MX 40 5) (MX 40 6) (MX 41) (MX 42) (MX 43) (MX 44) (MX 45) 0 (MR1 27 0) (MR1 22) (MR1 23) (MR1 24) (MR1 25) (MR1 26) := RStk_R hS (h27 0 (by omega)) fun j hj => ⟨hm 0 (by omega) 22 (by omega) j hj, hm 0 (by omega) 23 (by omega) j hj, hm 0 (by omega) 24 (by omega) j hj, hm 0 (by omega) 25 (by omega) j hj, hm 0 (by omega) 26 (by omega) j hj⟩
    rcases (show kp = 0 ∨ kp = 1 by omega) with rfl | rfl
    · have cX : sOff_keep N MX = some (nI 1, mset (cpX 46 40 fn (mset (mset MX 46 5 (MX 40 5)) 46 6 (MX 40 6))) 0 6 (nI 1)) := by
        unfold sOff_keep
        rw [kx, if_pos (by decide), if_pos (show nI 0 = 0 from rfl), copyX10 hN hf10 hS.1, some_bind, show cpX 46 40 fn (mset (mset MX 46 5 (MX 40 5)) 46 6 (MX 40 6)) 0 6 = nI 0 from (congrFun (cpX_ne (by omega)) 6).trans kx, nI_s, ltM_u]
        rfl
      have q : ∀ r, ¬ (46 ≤ r ∧ r ≤ 51) → r ≠ 0 → mset (cpX 46 40 fn (mset (mset MX 46 5 (MX 40 5)) 46 6 (MX 40 6))) 0 6 (nI 1) r = MX r := fun r hr h0 => by
        rw [mset_ne _ _ _ h0, cpX_ne (by omega), mset_ne _ _ _ (by omega), mset_ne _ _ _ (by omega)]
      have q0 : mset (cpX 46 40 fn (mset (mset MX 46 5 (MX 40 5)) 46 6 (MX 40 6))) 0 6 (nI 1) 0 6 = nI 1 := rfl
      have q5 : mset (cpX 46 40 fn (mset (mset MX 46 5 (MX 40 5)) 46 6 (MX 40 6))) 0 6 (nI 1) 46 5 = MX 40 5 := by
        rw [mset_ne _ _ _ (by omega), cpX_ne (by omega)]; rfl
      have q6 : mset (cpX 46 40 fn (mset (mset MX 46 5 (MX 40 5)) 46 6 (MX 40 6))) 0 6 (nI 1) 46 6 = MX 40 6 := by
        rw [mset_ne _ _ _ (by omega), cpX_ne (by omega)]; rfl
      have qn : ∀ r, 47 ≤ r ∧ r ≤ 51 → ∀ j, j < fn → mset (cpX 46 40 fn (mset (mset MX 46 5 (MX 40 5)) 46 6 (MX 40 6))) 0 6 (nI 1) r j = MX (40 + (r - 46)) j := fun r hr j hj => by
        rw [mset_ne _ _ _ (by omega), cpX_in (by omega) hj, mset_ne _ _ _ (by omega), mset_ne _ _ _ (by omega)]
      generalize mset (cpX 46 40 fn (mset (mset MX 46 5 (MX 40 5)) 46 6 (MX 40 6))) 0 6 (nI 1) = MX1 at cX q q0 q5 q6 qn
      refine ⟨nI 1, MX1, MR1, cX, cR, cn, fn, 1, ?_, ?_, ?_, ?_, ?_, ?_, ?_, ⟨by omega, q0, h28⟩, fun _ => ?_, fun h => absurd h (by omega), ?_⟩
      · rw [q 1 (by omega) (by omega), q 2 (by omega) (by omega)]; exact gT
      · rw [q 23 (by omega) (by omega), q 24 (by omega) (by omega), q 25 (by omega) (by omega), q 26 (by omega) (by omega)]; exact gC
      · rw [q 27 (by omega) (by omega), q 30 (by omega) (by omega), q 31 (by omega) (by omega), q 32 (by omega) (by omega), q 33 (by omega) (by omega), q 34 (by omega) (by omega)]; exact gF
      · rw [q 22 (by omega) (by omega), q 35 (by omega) (by omega)]; exact gD
      · rw [q 22 (by omega) (by omega), q 36 (by omega) (by omega)]; exact gE
      · rw [q 37 (by omega) (by omega), q 38 (by omega) (by omega), q 39 (by omega) (by omega), q 22 (by omega) (by omega)]; exact gP
      · rw [q 26 (by omega) (by omega), q 40 (by omega) (by omega), q 41 (by omega) (by omega), q 42 (by omega) (by omega), q 43 (by omega) (by omega), q 44 (by omega) (by omega), q 45 (by omega) (by omega)]; exact gS
      · rw [q 26 (by omega) (by omega)]
        exact RStk_tr hS q5 q6 h27n (fun j hj => ⟨qn 47 (by omega) j hj, qn 48 (by omega) j hj, qn 49 (by omega) j hj, qn 50 (by omega) j hj, qn 51 (by omega) j hj⟩) fun j hj => ⟨hnew 22 (by omega) j hj, hnew 23 (by omega) j hj, hnew 24 (by omega) j hj, hnew 25 (by omega) j hj, hnew 26 (by omega) j hj⟩
      · rw [q 71 (by omega) (by omega), q 72 (by omega) (by omega), q 73 (by omega) (by omega)]; exact gN
    · have cX : sOff_keep N MX = some (nI 2, mset (cpX 52 40 fn (mset (mset MX 52 5 (MX 40 5)) 52 6 (MX 40 6))) 0 6 (nI 2)) := by
        unfold sOff_keep
        rw [kx, if_pos (by decide), if_neg (by decide), copyX20 hN hf10 hS.1, some_bind, show cpX 52 40 fn (mset (mset MX 52 5 (MX 40 5)) 52 6 (MX 40 6)) 0 6 = nI 1 from (congrFun (cpX_ne (by omega)) 6).trans kx, nI_s, ltM_u]
        rfl
      have q : ∀ r, ¬ (52 ≤ r ∧ r ≤ 57) → r ≠ 0 → mset (cpX 52 40 fn (mset (mset MX 52 5 (MX 40 5)) 52 6 (MX 40 6))) 0 6 (nI 2) r = MX r := fun r hr h0 => by
        rw [mset_ne _ _ _ h0, cpX_ne (by omega), mset_ne _ _ _ (by omega), mset_ne _ _ _ (by omega)]
      have q0 : mset (cpX 52 40 fn (mset (mset MX 52 5 (MX 40 5)) 52 6 (MX 40 6))) 0 6 (nI 2) 0 6 = nI 2 := rfl
      have q5 : mset (cpX 52 40 fn (mset (mset MX 52 5 (MX 40 5)) 52 6 (MX 40 6))) 0 6 (nI 2) 52 5 = MX 40 5 := by
        rw [mset_ne _ _ _ (by omega), cpX_ne (by omega)]; rfl
      have q6 : mset (cpX 52 40 fn (mset (mset MX 52 5 (MX 40 5)) 52 6 (MX 40 6))) 0 6 (nI 2) 52 6 = MX 40 6 := by
        rw [mset_ne _ _ _ (by omega), cpX_ne (by omega)]; rfl
      have qn : ∀ r, 53 ≤ r ∧ r ≤ 57 → ∀ j, j < fn → mset (cpX 52 40 fn (mset (mset MX 52 5 (MX 40 5)) 52 6 (MX 40 6))) 0 6 (nI 2) r j = MX (40 + (r - 52)) j := fun r hr j hj => by
        rw [mset_ne _ _ _ (by omega), cpX_in (by omega) hj, mset_ne _ _ _ (by omega), mset_ne _ _ _ (by omega)]
      generalize mset (cpX 52 40 fn (mset (mset MX 52 5 (MX 40 5)) 52 6 (MX 40 6))) 0 6 (nI 2) = MX1 at cX q q0 q5 q6 qn
      refine ⟨nI 2, MX1, MR1, cX, cR, cn, fn, 2, ?_, ?_, ?_, ?_, ?_, ?_, ?_, ⟨by omega, q0, h28⟩, fun _ => ?_, fun _ => ?_, ?_⟩
      · rw [q 1 (by omega) (by omega), q 2 (by omega) (by omega)]; exact gT
      · rw [q 23 (by omega) (by omega), q 24 (by omega) (by omega), q 25 (by omega) (by omega), q 26 (by omega) (by omega)]; exact gC
      · rw [q 27 (by omega) (by omega), q 30 (by omega) (by omega), q 31 (by omega) (by omega), q 32 (by omega) (by omega), q 33 (by omega) (by omega), q 34 (by omega) (by omega)]; exact gF
      · rw [q 22 (by omega) (by omega), q 35 (by omega) (by omega)]; exact gD
      · rw [q 22 (by omega) (by omega), q 36 (by omega) (by omega)]; exact gE
      · rw [q 37 (by omega) (by omega), q 38 (by omega) (by omega), q 39 (by omega) (by omega), q 22 (by omega) (by omega)]; exact gP
      · rw [q 26 (by omega) (by omega), q 40 (by omega) (by omega), q 41 (by omega) (by omega), q 42 (by omega) (by omega), q 43 (by omega) (by omega), q 44 (by omega) (by omega), q 45 (by omega) (by omega)]; exact gS
      · rw [q 26 (by omega) (by omega), q 46 (by omega) (by omega), q 47 (by omega) (by omega), q 48 (by omega) (by omega), q 49 (by omega) (by omega), q 50 (by omega) (by omega), q 51 (by omega) (by omega)]
        exact RStk_R (hk1 (by omega)) (h27 2 (by omega)) fun j hj => ⟨hm 20 (by omega) 22 (by omega) j hj, hm 20 (by omega) 23 (by omega) j hj, hm 20 (by omega) 24 (by omega) j hj, hm 20 (by omega) 25 (by omega) j hj, hm 20 (by omega) 26 (by omega) j hj⟩
      · rw [q 26 (by omega) (by omega)]
        exact RStk_tr hS q5 q6 h27n (fun j hj => ⟨qn 53 (by omega) j hj, qn 54 (by omega) j hj, qn 55 (by omega) j hj, qn 56 (by omega) j hj, qn 57 (by omega) j hj⟩) fun j hj => ⟨hnew 22 (by omega) j hj, hnew 23 (by omega) j hj, hnew 24 (by omega) j hj, hnew 25 (by omega) j hj, hnew 26 (by omega) j hj⟩
      · rw [q 71 (by omega) (by omega), q 72 (by omega) (by omega), q 73 (by omega) (by omega)]; exact gN
theorem ok_back {N : Nat} (hN : 1000 < N) : Ok_back Rel N := by
  intro MX MR h
  have hR := h
  obtain ⟨cn, fn, kp, hT, hC, hF, hD, hE, hP, hS, ⟨kk, kx, kr⟩, hk1, hk2, hNn⟩ := h
  have hf10 := hF.2.1
  by_cases c2 : kp = 0
  · subst c2
    refine ⟨-2, MX, MR, ?_, ?_, hR⟩
    · unfold sOff_back; rw [kx, if_neg (by decide)]
    · unfold sRef_back; rw [kr, if_pos (show nI 0 = 0 from rfl)]
  · have cR : sRef_back N MR = some (nI (kp - 1), mset (mset (cpR (kp + 1) 0 10 MR) 27 0 (MR 27 (kp + 1))) 0 28 (nI (kp - 1))) := by
      unfold sRef_back
      rw [kr, if_neg (nI_ne0 (by omega) (by omega)), show (1 : Int32) + nI kp = nI (kp + 1) from by rw [show (1 : Int32) = nI 1 from rfl, nI_add]; congr 1; omega, show (0 : Int32) = nI 0 from rfl, copyR hN (by omega) (by omega) (by omega), some_bind]
      have e2 : mset (cpR (kp + 1) 0 10 MR) 27 0 (MR 27 (kp + 1)) 0 28 = nI kp := by
        show cpR (kp + 1) 0 10 MR 0 28 = _
        rw [cpR_ne (by omega)]
        exact kr
      rw [e2, dec_n (by omega), ltM_u]
      rfl
    have hm : ∀ (o : Nat), 10 ≤ o → ∀ r, 22 ≤ r ∧ r ≤ 26 → ∀ j, j < fn → mset (mset (cpR (kp + 1) 0 10 MR) 27 0 (MR 27 (kp + 1))) 0 28 (nI (kp - 1)) r (o + j) = MR r (o + j) := fun o ho r hr j hj => by
      rw [mset_ne _ _ _ (by omega), mset_ne _ _ _ (by omega), cpR_at hr (by omega)]
    have hnew : ∀ r, 22 ≤ r ∧ r ≤ 26 → ∀ j, j < fn → mset (mset (cpR (kp + 1) 0 10 MR) 27 0 (MR 27 (kp + 1))) 0 28 (nI (kp - 1)) r (0 + j) = MR r (10 * (kp + 1) + j) := fun r hr j hj => by
      rw [mset_ne _ _ _ (by omega), mset_ne _ _ _ (by omega)]
      exact cpR_in (b := 0) hr (by omega)
    have ho : ∀ r, ¬ (22 ≤ r ∧ r ≤ 27) → r ≠ 0 → mset (mset (cpR (kp + 1) 0 10 MR) 27 0 (MR 27 (kp + 1))) 0 28 (nI (kp - 1)) r = MR r := fun r hr h0 => by
      rw [mset_ne _ _ _ h0, mset_ne _ _ _ (by omega)]
      funext i
      rw [cpR_ne (by omega)]
    have ho0 : ∀ i, i ≠ 28 → mset (mset (cpR (kp + 1) 0 10 MR) 27 0 (MR 27 (kp + 1))) 0 28 (nI (kp - 1)) 0 i = MR 0 i := fun i hi => by
      rw [mset_eq, upd_ne _ _ hi, mset_ne _ _ _ (by omega), cpR_ne (by omega)]
    have h28 : mset (mset (cpR (kp + 1) 0 10 MR) 27 0 (MR 27 (kp + 1))) 0 28 (nI (kp - 1)) 0 28 = nI (kp - 1) := by
      rw [mset_eq, upd_eq]
    have h27 : ∀ i, i ≠ 0 → mset (mset (cpR (kp + 1) 0 10 MR) 27 0 (MR 27 (kp + 1))) 0 28 (nI (kp - 1)) 27 i = MR 27 i := fun i hi => by
      rw [mset_ne _ _ _ (by omega), mset_eq, upd_ne _ _ hi, cpR_ne (by omega)]
    have h27n : mset (mset (cpR (kp + 1) 0 10 MR) 27 0 (MR 27 (kp + 1))) 0 28 (nI (kp - 1)) 27 0 = MR 27 (kp + 1) := by
      rw [mset_ne _ _ _ (by omega), mset_eq, upd_eq]
    generalize hMR : mset (mset (cpR (kp + 1) 0 10 MR) 27 0 (MR 27 (kp + 1))) 0 28 (nI (kp - 1)) = MR1 at cR hm hnew ho ho0 h28 h27 h27n
    have gT : RTxt (MX 1 1) (MX 2) (MR1 0 0) (MR1 1) := by rw [ho0 0 (by omega), ho 1 (by omega) (by omega)]; exact hT
    have gC : RCel cn (MX 23 3) (MX 23 4) (MX 24) (MX 25) (MX 26) (MR1 2 0) (MR1 6 0) (MR1 3) (MR1 4) (MR1 5) := by rw [ho 2 (by omega) (by omega), ho 3 (by omega) (by omega), ho 4 (by omega) (by omega), ho 5 (by omega) (by omega), ho 6 (by omega) (by omega)]; exact hC
    have gF : RFoo fn (MX 27 7) (MX 30) (MX 31) (MX 32) (MX 33) (MX 34) (MR1 7 0) (MR1 10) (MR1 11) (MR1 12) (MR1 13) := by rw [ho 7 (by omega) (by omega), ho 10 (by omega) (by omega), ho 11 (by omega) (by omega), ho 12 (by omega) (by omega), ho 13 (by omega) (by omega)]; exact hF
    have gD : RBit 5 1 (MX 22 3) (MX 35) (MR1 14 0) (MR1 15) := by rw [ho 14 (by omega) (by omega), ho 15 (by omega) (by omega)]; exact hD
    have gE : RBit 4 0 (MX 22 5) (MX 36) (MR1 16 0) (MR1 17) := by rw [ho 16 (by omega) (by omega), ho 17 (by omega) (by omega)]; exact hE
    have gP : RPar (MX 37 2) (MX 38) (MX 39) (MX 37 3) (MX 37 4) (MX 22 7) (MR1 18 0) (MR1 19) (MR1 20) (MR1 21) := by rw [ho 18 (by omega) (by omega), ho 19 (by omega) (by omega), ho 20 (by omega) (by omega), ho 21 (by omega) (by omega)]; exact hP
    have gN : RSpn (MX 71 2) (MX 72) (MX 73) (MR1 0 29) (MR1 28) := by rw [ho0 29 (by omega), ho 28 (by omega) (by omega)]; exact hNn
    rcases (show kp = 1 ∨ kp = 2 by omega) with rfl | rfl
    · have gS := hk1 (by omega)
      have cX : sOff_back N MX = some (nI 0, cpX 40 46 fn (mset (mset (mset MX 0 6 (nI 0)) 40 5 (MX 46 5)) 40 6 (MX 46 6))) := by
        unfold sOff_back
        rw [kx, if_pos (by decide), dec_n (by omega), ltM_u, show mset MX 0 6 (nI (1 - 1)) 0 6 = nI 0 from rfl, if_pos (show nI 0 = 0 from rfl), copyX01 hN hf10 (M := mset MX 0 6 (nI (1 - 1))) gS.1, some_bind, cpX_ne (by omega)]
        rfl
      have q : ∀ r, ¬ (40 ≤ r ∧ r ≤ 45) → r ≠ 0 → cpX 40 46 fn (mset (mset (mset MX 0 6 (nI 0)) 40 5 (MX 46 5)) 40 6 (MX 46 6)) r = MX r := fun r hr h0 => by
        rw [cpX_ne (by omega), mset_ne _ _ _ (by omega), mset_ne _ _ _ (by omega), mset_ne _ _ _ h0]
      have q0 : cpX 40 46 fn (mset (mset (mset MX 0 6 (nI 0)) 40 5 (MX 46 5)) 40 6 (MX 46 6)) 0 6 = nI 0 := by rw [cpX_ne (by omega)]; rfl
      have q5 : cpX 40 46 fn (mset (mset (mset MX 0 6 (nI 0)) 40 5 (MX 46 5)) 40 6 (MX 46 6)) 40 5 = MX 46 5 := by rw [cpX_ne (by omega)]; rfl
      have q6 : cpX 40 46 fn (mset (mset (mset MX 0 6 (nI 0)) 40 5 (MX 46 5)) 40 6 (MX 46 6)) 40 6 = MX 46 6 := by rw [cpX_ne (by omega)]; rfl
      have qn : ∀ r, 41 ≤ r ∧ r ≤ 45 → ∀ j, j < fn → cpX 40 46 fn (mset (mset (mset MX 0 6 (nI 0)) 40 5 (MX 46 5)) 40 6 (MX 46 6)) r j = MX (46 + (r - 40)) j := fun r hr j hj => by
        rw [cpX_in (by omega) hj, mset_ne _ _ _ (by omega), mset_ne _ _ _ (by omega), mset_ne _ _ _ (by omega)]
      generalize cpX 40 46 fn (mset (mset (mset MX 0 6 (nI 0)) 40 5 (MX 46 5)) 40 6 (MX 46 6)) = MX1 at cX q q0 q5 q6 qn
      refine ⟨nI 0, MX1, MR1, cX, cR, cn, fn, 0, ?_, ?_, ?_, ?_, ?_, ?_, ?_, ⟨by omega, q0, h28⟩, fun h => absurd h (by omega), fun h => absurd h (by omega), ?_⟩
      · rw [q 1 (by omega) (by omega), q 2 (by omega) (by omega)]; exact gT
      · rw [q 23 (by omega) (by omega), q 24 (by omega) (by omega), q 25 (by omega) (by omega), q 26 (by omega) (by omega)]; exact gC
      · rw [q 27 (by omega) (by omega), q 30 (by omega) (by omega), q 31 (by omega) (by omega), q 32 (by omega) (by omega), q 33 (by omega) (by omega), q 34 (by omega) (by omega)]; exact gF
      · rw [q 22 (by omega) (by omega), q 35 (by omega) (by omega)]; exact gD
      · rw [q 22 (by omega) (by omega), q 36 (by omega) (by omega)]; exact gE
      · rw [q 37 (by omega) (by omega), q 38 (by omega) (by omega), q 39 (by omega) (by omega), q 22 (by omega) (by omega)]; exact gP
      · rw [q 26 (by omega) (by omega)]
        exact RStk_tr gS q5 q6 h27n (fun j hj => ⟨qn 41 (by omega) j hj, qn 42 (by omega) j hj, qn 43 (by omega) j hj, qn 44 (by omega) j hj, qn 45 (by omega) j hj⟩) fun j hj => ⟨hnew 22 (by omega) j hj, hnew 23 (by omega) j hj, hnew 24 (by omega) j hj, hnew 25 (by omega) j hj, hnew 26 (by omega) j hj⟩
      · rw [q 71 (by omega) (by omega), q 72 (by omega) (by omega), q 73 (by omega) (by omega)]; exact gN
    · have gS := hk2 (by omega)
      have cX : sOff_back N MX = some (nI 1, cpX 40 52 fn (mset (mset (mset MX 0 6 (nI 1)) 40 5 (MX 52 5)) 40 6 (MX 52 6))) := by
        unfold sOff_back
        rw [kx, if_pos (by decide), dec_n (by omega), ltM_u, show mset MX 0 6 (nI (2 - 1)) 0 6 = nI 1 from rfl, if_neg (by decide), copyX02 hN hf10 (M := mset MX 0 6 (nI (2 - 1))) gS.1, some_bind, cpX_ne (by omega)]
        rfl
      have q : ∀ r, ¬ (40 ≤ r ∧ r ≤ 45) → r ≠ 0 → cpX 40 52 fn (mset (mset (mset MX 0 6 (nI 1)) 40 5 (MX 52 5)) 40 6 (MX 52 6)) r = MX r := fun r hr h0 => by
        rw [cpX_ne (by omega), mset_ne _ _ _ (by omega), mset_ne _ _ _ (by omega), mset_ne _ _ _ h0]
      have q0 : cpX 40 52 fn (mset (mset (mset MX 0 6 (nI 1)) 40 5 (MX 52 5)) 40 6 (MX 52 6)) 0 6 = nI 1 := by rw [cpX_ne (by omega)]; rfl
      have q5 : cpX 40 52 fn (mset (mset (mset MX 0 6 (nI 1)) 40 5 (MX 52 5)) 40 6 (MX 52 6)) 40 5 = MX 52 5 := by rw [cpX_ne (by omega)]; rfl
      have q6 : cpX 40 52 fn (mset (mset (mset MX 0 6 (nI 1)) 40 5 (MX 52 5)) 40 6 (MX 52 6)) 40 6 = MX 52 6 := by rw [cpX_ne (by omega)]; rfl
      have qn : ∀ r, 41 ≤ r ∧ r ≤ 45 → ∀ j, j < fn → cpX 40 52 fn (mset (mset (mset MX 0 6 (nI 1)) 40 5 (MX 52 5)) 40 6 (MX 52 6)) r j = MX (52 + (r - 40)) j := fun r hr j hj => by
        rw [cpX_in (by omega) hj, mset_ne _ _ _ (by omega), mset_ne _ _ _ (by omega), mset_ne _ _ _ (by omega)]
      generalize cpX 40 52 fn (mset (mset (mset MX 0 6 (nI 1)) 40 5 (MX 52 5)) 40 6 (MX 52 6)) = MX1 at cX q q0 q5 q6 qn
      refine ⟨nI 1, MX1, MR1, cX, cR, cn, fn, 1, ?_, ?_, ?_, ?_, ?_, ?_, ?_, ⟨by omega, q0, h28⟩, fun _ => ?_, fun h => absurd h (by omega), ?_⟩
      · rw [q 1 (by omega) (by omega), q 2 (by omega) (by omega)]; exact gT
      · rw [q 23 (by omega) (by omega), q 24 (by omega) (by omega), q 25 (by omega) (by omega), q 26 (by omega) (by omega)]; exact gC
      · rw [q 27 (by omega) (by omega), q 30 (by omega) (by omega), q 31 (by omega) (by omega), q 32 (by omega) (by omega), q 33 (by omega) (by omega), q 34 (by omega) (by omega)]; exact gF
      · rw [q 22 (by omega) (by omega), q 35 (by omega) (by omega)]; exact gD
      · rw [q 22 (by omega) (by omega), q 36 (by omega) (by omega)]; exact gE
      · rw [q 37 (by omega) (by omega), q 38 (by omega) (by omega), q 39 (by omega) (by omega), q 22 (by omega) (by omega)]; exact gP
      · rw [q 26 (by omega) (by omega)]
        exact RStk_tr gS q5 q6 h27n (fun j hj => ⟨qn 41 (by omega) j hj, qn 42 (by omega) j hj, qn 43 (by omega) j hj, qn 44 (by omega) j hj, qn 45 (by omega) j hj⟩) fun j hj => ⟨hnew 22 (by omega) j hj, hnew 23 (by omega) j hj, hnew 24 (by omega) j hj, hnew 25 (by omega) j hj, hnew 26 (by omega) j hj⟩
      · rw [q 26 (by omega) (by omega), q 46 (by omega) (by omega), q 47 (by omega) (by omega), q 48 (by omega) (by omega), q 49 (by omega) (by omega), q 50 (by omega) (by omega), q 51 (by omega) (by omega)]
        exact RStk_R (hk1 (by omega)) (h27 2 (by omega)) fun j hj => ⟨hm 20 (by omega) 22 (by omega) j hj, hm 20 (by omega) 23 (by omega) j hj, hm 20 (by omega) 24 (by omega) j hj, hm 20 (by omega) 25 (by omega) j hj, hm 20 (by omega) 26 (by omega) j hj⟩
      · rw [q 71 (by omega) (by omega), q 72 (by omega) (by omega), q 73 (by omega) (by omega)]; exact gN
