/-! PURE PART 1: small facts of indices, memories and loops. By hand. -/
theorem rdc_of {α : Type} {n : Nat} {f : Nat → Int32} {i : Int32} {k : Int32 → Option α} (j : Nat) (hi : i = nI j) (h : j < n) (hn : n ≤ 1000) : rdc n f i k = k (f j) := by
  subst hi
  have hin : ¬ (nI j < 0 ∨ n ≤ (nI j).toNatClampNeg) := vp_in_nI h (by omega)
  unfold rdc
  rw [if_neg hin, nI_clamp (by omega)]
theorem inc_of {α : Type} {n : Nat} {i : Int32} {k : Option α} (j : Nat) (hi : i = nI j) (h : j < n) (hn : n ≤ 1000) : inc n i k = k := by
  subst hi
  have hin : ¬ (nI j < 0 ∨ n ≤ (nI j).toNatClampNeg) := vp_in_nI h (by omega)
  unfold inc
  rw [if_neg hin]
theorem atf_of {n : Nat} {f : Nat → Int32} {i : Int32} (j : Nat) (hi : i = nI j) (h : j < n) (hn : n ≤ 1000) : atf n f i = f j := by
  subst hi
  have hin : ¬ (nI j < 0 ∨ n ≤ (nI j).toNatClampNeg) := vp_in_nI h (by omega)
  unfold atf
  rw [if_neg hin, nI_clamp (by omega)]
theorem putf_of {n : Nat} {M : Mm} {r : Nat} {i v : Int32} (j : Nat) (hi : i = nI j) (h : j < n) (hn : n ≤ 1000) : putf n M r i v = mset M r j v := by
  subst hi
  have hin : ¬ (nI j < 0 ∨ n ≤ (nI j).toNatClampNeg) := vp_in_nI h (by omega)
  unfold putf
  rw [if_neg hin, nI_clamp (by omega)]
theorem rdc_n {α : Type} {n : Nat} {f : Nat → Int32} {k : Int32 → Option α} {j : Nat} (h : j < n) (hn : n ≤ 1000) : rdc n f (nI j) k = k (f j) := rdc_of j rfl h hn
theorem inc_n {α : Type} {n : Nat} {k : Option α} {j : Nat} (h : j < n) (hn : n ≤ 1000) : inc n (nI j) k = k := inc_of j rfl h hn
theorem atf_n {n : Nat} {f : Nat → Int32} {j : Nat} (h : j < n) (hn : n ≤ 1000) : atf n f (nI j) = f j := atf_of j rfl h hn
theorem putf_n {n : Nat} {M : Mm} {r j : Nat} {v : Int32} (h : j < n) (hn : n ≤ 1000) : putf n M r (nI j) v = mset M r j v := putf_of j rfl h hn
theorem lit_nI (n : Nat) : (OfNat.ofNat n : Int32) = nI n := rfl
theorem rdc_0 {α : Type} {n : Nat} {f : Nat → Int32} {k : Int32 → Option α} (h : 0 < n) (hn : n ≤ 1000) : rdc n f 0 k = k (f 0) := rdc_of 0 rfl h hn
theorem rdc_1 {α : Type} {n : Nat} {f : Nat → Int32} {k : Int32 → Option α} (h : 1 < n) (hn : n ≤ 1000) : rdc n f 1 k = k (f 1) := rdc_of 1 rfl h hn
theorem rdc_2 {α : Type} {n : Nat} {f : Nat → Int32} {k : Int32 → Option α} (h : 2 < n) (hn : n ≤ 1000) : rdc n f 2 k = k (f 2) := rdc_of 2 rfl h hn
theorem inc_0 {α : Type} {n : Nat} {k : Option α} (h : 0 < n) (hn : n ≤ 1000) : inc n 0 k = k := inc_of 0 rfl h hn
theorem inc_1 {α : Type} {n : Nat} {k : Option α} (h : 1 < n) (hn : n ≤ 1000) : inc n 1 k = k := inc_of 1 rfl h hn
theorem cl_0 : Int32.toNatClampNeg 0 = 0 := rfl
theorem cl_1 : Int32.toNatClampNeg 1 = 1 := rfl
theorem cl_n {j : Nat} (h : j ≤ 1000) : (nI j).toNatClampNeg = j := nI_clamp (by omega)
theorem mset_eq (M : Mm) (r i : Nat) (v : Int32) : mset M r i v r = upd (M r) i v := if_pos rfl
theorem mset_ne (M : Mm) {r a : Nat} (i : Nat) (v : Int32) (h : a ≠ r) : mset M r i v a = M a := if_neg h
theorem upd_eq (f : Nat → Int32) (k : Nat) (x : Int32) : upd f k x k = x := if_pos rfl
theorem upd_ne (f : Nat → Int32) {k j : Nat} (x : Int32) (h : j ≠ k) : upd f k x j = f j := if_neg h
theorem some_bind {α β : Type} (a : α) (f : α → Option β) : (some a).bind f = f a := rfl
theorem ltI_u {α : Type} (x : Int32) (k : Int32 → Option α) : ltI x k = k x := rfl
theorem ltL_u {α : Type} (x : Int64) (k : Int64 → Option α) : ltL x k = k x := rfl
theorem ltM_u {α : Type} (x : Mm) (k : Mm → Option α) : ltM x k = k x := rfl
-- comparisons of small numbers
theorem nIle {a b : Nat} (ha : a ≤ 1000000) (hb : b ≤ 1000000) : (nI a ≤ nI b) = (a ≤ b) := propext (nI_leI (by omega) (by omega))
theorem nIlt {a b : Nat} (ha : a ≤ 1000000) (hb : b ≤ 1000000) : (nI a < nI b) = (a < b) := propext (nI_ltI (by omega) (by omega))
theorem nIeq {a b : Nat} (ha : a ≤ 1000000) (hb : b ≤ 1000000) : (nI a = nI b) = (a = b) := propext (nI_eq (by omega) (by omega))
theorem nI_t {n : Nat} (h : n ≤ 1000000000) : (nI n).toInt = (n : Int) := nI_toInt (by omega)
theorem nI_inj {a b : Nat} (ha : a ≤ 1000000000) (hb : b ≤ 1000000000) (h : nI a = nI b) : a = b := (nI_eq (by omega) (by omega)).mp h
-- loops
theorem itr_run {σ ρ : Type} {f : σ → Option (σ ⊕ ρ)} (inv : Nat → σ) (n : Nat) {r : ρ} (he : f (inv n) = some (.inr r)) : ∀ (d : Nat), d ≤ n → (∀ i, n - d ≤ i → i < n → f (inv i) = some (.inl (inv (i + 1)))) → ∀ N, d < N → itr f N (inv (n - d)) = some r
  | 0, _, _, N, hN => by
    obtain ⟨N, rfl⟩ : ∃ m, N = m + 1 := ⟨N - 1, by omega⟩
    unfold itr
    rw [Nat.sub_zero, he]
    rfl
  | d + 1, hd, hs, N, hN => by
    obtain ⟨N, rfl⟩ : ∃ m, N = m + 1 := ⟨N - 1, by omega⟩
    unfold itr
    rw [hs (n - (d + 1)) (Nat.le_refl _) (by omega)]
    show itr f N (inv (n - (d + 1) + 1)) = some r
    rw [show n - (d + 1) + 1 = n - d by omega]
    exact itr_run inv n he d (by omega) (fun i h1 h2 => hs i (by omega) h2) N (by omega)
/-- a loop that runs n rounds from inv 0 and ends -/
theorem itr_n {σ ρ : Type} {f : σ → Option (σ ⊕ ρ)} (inv : Nat → σ) (n : Nat) {r : ρ} {s : σ} (hs0 : s = inv 0) (hs : ∀ i, i < n → f (inv i) = some (.inl (inv (i + 1)))) (he : f (inv n) = some (.inr r)) {N : Nat} (hN : n < N) : itr f N s = some r := by
  subst hs0
  have h := itr_run inv n he n (Nat.le_refl n) (fun i _ h2 => hs i h2) N hN
  rwa [Nat.sub_self] at h
/-- folds by number -/
def fld {α : Type} (z : α) (f : Nat → α → α) : Nat → α
  | 0 => z
  | n + 1 => f n (fld z f n)
theorem fld_0 {α : Type} (z : α) (f : Nat → α → α) : fld z f 0 = z := rfl
theorem fld_s {α : Type} (z : α) (f : Nat → α → α) (n : Nat) : fld z f (n + 1) = f n (fld z f n) := rfl
theorem fld_congr {α : Type} {z : α} {f g : Nat → α → α} : ∀ {n : Nat}, (∀ i, i < n → ∀ a, f i a = g i a) → fld z f n = fld z g n
  | 0, _ => rfl
  | n + 1, h => by rw [fld_s, fld_s, fld_congr (fun i hi a => h i (by omega) a), h n (by omega)]
-- in and isWithin
theorem tl_toInt (a : Int32) : (Int32.toInt64 a).toInt = a.toInt := Int32.toInt_toInt64 a
theorem in_eq (a l h : Int32) : sRef_in (Int32.toInt64 a) (Int32.toInt64 l) (Int32.toInt64 h) = sOff_isWithin a l h := by
  have e1 : ∀ x y : Int32, (Int32.toInt64 x < Int32.toInt64 y) ↔ x < y := fun x y => by rw [Int64.lt_iff_toInt_lt, Int32.lt_iff_toInt_lt, tl_toInt, tl_toInt]
  have e2 : ∀ x y : Int32, (Int32.toInt64 x = Int32.toInt64 y) ↔ x = y := fun x y => by rw [← Int64.toInt_inj, ← Int32.toInt_inj, tl_toInt, tl_toInt]
  have c1 : ∀ x y : Int32, (lg_cmp (Int32.toInt64 x) (Int32.toInt64 y) < 0) ↔ x < y := fun x y => by
    unfold lg_cmp
    by_cases h1 : y < x
    · rw [if_pos ((e1 y x).mpr h1)]
      constructor
      · intro h; exact absurd h (by decide)
      · intro h; rw [Int32.lt_iff_toInt_lt] at h h1; omega
    · rw [if_neg (fun h => h1 ((e1 y x).mp h))]
      by_cases h2 : x = y
      · rw [if_pos ((e2 x y).mpr h2)]
        constructor
        · intro h; exact absurd h (by decide)
        · intro h; rw [h2, Int32.lt_iff_toInt_lt] at h; omega
      · rw [if_neg (fun h => h2 ((e2 x y).mp h))]
        constructor
        · intro _
          rw [Int32.lt_iff_toInt_lt] at h1 ⊢
          have : x.toInt ≠ y.toInt := fun q => h2 (Int32.toInt_inj.mp q)
          omega
        · intro _; decide
  have c2 : ∀ x y : Int32, (0 < lg_cmp (Int32.toInt64 x) (Int32.toInt64 y)) ↔ y < x := fun x y => by
    unfold lg_cmp
    by_cases h1 : y < x
    · rw [if_pos ((e1 y x).mpr h1)]
      exact ⟨fun _ => h1, fun _ => by decide⟩
    · rw [if_neg (fun h => h1 ((e1 y x).mp h))]
      by_cases h2 : x = y
      · rw [if_pos ((e2 x y).mpr h2)]
        exact ⟨fun h => absurd h (by decide), fun h => absurd h h1⟩
      · rw [if_neg (fun h => h2 ((e2 x y).mp h))]
        exact ⟨fun h => absurd h (by decide), fun h => absurd h h1⟩
  unfold sRef_in sOff_isWithin
  by_cases h1 : a < l
  · rw [if_pos h1, if_pos ((c1 a l).mpr h1)]
  · rw [if_neg h1, if_neg (fun h => h1 ((c1 a l).mp h))]
    by_cases h2 : h < a
    · rw [if_pos h2, if_pos ((c2 a h).mpr h2)]
    · rw [if_neg h2, if_neg (fun q => h2 ((c2 a h).mp q))]
theorem within_T {a l h : Int32} (h1 : l.toInt ≤ a.toInt) (h2 : a.toInt ≤ h.toInt) : sOff_isWithin a l h = some 1 := by
  unfold sOff_isWithin
  rw [if_neg (fun q => by rw [Int32.lt_iff_toInt_lt] at q; omega), if_neg (fun q => by rw [Int32.lt_iff_toInt_lt] at q; omega)]
theorem within_F {a l h : Int32} (h1 : ¬ (l.toInt ≤ a.toInt ∧ a.toInt ≤ h.toInt)) : sOff_isWithin a l h = some 0 := by
  unfold sOff_isWithin
  by_cases c : a < l
  · rw [if_pos c]
  · rw [if_neg c, if_pos]
    rw [Int32.lt_iff_toInt_lt] at c ⊢
    omega
/-- an int that is in a range of naturals is one -/
theorem nI_ofRange {a : Int32} {n : Nat} (h0 : 0 ≤ a.toInt) (h1 : a.toInt < n) (hn : n ≤ 1000000000) : ∃ i : Nat, i < n ∧ a = nI i := by
  refine ⟨a.toInt.toNat, by omega, ?_⟩
  apply Int32.toInt_inj.mp
  rw [nI_t (by omega)]
  omega
theorem i10 {α : Type} {a b : α} : (if (1 : Int32) = 0 then a else b) = b := if_neg (by decide)
theorem i00 {α : Type} {a b : α} : (if (0 : Int32) = 0 then a else b) = a := if_pos rfl
theorem tz : (0 : Int32).toInt = 0 := rfl
theorem L0 : (0 : Int64) = Int32.toInt64 0 := by decide
theorem L1 : (1 : Int64) = Int32.toInt64 1 := by decide
theorem Lm1 : (-1 : Int64) = Int32.toInt64 (-1) := by decide
theorem itr_b {σ ρ α : Type} {f : σ → Option (σ ⊕ ρ)} {k : ρ → Option α} {v : Option α} (inv : Nat → σ) (n : Nat) {r : ρ} {s : σ} (hs0 : s = inv 0) (hs : ∀ i, i < n → f (inv i) = some (.inl (inv (i + 1)))) (he : f (inv n) = some (.inr r)) {N : Nat} (hN : n < N) (hk : k r = v) : (itr f N s).bind k = v := by
  rw [itr_n inv n hs0 hs he hN]; exact hk
