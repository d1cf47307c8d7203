/-! THE LAW FROM ITS ENTRY, over what the pure part owes. Written by wip/whole/start.py. -/
set_option maxHeartbeats 8000000 in
set_option maxRecDepth 100000 in
theorem whole_start_open (Rel : Mm → Mm → Prop) (N : Nat) (hops : OpsOk Rel N) (MX MR : Mm) (hsX : sOff_tail N mX0 = some MX) (hsR : sRef_tail N mR0 = some MR) (hrel : Rel MX MR) {p : Program} {e : Env} {s : State} {m : MethodId} {below : List Frame} {meth : Method} {c : Code} (l : Launch) (hflags : l.flags = flags0) {b L : Nat} {xs : Nat → Int32} (hL : L ≤ 256) (C0 : lw_At p s m meth c b L xs) : W p l e room_1 s m #[Value.ref b] below meth c s.heap [] 0 0 (lw_Z below #[Value.ref b] s) (entryFrame m ([Value.ref b] : List Value).toArray 4) := by
  obtain ⟨hx, hb, hr, hml, hown, hts, hX, hbl, hlocks, hgv⟩ := id C0
  have htB : ∀ w ∈ wsL_law, w.before #[Value.ref b] s = true := fun w h => hts w (wsL_law_in w h)
  obtain ⟨c0, i0, k0⟩ := u_known (C := RX0) (T := TX0) (N := 5) (n := 5) htB inlX0 (htB _ kw_3_10)
  obtain ⟨c1, i1, k1⟩ := u_known (C := RX1) (T := TX1) (N := 4) (n := 4) htB inlX1 (htB _ kw_2_9)
  obtain ⟨c2, i2, k2⟩ := u_known (C := RX2) (T := TX2) (N := 8) (n := 8) htB inlX2 (htB _ kw_3_14)
  obtain ⟨c3, i3, k3⟩ := u_known (C := RX3) (T := TX3) (N := 2) (n := 2) htB inlX3 (htB _ kw_2_5)
  obtain ⟨c4, i4, k4⟩ := u_known (C := RX4) (T := TX4) (N := 7) (n := 7) htB inlX4 (htB _ kw_2_17)
  obtain ⟨c5, i5, k5⟩ := u_known (C := RX5) (T := TX5) (N := 5) (n := 5) htB inlX5 (htB _ kw_3_20)
  obtain ⟨c6, i6, k6⟩ := u_known (C := RX6) (T := TX6) (N := 6) (n := 6) htB inlX6 (htB _ kw_2_13)
  obtain ⟨c7, i7, k7⟩ := u_known (C := RX7) (T := TX7) (N := 3) (n := 3) htB inlX7 (htB _ kw_2_21)
  obtain ⟨c8, i8, k8⟩ := u_known (C := RX8) (T := TX8) (N := 7) (n := 7) htB inlX8 (htB _ kw_1_23)
  obtain ⟨c9, i9, k9⟩ := u_known (C := RX9) (T := TX9) (N := 5) (n := 5) htB inlX9 (htB _ kw_1_14)
  obtain ⟨c10, i10, k10⟩ := u_known (C := RX10) (T := TX10) (N := 8) (n := 8) htB inlX10 (htB _ kw_1_18)
  obtain ⟨c11, i11, k11⟩ := u_known (C := RX11) (T := TX11) (N := 12) (n := 12) htB inlX11 (htB _ kw_1_1)
  obtain ⟨c12, i12, k12⟩ := u_known (C := RX12) (T := TX12) (N := 33) (n := 33) htB inlX12 (htB _ kw_1_4)
  obtain ⟨dC, dI, hKc⟩ : ∃ (dC : Nat → ClassId) (dI : Nat → Nat → Nat), ∀ (k : Nat) (q : vw_C), vwCl[k]? = some q → u_Kn s q.1 q.2.1 q.2.2 (dC k) (dI k) := by
    refine ⟨fun k => [c0, c1, c2, c3, c4, c5, c6, c7, c8, c9, c10, c11, c12].getD k c0, fun k => [i0, i1, i2, i3, i4, i5, i6, i7, i8, i9, i10, i11, i12].getD k i0, ?_⟩
    intro k q hq
    match k, hq with
    | 0, hq => cases hq; exact k0
    | 1, hq => cases hq; exact k1
    | 2, hq => cases hq; exact k2
    | 3, hq => cases hq; exact k3
    | 4, hq => cases hq; exact k4
    | 5, hq => cases hq; exact k5
    | 6, hq => cases hq; exact k6
    | 7, hq => cases hq; exact k7
    | 8, hq => cases hq; exact k8
    | 9, hq => cases hq; exact k9
    | 10, hq => cases hq; exact k10
    | 11, hq => cases hq; exact k11
    | 12, hq => cases hq; exact k12
    | k + 13, hq => simp [vwCl] at hq
  obtain ⟨cI, hA1, hA2⟩ : ∃ cI : ClassId, ArrOfT s cI .int ∧ va_RA s cI .int := by
    obtain ⟨cA, kA, comp, h1, h2, h3⟩ := Cond.arrayClass_spec (htB (.arrayClass .int) kw_3_3)
    exact ⟨cA, fun n z => ⟨fun k h => (by cases h), kA, h2, comp, h3⟩, h1⟩
  have hK : va_K (dC, dI) vwCl [(cI, .int)] s := ⟨hKc, fun k q hq => by
    match k, hq with
    | 0, hq => cases hq; exact ⟨hA1, hA2⟩
    | k + 1, hq => simp at hq⟩
  have hN : NWs s := ⟨fun q hq => va_Nw.of rfl (hts _ (tnestF_in q hq)), fun q hq => va_Nw.of rfl (hts _ (tnestM_in q hq))⟩
  have C : Cx p s m #[Value.ref b] meth c RL cL_law 4 ret (dC, dI) cI (fun q => s.heap.size ≤ q) := ⟨hx, hb, hr, hml, hown, hlocks, htB, hK, hN, fun q h => h⟩
  have zhw : Hw (dC, dI) [] (fun q => s.heap.size ≤ q) s.heap s.heap [] := ⟨fun k q h => by simp at h, ⟨fun i j p q h => by simp at h, fun k q h => by simp at h⟩, va_S.rf⟩
  have hl := lv_entry ([.ref b]) (n := 4) (Nat.le_of_ble_eq_true rfl)
  rw [lg_entry_eq]
  generalize (lg_sl ([.ref b]) ++ List.replicate (4 - (lg_sl ([.ref b])).length) Slot.unset).toArray = ls at hl ⊢
  have zhl : lv_has ls 4 [(0, .ref b)] := hl
  refine n_new C zhw (ci := 11) (fs := [.null, .null, .null, .null, .null, .null, .int 0, .null, .null, .null, .null, .null]) inlX11 tyX11_ok kw_1_0 kw_1_1 kw_1_2 rfl (fun j hj => by rcases (show j = 0 ∨ j = 1 ∨ j = 2 ∨ j = 3 ∨ j = 4 ∨ j = 5 ∨ j = 6 ∨ j = 7 ∨ j = 8 ∨ j = 9 ∨ j = 10 ∨ j = 11 by omega) with rfl | rfl | rfl | rfl | rfl | rfl | rfl | rfl | rfl | rfl | rfl | rfl <;> rfl) (Nat.le_of_ble_eq_true rfl) (Nat.le_of_ble_eq_true rfl) dL_law_0 (fun a0 zH zhw => ?_)
  refine lv_dup hx hb dL_law_3 rfl ?_
  refine n_ctor (wr := []) (w0 := [(a0, .inr (11, [.null, .null, .null, .null, .null, .null, .int 0, .null, .null, .null, .null, .null]))]) (As := []) (rest := [.ref a0]) C zhw zhl (nX11_init l (dC, dI) cI N MX hsX a0) ⟨(Nat.le_of_ble_eq_true rfl), (Nat.le_of_ble_eq_true rfl)⟩ ⟨(Nat.le_of_ble_eq_true rfl), (Nat.le_of_ble_eq_true rfl)⟩ rfl (Or.inl kw_1_7) kw_1_8 kw_1_2 kw_1_9 md_X11_init rfl rfl (Nat.le_of_ble_eq_true rfl) dL_law_4 (fun w1 zH zlocs zhp zhw2 => ?_)
  obtain ⟨h, hv0, rfl⟩ := zhp
  subst hv0
  refine lv_astore_n (lv' := [(1, .ref (h 0)), (0, .ref b)]) hx hb dL_law_7 rfl zhl (by decide) rfl (fun ls zhl => ?_)
  have zhw : Hw (dC, dI) (wX h cI MX) (fun q => s.heap.size ≤ q) s.heap zH zlocs := zhw2
  refine n_new C zhw (ci := 12) (fs := [.int 0, .null, .null, .null, .null, .null, .null, .null, .null, .null, .null, .null, .null, .null, .null, .null, .null, .null, .null, .null, .null, .null, .null, .null, .null, .null, .null, .null, .int 0, .int 0, .null, .int 0, .null]) inlX12 tyX12_ok kw_1_3 kw_1_4 kw_1_5 rfl (fun j hj => by rcases (show j = 0 ∨ j = 1 ∨ j = 2 ∨ j = 3 ∨ j = 4 ∨ j = 5 ∨ j = 6 ∨ j = 7 ∨ j = 8 ∨ j = 9 ∨ j = 10 ∨ j = 11 ∨ j = 12 ∨ j = 13 ∨ j = 14 ∨ j = 15 ∨ j = 16 ∨ j = 17 ∨ j = 18 ∨ j = 19 ∨ j = 20 ∨ j = 21 ∨ j = 22 ∨ j = 23 ∨ j = 24 ∨ j = 25 ∨ j = 26 ∨ j = 27 ∨ j = 28 ∨ j = 29 ∨ j = 30 ∨ j = 31 ∨ j = 32 by omega) with rfl | rfl | rfl | rfl | rfl | rfl | rfl | rfl | rfl | rfl | rfl | rfl | rfl | rfl | rfl | rfl | rfl | rfl | rfl | rfl | rfl | rfl | rfl | rfl | rfl | rfl | rfl | rfl | rfl | rfl | rfl | rfl | rfl <;> rfl) (Nat.le_of_ble_eq_true rfl) (Nat.le_of_ble_eq_true rfl) dL_law_8 (fun a1 zH zhw => ?_)
  refine lv_dup hx hb dL_law_11 rfl ?_
  refine n_ctor (wr := wX h cI MX) (w0 := [(a1, .inr (12, [.int 0, .null, .null, .null, .null, .null, .null, .null, .null, .null, .null, .null, .null, .null, .null, .null, .null, .null, .null, .null, .null, .null, .null, .null, .null, .null, .null, .null, .int 0, .int 0, .null, .int 0, .null]))]) (As := []) (rest := [.ref a1]) C zhw zhl (nX12_init l (dC, dI) cI N MR hsR a1) ⟨(Nat.le_of_ble_eq_true rfl), (Nat.le_of_ble_eq_true rfl)⟩ ⟨(Nat.le_of_ble_eq_true rfl), (Nat.le_of_ble_eq_true rfl)⟩ rfl (Or.inl kw_7_23) kw_8_0 kw_1_5 kw_8_1 md_X12_init rfl rfl (Nat.le_of_ble_eq_true rfl) dL_law_12 (fun w1 zH zlocs zhp zhw2 => ?_)
  obtain ⟨g, hv0, rfl⟩ := zhp
  subst hv0
  refine lv_astore_n (lv' := [(2, .ref (g 0)), (1, .ref (h 0)), (0, .ref b)]) hx hb dL_law_15 rfl zhl (by decide) rfl (fun ls zhl => ?_)
  refine lv_iconst (v := 0) hx hb dL_law_16 (by decide) ?_
  refine lv_istore_n (lv' := [(3, .int 0), (2, .ref (g 0)), (1, .ref (h 0)), (0, .ref b)]) hx hb dL_law_17 rfl zhl (by decide) rfl (fun ls zhl => ?_)
  exact law_loop Rel N hops hL C hX hbl h g (L + 1) 0 0 (Nat.zero_le L) (by omega) nI_0.symm MX MR hrel _ _ zhw2 _ (lv_sub zhl [3, 2, 1, 0] rfl)
