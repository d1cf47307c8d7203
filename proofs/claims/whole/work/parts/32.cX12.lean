-- OffFirst.law in (0, ())
def sOff_law (N : Nat) (a1 : Int32) (M : Mm) : Option Int32 :=
  (sOff_isWithin a1 0 1).bind fun zv1 =>
  (if zv1 = 0 then some (-1)
  else (sSpans_bestLaw N M).bind fun zv2 =>
  (if a1 = 0 then (sSpans_fittedBy N zv2 M).bind fun zv4 =>
  some zv4
  else some zv2))
set_option maxHeartbeats 4000000 in
set_option maxRecDepth 100000 in
theorem cOff_law (l : Launch) (D : va_G) (cI : ClassId) (h : Nat → Nat) (N : Nat) (a1 : Int32) (M : Mm) (r : Int32) (zhs : sOff_law N a1 M = some r) : CtI l yX11_law cX11_law 3 (some .int) 4 D cI (wX h cI M) (wX h cI M) [.ref (h 0), .int a1] r := by
  unfold sOff_law at zhs
  refine CtI_of (by decide +kernel) (Nat.le_of_ble_eq_true rfl) ⟨_, rfl⟩ ?_
  intro p e s m args below meth c A Q zls zH zlocs C zhw zhl zhret
  have zhx := C.1
  have zhb := C.2.1
  have zhown := C.2.2.2.2.1
  have zhtB := C.2.2.2.2.2.2.1
  have zhl : lv_has zls 3 [(0, .ref (h 0)), (1, .int a1)] := zhl
  refine lv_iload_n zhx zhb dX11_law_0 rfl (lv_at zhl 1 rfl) ?_
  refine lv_iconst (v := 0) zhx zhb dX11_law_1 (by decide) ?_
  refine lv_iconst (v := 1) zhx zhb dX11_law_2 (by decide) ?_
  obtain ⟨zv1, zhp, zhs⟩ := bnd_e zhs
  refine x_cSI (As := [.int a1, .int 0, .int 1]) (rest := []) C zhw zhl (cOff_isWithin l D cI h a1 0 1 M zv1 zhp) (by decide) (by decide) kw_9_22 kw_9_23 kw_1_2 kw_10_0 md_X11_isWithin rfl rfl (Nat.le_of_ble_eq_true rfl) dX11_law_3 (fun zH zlocs zhw hzv1 => ?_)
  refine lv_if_ne (tgt := 11) zhx zhb dX11_law_6 (by decide) (fun zc9 => ?_) (fun zc9 => ?_)
  · replace zhs := br_F zhs zc9
    refine lv_aload_n zhx zhb dX11_law_11 rfl (lv_at zhl 0 rfl) ?_
    refine x_get C zhw inlX11 rfl 0 11 (by decide) kw_2_23 rfl (wX_c0 h cI M) rfl dX11_law_12 ?_
    obtain ⟨zv2, zhp, zhs⟩ := bnd_e zhs
    refine x_cVI (As := []) (rest := []) C zhw zhl (cSpans_bestLaw l D cI h N M zv2 zhp) (by decide) (by decide) kw_42_11 kw_42_12 kw_42_13 kw_2_22 kw_42_14 md_X7_bestLaw rfl 71 (wX_c71 h cI M) rfl rfl rfl rfl (Nat.le_of_ble_eq_true rfl) dX11_law_15 (fun zH zlocs zhw hn9 => ?_)
    refine lv_istore_n (lv' := [(2, .int zv2), (0, .ref (h 0)), (1, .int a1)]) zhx zhb dX11_law_18 rfl zhl (by decide) rfl (fun zls zhl => ?_)
    refine lv_iload_n zhx zhb dX11_law_19 rfl (lv_at zhl 2 rfl) ?_
    refine lv_if_ne (tgt := 34) zhx zhb dX11_law_20 (by decide) (fun zc9 => ?_) (fun zc9 => ?_)
    · replace zhs := br_F zhs zc9
      refine lv_iload_n zhx zhb dX11_law_34 rfl (lv_at zhl 0 rfl) ?_
      cases zhs
      exact zhret _ _ _ _ dX11_law_35 (by rfl) zhw
    · replace zhs := br_T zhs zc9
      refine lv_aload_n zhx zhb dX11_law_23 rfl (lv_at zhl 1 rfl) ?_
      refine x_get C zhw inlX11 rfl 0 11 (by decide) kw_2_23 rfl (wX_c0 h cI M) rfl dX11_law_24 ?_
      refine lv_iload_n zhx zhb dX11_law_27 rfl (lv_at zhl 0 rfl) ?_
      obtain ⟨zv4, zhp, zhs⟩ := bnd_e zhs
      refine x_cVI (As := [.int zv2]) (rest := []) C zhw zhl (cSpans_fittedBy l D cI h N zv2 M zv4 zhp) (by decide) (by decide) kw_42_19 kw_42_16 kw_42_17 kw_2_22 kw_42_18 md_X7_fittedBy rfl 71 (wX_c71 h cI M) rfl rfl rfl rfl (Nat.le_of_ble_eq_true rfl) dX11_law_28 (fun zH zlocs zhw hn9 => ?_)
      refine lv_goto (tgt := 35) zhx zhb dX11_law_31 (by decide) ?_
      cases zhs
      exact zhret _ _ _ _ dX11_law_35 (by rfl) zhw
  · replace zhs := br_T zhs zc9
    refine lv_iconst (v := (-1)) zhx zhb dX11_law_9 (by decide) ?_
    cases zhs
    exact zhret _ _ _ _ dX11_law_10 (by rfl) zhw

-- OffFirst$Evenings.isOneTaken in (None, ())
def sEvenings_isOneTaken (a1 : Int32) (a2 : Int32) : Option Int32 :=
  ltL (((7919 * (Int32.toInt64 a1)) + (6151 * (Int32.toInt64 a2))) + 1) fun zv1 =>
  (if (lg_cmp (remL (remL (zv1 * zv1) 65521) 3) 0) = 0 then some 0
  else some 1)
set_option maxHeartbeats 4000000 in
set_option maxRecDepth 100000 in
theorem cEvenings_isOneTaken (l : Launch) (D : va_G) (cI : ClassId) (h : Nat → Nat) (a1 : Int32) (a2 : Int32) (M : Mm) (r : Int32) (zhs : sEvenings_isOneTaken a1 a2 = some r) : CtI l yX1_isOneTaken cX1_isOneTaken 4 (some .boolean) 1 D cI (wX h cI M) (wX h cI M) [.int a1, .int a2] r := by
  unfold sEvenings_isOneTaken at zhs
  refine CtI_of (by decide +kernel) (Nat.le_of_ble_eq_true rfl) ⟨_, rfl⟩ ?_
  intro p e s m args below meth c A Q zls zH zlocs C zhw zhl zhret
  have zhx := C.1
  have zhb := C.2.1
  have zhown := C.2.2.2.2.1
  have zhtB := C.2.2.2.2.2.2.1
  have zhl : lv_has zls 4 [(0, .int a1), (1, .int a2)] := zhl
  refine lv_ldc2 zhx zhb zhown (zhtB _ kw_43_17) dX1_isOneTaken_0 ?_
  refine lv_iload_n zhx zhb dX1_isOneTaken_3 rfl (lv_at zhl 0 rfl) ?_
  refine lv_i2l zhx zhb dX1_isOneTaken_4 rfl ?_
  refine lv_lmul zhx zhb dX1_isOneTaken_5 ?_
  refine lv_ldc2 zhx zhb zhown (zhtB _ kw_43_18) dX1_isOneTaken_6 ?_
  refine lv_iload_n zhx zhb dX1_isOneTaken_9 rfl (lv_at zhl 1 rfl) ?_
  refine lv_i2l zhx zhb dX1_isOneTaken_10 rfl ?_
  refine lv_lmul zhx zhb dX1_isOneTaken_11 ?_
  refine lv_ladd zhx zhb dX1_isOneTaken_12 ?_
  refine lv_lconst (v := 1) zhx zhb dX1_isOneTaken_13 (by decide) ?_
  refine lv_ladd zhx zhb dX1_isOneTaken_14 ?_
  obtain ⟨zv1, ze9, zhs⟩ := ltL_e zhs
  refine lv_topl (fun zy9 ze8 => ?_)
  obtain rfl : zv1 = zy9 := ze9.trans ze8.symm
  clear ze9 ze8
  refine lv_lstore_n (lv' := [(2, .long zv1), (0, .int a1), (1, .int a2)]) zhx zhb dX1_isOneTaken_15 rfl zhl (by decide) rfl (fun zls zhl => ?_)
  refine lv_lload_n zhx zhb dX1_isOneTaken_16 rfl (lv_at zhl 0 rfl) ?_
  refine lv_lload_n zhx zhb dX1_isOneTaken_17 rfl (lv_at zhl 0 rfl) ?_
  refine lv_lmul zhx zhb dX1_isOneTaken_18 ?_
  refine lv_ldc2 zhx zhb zhown (zhtB _ kw_43_19) dX1_isOneTaken_19 ?_
  refine lv_lrem zhx zhb dX1_isOneTaken_22 (by decide) ?_
  refine lv_ldc2 zhx zhb zhown (zhtB _ kw_43_20) dX1_isOneTaken_23 ?_
  refine lv_lrem zhx zhb dX1_isOneTaken_26 (by decide) ?_
  refine lv_lconst (v := 0) zhx zhb dX1_isOneTaken_27 (by decide) ?_
  refine W.lcmp zhx zhb dX1_isOneTaken_28 ?_
  refine lv_if_eq (tgt := 36) zhx zhb dX1_isOneTaken_29 (by decide) (fun zc9 => ?_) (fun zc9 => ?_)
  · replace zhs := br_T zhs zc9
    refine lv_iconst (v := 0) zhx zhb dX1_isOneTaken_36 (by decide) ?_
    cases zhs
    exact zhret _ _ _ _ dX1_isOneTaken_37 (by rfl) zhw
  · replace zhs := br_F zhs zc9
    refine lv_iconst (v := 1) zhx zhb dX1_isOneTaken_32 (by decide) ?_
    refine lv_goto (tgt := 37) zhx zhb dX1_isOneTaken_33 (by decide) ?_
    cases zhs
    exact zhret _ _ _ _ dX1_isOneTaken_37 (by rfl) zhw

-- OffFirst$Evenings.highestOf in (None, ())
def LEvenings_highestOf_3_6 (N : Nat) (a1 : Int32) (zx1 : Int32) : Option ((Int32) ⊕ ((Int32) ⊕ (Unit))) :=
  (if zx1 < 0 then some (.inr (.inr ()))
  else (sOff_hasBit a1 zx1).bind fun zv4 =>
  (if zv4 = 0 then ltI (zx1 + (-1)) fun zv5 =>
  some (.inl zv5)
  else some (.inr (.inl zx1))))
def sEvenings_highestOf (N : Nat) (a1 : Int32) : Option Int32 :=
  ((itr (fun z : Int32 => LEvenings_highestOf_3_6 N a1 z) N 9).bind fun q => match q with
  | .inl zv7 => some (1 <<< (zv7 &&& 31))
  | .inr () => some 0)
set_option maxHeartbeats 4000000 in
set_option maxRecDepth 100000 in
theorem cEvenings_highestOf (l : Launch) (D : va_G) (cI : ClassId) (h : Nat → Nat) (N : Nat) (a1 : Int32) (M : Mm) (r : Int32) (zhs : sEvenings_highestOf N a1 = some r) : CtI l yX1_highestOf cX1_highestOf 2 (some .int) 2 D cI (wX h cI M) (wX h cI M) [.int a1] r := by
  unfold sEvenings_highestOf at zhs
  refine CtI_of (by decide +kernel) (Nat.le_of_ble_eq_true rfl) ⟨_, rfl⟩ ?_
  intro p e s m args below meth c A Q zls zH zlocs C zhw zhl zhret
  have zhx := C.1
  have zhb := C.2.1
  have zhown := C.2.2.2.2.1
  have zhtB := C.2.2.2.2.2.2.1
  have zhl : lv_has zls 2 [(0, .int a1)] := zhl
  refine lv_bipush (v := 9) zhx zhb dX1_highestOf_0 (by decide) ?_
  refine lv_istore_n (lv' := [(1, .int 9), (0, .int a1)]) zhx zhb dX1_highestOf_2 rfl zhl (by decide) rfl (fun zls zhl => ?_)
  obtain ⟨zq6, zhq6, zhs⟩ := bnd_e zhs
  have hloop6 : ∀ (zn : Nat) (zx1 : Int32) (zq : (Int32) ⊕ (Unit)), itr (fun z : Int32 => LEvenings_highestOf_3_6 N a1 z) zn zx1 = some zq → (∀ (zy1 : Int32), (.inl zy1) = zq → ∀ (zH : Heap) (zlocs : List Loc) (zls : Array Slot), lv_has zls 2 [(1, .int zy1)] → Hw D (wX h cI M) A s.heap zH zlocs → W p l e (RM 2) s m args below meth c zH zlocs 0 0 Q (F0 m 15 zls [])) → ((.inr ()) = zq → ∀ (zH : Heap) (zlocs : List Loc) (zls : Array Slot), lv_has zls 2 [] → Hw D (wX h cI M) A s.heap zH zlocs → W p l e (RM 2) s m args below meth c zH zlocs 0 0 Q (F0 m 25 zls [])) → ∀ (zH : Heap) (zlocs : List Loc) (zls : Array Slot), lv_has zls 2 [(1, .int zx1), (0, .int a1)] → Hw D (wX h cI M) A s.heap zH zlocs → W p l e (RM 2) s m args below meth c zH zlocs 0 0 Q (F0 m 3 zls []) := by
    intro zn
    induction zn with
    | zero => intro zx1 zq zhq; exact absurd zhq (fun h9 => itr_0 h9)
    | succ zn zih =>
        intro zx1 zq zhq k3_15 k3_25 zH zlocs zls zhl zhw
        obtain ⟨zy9, zhs, zhq⟩ := itr_s zhq
        replace zhs : LEvenings_highestOf_3_6 N a1 zx1 = some zy9 := zhs
        unfold LEvenings_highestOf_3_6 at zhs
        refine lv_iload_n zhx zhb dX1_highestOf_3 rfl (lv_at zhl 0 rfl) ?_
        refine lv_if_lt (tgt := 25) zhx zhb dX1_highestOf_4 (by decide) (fun zc9 => ?_) (fun zc9 => ?_)
        · replace zhs := br_T zhs zc9
          cases zhs
          exact k3_25 (itk_q zhq) zH zlocs zls (lv_sub zhl [] rfl) zhw
        · replace zhs := br_F zhs zc9
          refine lv_iload_n zhx zhb dX1_highestOf_7 rfl (lv_at zhl 1 rfl) ?_
          refine lv_iload_n zhx zhb dX1_highestOf_8 rfl (lv_at zhl 0 rfl) ?_
          obtain ⟨zv4, zhp, zhs⟩ := bnd_e zhs
          refine x_cSNI (As := [.int a1, .int zx1]) (rest := []) C zhw zhl (cOff_hasBit l D cI h a1 zx1 M zv4 zhp) (by decide) (by decide) (List.mem_of_getElem? (i := 26) rfl) kw_30_9 kw_1_2 kw_30_10 md_X11_hasBit rfl rfl (Nat.le_of_ble_eq_true rfl) dX1_highestOf_9 (fun zH zlocs zhw hzv4 => ?_)
          refine lv_if_eq (tgt := 19) zhx zhb dX1_highestOf_12 (by decide) (fun zc9 => ?_) (fun zc9 => ?_)
          · replace zhs := br_T zhs zc9
            obtain ⟨zv5, ze9, zhs⟩ := ltI_e zhs
            refine lv_iinc (v := zv5) (lv' := [(1, .int zv5), (0, .int a1)]) zhx zhb dX1_highestOf_19 zhl (k := 0) rfl (by rw [ze9]; rfl) (by decide) rfl (fun zls zhl => ?_)
            clear ze9
            refine lv_goto (tgt := 3) zhx zhb dX1_highestOf_22 (by decide) ?_
            cases zhs
            exact zih zv5 zq (itk_l zhq) k3_15 k3_25 zH zlocs zls zhl zhw
          · replace zhs := br_F zhs zc9
            cases zhs
            exact k3_15 zx1 (itk_q zhq) zH zlocs zls (lv_sub zhl [0] rfl) zhw
  refine hloop6 N 9 zq6 zhq6 (fun zv7 zhqe zH zlocs zls zhl zhw => ?_) (fun zhqe zH zlocs zls zhl zhw => ?_) zH zlocs zls zhl zhw
  · subst zhqe
    try dsimp only at zhs
    refine lv_iconst (v := 1) zhx zhb dX1_highestOf_15 (by decide) ?_
    refine lv_iload_n zhx zhb dX1_highestOf_16 rfl (lv_at zhl 0 rfl) ?_
    refine lv_ishl zhx zhb dX1_highestOf_17 ?_
    cases zhs
    exact zhret _ _ _ _ dX1_highestOf_18 (by rfl) zhw
  · subst zhqe
    try dsimp only at zhs
    refine lv_iconst (v := 0) zhx zhb dX1_highestOf_25 (by decide) ?_
    cases zhs
    exact zhret _ _ _ _ dX1_highestOf_26 (by rfl) zhw

-- OffFirst$Evenings.costOfHabit in (59, ())
def LEvenings_costOfHabit_23_52 (N : Nat) (a1 : Int32) (a2 : Int32) (a3 : Int32) (zM1 : Mm) (zx3 : Int32) (zx4 : Int32) (zx5 : Int32) : Option ((Int32 × Int32 × Int32) ⊕ ((Int32 × Int32))) :=
  (if a2 ≤ zx5 then some (.inr (zx3, zx4))
  else (sEvenings_isOneTaken a1 zx5).bind fun zv29 =>
  (if zv29 = 0 then ltI (zx5 + 1) fun zv40 =>
  some (.inl (zx3, zx4, zv40))
  else (((if a3 = 0 then (sEvenings_highestOf N zx3).bind fun zv46 =>
  some zv46
  else (sEvenings_oldestOn N zx5 zx3 zM1).bind fun zv45 =>
  some zv45) : Option (Int32))).bind fun zv43 =>
  (sEvenings_offOn zx5 zM1).bind fun zv47 =>
  (sFoods_coinOfAll_l N (zv43 &&& zv47) zM1).bind fun zv48 =>
  ltI (zx4 + zv48) fun zv49 =>
  ltI (zx3 &&& (zv43 ^^^ (-1))) fun zv50 =>
  ltI (zx5 + 1) fun zv51 =>
  some (.inl (zv50, zv49, zv51))))
def sEvenings_costOfHabit (N : Nat) (a1 : Int32) (a2 : Int32) (a3 : Int32) (M : Mm) : Option (Int32 × Mm) :=
  (sEvenings_lookAhead N a2 M).bind fun zM1 =>
  (sStock_bitsThere N zM1).bind fun zv2 =>
  (itr (fun z : Int32 × Int32 × Int32 => LEvenings_costOfHabit_23_52 N a1 a2 a3 zM1 z.1 z.2.1 z.2.2) N (zv2, 0, 0)).bind fun (zv53, zv54) =>
  (sEvenings_offOn (a2 - 1) zM1).bind fun zv55 =>
  (sFoods_coinOfAll_l N (zv53 &&& zv55) zM1).bind fun zv56 =>
  some (zv54 + zv56, zM1)
set_option maxHeartbeats 4000000 in
set_option maxRecDepth 100000 in
theorem cEvenings_costOfHabit (l : Launch) (D : va_G) (cI : ClassId) (h : Nat → Nat) (N : Nat) (a1 : Int32) (a2 : Int32) (a3 : Int32) (M : Mm) (r : Int32) (M' : Mm) (zhs : sEvenings_costOfHabit N a1 a2 a3 M = some (r, M')) : CtI l yX1_costOfHabit cX1_costOfHabit 8 (some .int) 6 D cI (wX h cI M) (wX h cI M') [.ref (h 59), .int a1, .int a2, .int a3] r := by
  unfold sEvenings_costOfHabit at zhs
  refine CtI_of (by decide +kernel) (Nat.le_of_ble_eq_true rfl) ⟨_, rfl⟩ ?_
  intro p e s m args below meth c A Q zls zH zlocs C zhw zhl zhret
  have zhx := C.1
  have zhb := C.2.1
  have zhown := C.2.2.2.2.1
  have zhtB := C.2.2.2.2.2.2.1
  have zhl : lv_has zls 8 [(0, .ref (h 59)), (1, .int a1), (2, .int a2), (3, .int a3)] := zhl
  refine lv_aload_n zhx zhb dX1_costOfHabit_0 rfl (lv_at zhl 0 rfl) ?_
  refine lv_iload_n zhx zhb dX1_costOfHabit_1 rfl (lv_at zhl 2 rfl) ?_
  obtain ⟨zM1, zhp, zhs⟩ := bnd_e zhs
  refine x_cVV (As := [.int a2]) (rest := []) C zhw zhl (cEvenings_lookAhead l D cI h N a2 M zM1 zhp) (by decide) (by decide) kw_43_12 kw_29_9 kw_29_10 kw_2_10 kw_29_11 md_X1_lookAhead rfl 59 (wX_c59 h cI M) rfl rfl rfl rfl (Nat.le_of_ble_eq_true rfl) dX1_costOfHabit_2 (fun zH zlocs zhw => ?_)
  refine lv_aload_n zhx zhb dX1_costOfHabit_5 rfl (lv_at zhl 0 rfl) ?_
  refine x_get C zhw inlX1 rfl 59 0 (by decide) kw_5_20 rfl (wX_c59 h cI zM1) rfl dX1_costOfHabit_6 ?_
  refine x_getN C zhw inlX3 rfl 58 1 (by decide) (List.mem_of_getElem? (i := 35) rfl) rfl (wX_c58 h cI zM1) rfl dX1_costOfHabit_9 ?_
  obtain ⟨zv2, zhp, zhs⟩ := bnd_e zhs
  refine x_cVI (As := []) (rest := []) C zhw zhl (cStock_bitsThere l D cI h N zM1 zv2 zhp) (by decide) (by decide) kw_43_13 kw_29_15 kw_29_16 kw_2_0 kw_29_17 md_X8_bitsThere rfl 40 (wX_c40 h cI zM1) rfl rfl rfl rfl (Nat.le_of_ble_eq_true rfl) dX1_costOfHabit_12 (fun zH zlocs zhw hn9 => ?_)
  refine lv_istore (lv' := [(4, .int zv2), (0, .ref (h 59)), (1, .int a1), (2, .int a2), (3, .int a3)]) zhx zhb dX1_costOfHabit_15 zhl (by decide) rfl (fun zls zhl => ?_)
  refine lv_iconst (v := 0) zhx zhb dX1_costOfHabit_17 (by decide) ?_
  refine lv_istore (lv' := [(5, .int 0), (4, .int zv2), (0, .ref (h 59)), (1, .int a1), (2, .int a2), (3, .int a3)]) zhx zhb dX1_costOfHabit_18 zhl (by decide) rfl (fun zls zhl => ?_)
  refine lv_iconst (v := 0) zhx zhb dX1_costOfHabit_20 (by decide) ?_
  refine lv_istore (lv' := [(6, .int 0), (5, .int 0), (4, .int zv2), (0, .ref (h 59)), (1, .int a1), (2, .int a2), (3, .int a3)]) zhx zhb dX1_costOfHabit_21 zhl (by decide) rfl (fun zls zhl => ?_)
  obtain ⟨zq52, zhq52, zhs⟩ := bnd_e zhs
  have hloop52 : ∀ (zn : Nat) (zx3 : Int32) (zx4 : Int32) (zx5 : Int32) (zq : (Int32 × Int32)), itr (fun z : Int32 × Int32 × Int32 => LEvenings_costOfHabit_23_52 N a1 a2 a3 zM1 z.1 z.2.1 z.2.2) zn (zx3, zx4, zx5) = some zq → (∀ (zy1 : Int32) (zy2 : Int32), (zy1, zy2) = zq → ∀ (zH : Heap) (zlocs : List Loc) (zls : Array Slot), lv_has zls 8 [(5, .int zy2), (4, .int zy1), (0, .ref (h 59)), (2, .int a2)] → Hw D (wX h cI zM1) A s.heap zH zlocs → W p l e (RM 6) s m args below meth c zH zlocs 0 0 Q (F0 m 102 zls [])) → ∀ (zH : Heap) (zlocs : List Loc) (zls : Array Slot), lv_has zls 8 [(6, .int zx5), (5, .int zx4), (4, .int zx3), (0, .ref (h 59)), (1, .int a1), (2, .int a2), (3, .int a3)] → Hw D (wX h cI zM1) A s.heap zH zlocs → W p l e (RM 6) s m args below meth c zH zlocs 0 0 Q (F0 m 23 zls []) := by
    intro zn
    induction zn with
    | zero => intro zx3 zx4 zx5 zq zhq; exact absurd zhq (fun h9 => itr_0 h9)
    | succ zn zih =>
        intro zx3 zx4 zx5 zq zhq k23_102 zH zlocs zls zhl zhw
        obtain ⟨zy9, zhs, zhq⟩ := itr_s zhq
        replace zhs : LEvenings_costOfHabit_23_52 N a1 a2 a3 zM1 zx3 zx4 zx5 = some zy9 := zhs
        unfold LEvenings_costOfHabit_23_52 at zhs
        refine lv_iload zhx zhb dX1_costOfHabit_23 (lv_at zhl 0 rfl) ?_
        refine lv_iload_n zhx zhb dX1_costOfHabit_25 rfl (lv_at zhl 5 rfl) ?_
        refine lv_icmp_ge (tgt := 102) zhx zhb dX1_costOfHabit_26 (by decide) (fun zc9 => ?_) (fun zc9 => ?_)
        · replace zhs := br_T zhs zc9
          cases zhs
          exact k23_102 zx3 zx4 (itk_q zhq) zH zlocs zls (lv_sub zhl [1, 2, 3, 5] rfl) zhw
        · replace zhs := br_F zhs zc9
          refine lv_iload_n zhx zhb dX1_costOfHabit_29 rfl (lv_at zhl 4 rfl) ?_
          refine lv_iload zhx zhb dX1_costOfHabit_30 (lv_at zhl 0 rfl) ?_
          obtain ⟨zv29, zhp, zhs⟩ := bnd_e zhs
          refine x_cSI (As := [.int a1, .int zx5]) (rest := []) C zhw zhl (cEvenings_isOneTaken l D cI h a1 zx5 zM1 zv29 zhp) (by decide) (by decide) kw_43_14 kw_43_15 kw_2_10 kw_43_16 md_X1_isOneTaken rfl rfl (Nat.le_of_ble_eq_true rfl) dX1_costOfHabit_32 (fun zH zlocs zhw hzv29 => ?_)
          refine lv_if_eq (tgt := 96) zhx zhb dX1_costOfHabit_35 (by decide) (fun zc9 => ?_) (fun zc9 => ?_)
          · replace zhs := br_T zhs zc9
            obtain ⟨zv40, ze9, zhs⟩ := ltI_e zhs
            refine lv_iinc (v := zv40) (lv' := [(6, .int zv40), (5, .int zx4), (4, .int zx3), (0, .ref (h 59)), (1, .int a1), (2, .int a2), (3, .int a3)]) zhx zhb dX1_costOfHabit_96 zhl (k := 0) rfl (by rw [ze9]; rfl) (by decide) rfl (fun zls zhl => ?_)
            clear ze9
            refine lv_goto (tgt := 23) zhx zhb dX1_costOfHabit_99 (by decide) ?_
            cases zhs
            exact zih zx3 zx4 zv40 zq (itk_l zhq) k23_102 zH zlocs zls zhl zhw
          · replace zhs := br_F zhs zc9
            refine lv_iload_n zhx zhb dX1_costOfHabit_38 rfl (lv_at zhl 6 rfl) ?_
            obtain ⟨zv43, zhq, zhs⟩ := bnd_e zhs
            have hJ44 : ∀ (zH : Heap) (zlocs : List Loc) (zls : Array Slot), lv_has zls 8 [(6, .int zx5), (5, .int zx4), (4, .int zx3), (0, .ref (h 59)), (1, .int a1), (2, .int a2), (3, .int a3)] → Hw D (wX h cI zM1) A s.heap zH zlocs → W p l e (RM 6) s m args below meth c zH zlocs 0 0 Q (F0 m 58 zls [.int zv43]) := by
              intro zH zlocs zls zhl zhw
              refine lv_istore (lv' := [(7, .int zv43), (6, .int zx5), (5, .int zx4), (4, .int zx3), (0, .ref (h 59)), (1, .int a1), (2, .int a2), (3, .int a3)]) zhx zhb dX1_costOfHabit_58 zhl (by decide) rfl (fun zls zhl => ?_)
              refine lv_iload zhx zhb dX1_costOfHabit_60 (lv_at zhl 2 rfl) ?_
              refine lv_aload_n zhx zhb dX1_costOfHabit_62 rfl (lv_at zhl 4 rfl) ?_
              refine x_get C zhw inlX1 rfl 59 0 (by decide) kw_5_20 rfl (wX_c59 h cI zM1) rfl dX1_costOfHabit_63 ?_
              refine x_getN C zhw inlX3 rfl 58 0 (by decide) (List.mem_of_getElem? (i := 33) rfl) rfl (wX_c58 h cI zM1) rfl dX1_costOfHabit_66 ?_
              refine x_getN C zhw inlX10 rfl 22 1 (by decide) (List.mem_of_getElem? (i := 21) rfl) rfl (wX_c22 h cI zM1) rfl dX1_costOfHabit_69 ?_
              refine lv_iload zhx zhb dX1_costOfHabit_72 (lv_at zhl 0 rfl) ?_
              refine lv_aload_n zhx zhb dX1_costOfHabit_74 rfl (lv_at zhl 4 rfl) ?_
              refine lv_iload zhx zhb dX1_costOfHabit_75 (lv_at zhl 1 rfl) ?_
              obtain ⟨zv47, zhp, zhs⟩ := bnd_e zhs
              refine x_cVI (As := [.int zx5]) (rest := [.int zv43, .ref (h 27), .int zx4]) C zhw zhl (cEvenings_offOn l D cI h zx5 zM1 zv47 zhp) (by decide) (by decide) kw_44_1 kw_30_2 kw_30_3 kw_2_10 kw_30_4 md_X1_offOn rfl 59 (wX_c59 h cI zM1) rfl rfl rfl rfl (Nat.le_of_ble_eq_true rfl) dX1_costOfHabit_77 (fun zH zlocs zhw hn9 => ?_)
              refine lv_iand zhx zhb dX1_costOfHabit_80 ?_
              obtain ⟨zv48, zhp, zhs⟩ := bnd_e zhs
              refine x_cVI (As := [.int (zv43 &&& zv47)]) (rest := [.int zx4]) C zhw zhl (cFoods_coinOfAll_l l D cI h N (zv43 &&& zv47) zM1 zv48 zhp) (by decide) (by decide) kw_44_2 kw_30_6 kw_30_7 kw_3_15 kw_30_8 md_X2_coinOfAll rfl 27 (wX_c27 h cI zM1) rfl rfl rfl rfl (Nat.le_of_ble_eq_true rfl) dX1_costOfHabit_81 (fun zH zlocs zhw hn9 => ?_)
              refine lv_iadd zhx zhb dX1_costOfHabit_84 ?_
              obtain ⟨zv49, ze9, zhs⟩ := ltI_e zhs
              refine lv_topi (fun zy9 ze8 => ?_)
              obtain rfl : zv49 = zy9 := ze9.trans ze8.symm
              clear ze9 ze8
              refine lv_istore (lv' := [(5, .int zv49), (7, .int zv43), (6, .int zx5), (4, .int zx3), (0, .ref (h 59)), (1, .int a1), (2, .int a2), (3, .int a3)]) zhx zhb dX1_costOfHabit_85 zhl (by decide) rfl (fun zls zhl => ?_)
              refine lv_iload zhx zhb dX1_costOfHabit_87 (lv_at zhl 3 rfl) ?_
              refine lv_iload zhx zhb dX1_costOfHabit_89 (lv_at zhl 1 rfl) ?_
              refine lv_iconst (v := (-1)) zhx zhb dX1_costOfHabit_91 (by decide) ?_
              refine lv_ixor zhx zhb dX1_costOfHabit_92 ?_
              refine lv_iand zhx zhb dX1_costOfHabit_93 ?_
              obtain ⟨zv50, ze9, zhs⟩ := ltI_e zhs
              refine lv_topi (fun zy9 ze8 => ?_)
              obtain rfl : zv50 = zy9 := ze9.trans ze8.symm
              clear ze9 ze8
              refine lv_istore (lv' := [(4, .int zv50), (5, .int zv49), (7, .int zv43), (6, .int zx5), (0, .ref (h 59)), (1, .int a1), (2, .int a2), (3, .int a3)]) zhx zhb dX1_costOfHabit_94 zhl (by decide) rfl (fun zls zhl => ?_)
              obtain ⟨zv51, ze9, zhs⟩ := ltI_e zhs
              refine lv_iinc (v := zv51) (lv' := [(6, .int zv51), (4, .int zv50), (5, .int zv49), (7, .int zv43), (0, .ref (h 59)), (1, .int a1), (2, .int a2), (3, .int a3)]) zhx zhb dX1_costOfHabit_96 zhl (k := 3) rfl (by rw [ze9]; rfl) (by decide) rfl (fun zls zhl => ?_)
              clear ze9
              refine lv_goto (tgt := 23) zhx zhb dX1_costOfHabit_99 (by decide) ?_
              cases zhs
              exact zih zv50 zv49 zv51 zq (itk_l zhq) k23_102 zH zlocs zls (lv_sub zhl [0, 2, 1, 4, 5, 6, 7] rfl) zhw
            replace zhs := zhq
            clear zhq
            refine lv_if_ne (tgt := 50) zhx zhb dX1_costOfHabit_39 (by decide) (fun zc9 => ?_) (fun zc9 => ?_)
            · replace zhs := br_F zhs zc9
              refine lv_aload_n zhx zhb dX1_costOfHabit_50 rfl (lv_at zhl 3 rfl) ?_
              refine lv_iload zhx zhb dX1_costOfHabit_51 (lv_at zhl 0 rfl) ?_
              refine lv_iload zhx zhb dX1_costOfHabit_53 (lv_at zhl 2 rfl) ?_
              obtain ⟨zv45, zhp, zhs⟩ := bnd_e zhs
              refine x_cVI (As := [.int zx5, .int zx3]) (rest := []) C zhw zhl (cEvenings_oldestOn l D cI h N zx5 zx3 zM1 zv45 zhp) (by decide) (by decide) kw_44_0 kw_31_12 kw_31_13 kw_2_10 kw_31_14 md_X1_oldestOn rfl 59 (wX_c59 h cI zM1) rfl rfl rfl rfl (Nat.le_of_ble_eq_true rfl) dX1_costOfHabit_55 (fun zH zlocs zhw hn9 => ?_)
              cases zhs
              exact hJ44 zH zlocs zls zhl zhw
            · replace zhs := br_T zhs zc9
              refine lv_iload zhx zhb dX1_costOfHabit_42 (lv_at zhl 2 rfl) ?_
              obtain ⟨zv46, zhp, zhs⟩ := bnd_e zhs
              refine x_cSI (As := [.int zx3]) (rest := []) C zhw zhl (cEvenings_highestOf l D cI h N zx3 zM1 zv46 zhp) (by decide) (by decide) kw_43_21 kw_43_22 kw_2_10 kw_43_23 md_X1_highestOf rfl rfl (Nat.le_of_ble_eq_true rfl) dX1_costOfHabit_44 (fun zH zlocs zhw hn9 => ?_)
              refine lv_goto (tgt := 58) zhx zhb dX1_costOfHabit_47 (by decide) ?_
              cases zhs
              exact hJ44 zH zlocs zls zhl zhw
  refine hloop52 N zv2 0 0 zq52 zhq52 (fun zv53 zv54 zhqe zH zlocs zls zhl zhw => ?_) zH zlocs zls zhl zhw
  · subst zhqe
    try dsimp only at zhs
    refine lv_iload zhx zhb dX1_costOfHabit_102 (lv_at zhl 0 rfl) ?_
    refine lv_aload_n zhx zhb dX1_costOfHabit_104 rfl (lv_at zhl 2 rfl) ?_
    refine x_get C zhw inlX1 rfl 59 0 (by decide) kw_5_20 rfl (wX_c59 h cI zM1) rfl dX1_costOfHabit_105 ?_
    refine x_getN C zhw inlX3 rfl 58 0 (by decide) (List.mem_of_getElem? (i := 33) rfl) rfl (wX_c58 h cI zM1) rfl dX1_costOfHabit_108 ?_
    refine x_getN C zhw inlX10 rfl 22 1 (by decide) (List.mem_of_getElem? (i := 21) rfl) rfl (wX_c22 h cI zM1) rfl dX1_costOfHabit_111 ?_
    refine lv_iload zhx zhb dX1_costOfHabit_114 (lv_at zhl 1 rfl) ?_
    refine lv_aload_n zhx zhb dX1_costOfHabit_116 rfl (lv_at zhl 2 rfl) ?_
    refine lv_iload_n zhx zhb dX1_costOfHabit_117 rfl (lv_at zhl 3 rfl) ?_
    refine lv_iconst (v := 1) zhx zhb dX1_costOfHabit_118 (by decide) ?_
    refine lv_isub zhx zhb dX1_costOfHabit_119 ?_
    obtain ⟨zv55, zhp, zhs⟩ := bnd_e zhs
    refine x_cVI (As := [.int (a2 - 1)]) (rest := [.int zv53, .ref (h 27), .int zv54]) C zhw zhl (cEvenings_offOn l D cI h (a2 - 1) zM1 zv55 zhp) (by decide) (by decide) kw_44_1 kw_30_2 kw_30_3 kw_2_10 kw_30_4 md_X1_offOn rfl 59 (wX_c59 h cI zM1) rfl rfl rfl rfl (Nat.le_of_ble_eq_true rfl) dX1_costOfHabit_120 (fun zH zlocs zhw hn9 => ?_)
    refine lv_iand zhx zhb dX1_costOfHabit_123 ?_
    obtain ⟨zv56, zhp, zhs⟩ := bnd_e zhs
    refine x_cVI (As := [.int (zv53 &&& zv55)]) (rest := [.int zv54]) C zhw zhl (cFoods_coinOfAll_l l D cI h N (zv53 &&& zv55) zM1 zv56 zhp) (by decide) (by decide) kw_44_2 kw_30_6 kw_30_7 kw_3_15 kw_30_8 md_X2_coinOfAll rfl 27 (wX_c27 h cI zM1) rfl rfl rfl rfl (Nat.le_of_ble_eq_true rfl) dX1_costOfHabit_124 (fun zH zlocs zhw hn9 => ?_)
    refine lv_iadd zhx zhb dX1_costOfHabit_127 ?_
    cases zhs
    exact zhret _ _ _ _ dX1_costOfHabit_128 (by rfl) zhw

-- OffFirst.habit in (0, ())
def sOff_habit (N : Nat) (a1 : Int32) (a2 : Int32) (a3 : Int32) (M : Mm) : Option (Int32 × Mm) :=
  (sOff_isWithin a1 0 9999).bind fun zv1 =>
  (if zv1 = 0 then some ((-1), M)
  else (sOff_isWithin a2 1 20).bind fun zv2 =>
  (if zv2 = 0 then some ((-1), M)
  else (sOff_isWithin a3 0 1).bind fun zv3 =>
  (if zv3 = 0 then some ((-1), M)
  else (sEvenings_costOfHabit N a1 a2 a3 M).bind fun (zv4, zM5) =>
  some (zv4, zM5))))
set_option maxHeartbeats 4000000 in
set_option maxRecDepth 100000 in
theorem cOff_habit (l : Launch) (D : va_G) (cI : ClassId) (h : Nat → Nat) (N : Nat) (a1 : Int32) (a2 : Int32) (a3 : Int32) (M : Mm) (r : Int32) (M' : Mm) (zhs : sOff_habit N a1 a2 a3 M = some (r, M')) : CtI l yX11_habit cX11_habit 4 (some .int) 7 D cI (wX h cI M) (wX h cI M') [.ref (h 0), .int a1, .int a2, .int a3] r := by
  unfold sOff_habit at zhs
  refine CtI_of (by decide +kernel) (Nat.le_of_ble_eq_true rfl) ⟨_, rfl⟩ ?_
  intro p e s m args below meth c A Q zls zH zlocs C zhw zhl zhret
  have zhx := C.1
  have zhb := C.2.1
  have zhown := C.2.2.2.2.1
  have zhtB := C.2.2.2.2.2.2.1
  have zhl : lv_has zls 4 [(0, .ref (h 0)), (1, .int a1), (2, .int a2), (3, .int a3)] := zhl
  refine lv_iload_n zhx zhb dX11_habit_0 rfl (lv_at zhl 1 rfl) ?_
  refine lv_iconst (v := 0) zhx zhb dX11_habit_1 (by decide) ?_
  refine lv_sipush (v := 9999) zhx zhb dX11_habit_2 (by decide) ?_
  obtain ⟨zv1, zhp, zhs⟩ := bnd_e zhs
  refine x_cSI (As := [.int a1, .int 0, .int 9999]) (rest := []) C zhw zhl (cOff_isWithin l D cI h a1 0 9999 M zv1 zhp) (by decide) (by decide) kw_9_22 kw_9_23 kw_1_2 kw_10_0 md_X11_isWithin rfl rfl (Nat.le_of_ble_eq_true rfl) dX11_habit_5 (fun zH zlocs zhw hzv1 => ?_)
  refine lv_if_eq (tgt := 30) zhx zhb dX11_habit_8 (by decide) (fun zc9 => ?_) (fun zc9 => ?_)
  · replace zhs := br_T zhs zc9
    refine lv_iconst (v := (-1)) zhx zhb dX11_habit_30 (by decide) ?_
    cases zhs
    exact zhret _ _ _ _ dX11_habit_31 (by rfl) zhw
  · replace zhs := br_F zhs zc9
    refine lv_iload_n zhx zhb dX11_habit_11 rfl (lv_at zhl 2 rfl) ?_
    refine lv_iconst (v := 1) zhx zhb dX11_habit_12 (by decide) ?_
    refine lv_bipush (v := 20) zhx zhb dX11_habit_13 (by decide) ?_
    obtain ⟨zv2, zhp, zhs⟩ := bnd_e zhs
    refine x_cSI (As := [.int a2, .int 1, .int 20]) (rest := []) C zhw zhl (cOff_isWithin l D cI h a2 1 20 M zv2 zhp) (by decide) (by decide) kw_9_22 kw_9_23 kw_1_2 kw_10_0 md_X11_isWithin rfl rfl (Nat.le_of_ble_eq_true rfl) dX11_habit_15 (fun zH zlocs zhw hzv2 => ?_)
    refine lv_if_eq (tgt := 30) zhx zhb dX11_habit_18 (by decide) (fun zc9 => ?_) (fun zc9 => ?_)
    · replace zhs := br_T zhs zc9
      refine lv_iconst (v := (-1)) zhx zhb dX11_habit_30 (by decide) ?_
      cases zhs
      exact zhret _ _ _ _ dX11_habit_31 (by rfl) zhw
    · replace zhs := br_F zhs zc9
      refine lv_iload_n zhx zhb dX11_habit_21 rfl (lv_at zhl 3 rfl) ?_
      refine lv_iconst (v := 0) zhx zhb dX11_habit_22 (by decide) ?_
      refine lv_iconst (v := 1) zhx zhb dX11_habit_23 (by decide) ?_
      obtain ⟨zv3, zhp, zhs⟩ := bnd_e zhs
      refine x_cSI (As := [.int a3, .int 0, .int 1]) (rest := []) C zhw zhl (cOff_isWithin l D cI h a3 0 1 M zv3 zhp) (by decide) (by decide) kw_9_22 kw_9_23 kw_1_2 kw_10_0 md_X11_isWithin rfl rfl (Nat.le_of_ble_eq_true rfl) dX11_habit_24 (fun zH zlocs zhw hzv3 => ?_)
      refine lv_if_ne (tgt := 32) zhx zhb dX11_habit_27 (by decide) (fun zc9 => ?_) (fun zc9 => ?_)
      · replace zhs := br_F zhs zc9
        refine lv_aload_n zhx zhb dX11_habit_32 rfl (lv_at zhl 0 rfl) ?_
        refine x_get C zhw inlX11 rfl 0 8 (by decide) kw_2_11 rfl (wX_c0 h cI M) rfl dX11_habit_33 ?_
        refine lv_iload_n zhx zhb dX11_habit_36 rfl (lv_at zhl 1 rfl) ?_
        refine lv_iload_n zhx zhb dX11_habit_37 rfl (lv_at zhl 2 rfl) ?_
        refine lv_iload_n zhx zhb dX11_habit_38 rfl (lv_at zhl 3 rfl) ?_
        obtain ⟨⟨zv4, zM5⟩, zhp, zhs⟩ := bnd_e zhs
        try dsimp only at zhs
        refine x_cVI (As := [.int a1, .int a2, .int a3]) (rest := []) C zhw zhl (cEvenings_costOfHabit l D cI h N a1 a2 a3 M zv4 zM5 zhp) (by decide) (by decide) kw_43_8 kw_43_9 kw_43_10 kw_2_10 kw_43_11 md_X1_costOfHabit rfl 59 (wX_c59 h cI M) rfl rfl rfl rfl (Nat.le_of_ble_eq_true rfl) dX11_habit_39 (fun zH zlocs zhw hn9 => ?_)
        cases zhs
        exact zhret _ _ _ _ dX11_habit_42 (by rfl) zhw
      · replace zhs := br_T zhs zc9
        refine lv_iconst (v := (-1)) zhx zhb dX11_habit_30 (by decide) ?_
        cases zhs
        exact zhret _ _ _ _ dX11_habit_31 (by rfl) zhw

-- OffFirst$Stock.copyFrom in (52, (40,))
def LStock_copyFrom_20_18_17 (N : Nat) (zx3 : Int32) (zM4 : Mm) : Option ((Int32 × Mm) ⊕ ((Mm))) :=
  (if (zM4 52 5) ≤ zx3 then some (.inr zM4)
  else ltM (putf 10 zM4 53 zx3 (atf 10 (zM4 41) zx3)) fun zM11 =>
  ltM (putf 10 zM11 54 zx3 (atf 10 (zM11 42) zx3)) fun zM12 =>
  ltM (putf 10 zM12 55 zx3 (atf 10 (zM12 43) zx3)) fun zM13 =>
  ltM (putf 10 zM13 56 zx3 (atf 10 (zM13 44) zx3)) fun zM14 =>
  ltM (putf 10 zM14 57 zx3 (atf 10 (zM14 45) zx3)) fun zM15 =>
  ltI (zx3 + 1) fun zv16 =>
  some (.inl (zv16, zM15)))
def sStock_copyFrom_20 (N : Nat) (M : Mm) : Option Mm :=
  ltM (mset M 52 5 (M 40 5)) fun zM1 =>
  ltM (mset zM1 52 6 (zM1 40 6)) fun zM2 =>
  (itr (fun z : Int32 × Mm => LStock_copyFrom_20_18_17 N z.1 z.2) N (0, zM2)).bind fun zM18 =>
  some zM18
set_option maxHeartbeats 4000000 in
set_option maxRecDepth 100000 in
theorem cStock_copyFrom_20 (l : Launch) (D : va_G) (cI : ClassId) (h : Nat → Nat) (N : Nat) (M : Mm) (M' : Mm) (zhs : sStock_copyFrom_20 N M = some M') : CtV l yX8_copyFrom cX8_copyFrom 3 2 D cI (wX h cI M) (wX h cI M') [.ref (h 52), .ref (h 40)] := by
  unfold sStock_copyFrom_20 at zhs
  refine CtV_of (by decide +kernel) (Nat.le_of_ble_eq_true rfl) ?_
  intro p e s m args below meth c A Q zls zH zlocs C zhw zhl zhret
  have zhx := C.1
  have zhb := C.2.1
  have zhown := C.2.2.2.2.1
  have zhtB := C.2.2.2.2.2.2.1
  have zhl : lv_has zls 3 [(0, .ref (h 52)), (1, .ref (h 40))] := zhl
  refine lv_aload_n zhx zhb dX8_copyFrom_0 rfl (lv_at zhl 0 rfl) ?_
  refine lv_aload_n zhx zhb dX8_copyFrom_1 rfl (lv_at zhl 1 rfl) ?_
  refine x_get C zhw inlX8 rfl 40 5 (by decide) kw_7_13 rfl (wX_c40 h cI M) rfl dX8_copyFrom_2 ?_
  refine x_put C zhw inlX8 rfl tyX8_ok nmX8 52 5 (by decide) kw_7_13 rfl rfl rfl (wX_c52 h cI M) (Nat.le_of_ble_eq_true rfl) (wX_s52_5 h cI M _) dX8_copyFrom_5 (fun zH zlocs zhw => ?_)
  obtain ⟨zM1, ze9, zhs⟩ := ltM_e zhs
  rw [← ze9] at zhw; clear ze9
  refine lv_aload_n zhx zhb dX8_copyFrom_8 rfl (lv_at zhl 0 rfl) ?_
  refine lv_aload_n zhx zhb dX8_copyFrom_9 rfl (lv_at zhl 1 rfl) ?_
  refine x_get C zhw inlX8 rfl 40 6 (by decide) kw_7_14 rfl (wX_c40 h cI zM1) rfl dX8_copyFrom_10 ?_
  refine x_put C zhw inlX8 rfl tyX8_ok nmX8 52 6 (by decide) kw_7_14 rfl rfl rfl (wX_c52 h cI zM1) (Nat.le_of_ble_eq_true rfl) (wX_s52_6 h cI zM1 _) dX8_copyFrom_13 (fun zH zlocs zhw => ?_)
  obtain ⟨zM2, ze9, zhs⟩ := ltM_e zhs
  rw [← ze9] at zhw; clear ze9
  refine lv_iconst (v := 0) zhx zhb dX8_copyFrom_16 (by decide) ?_
  refine lv_istore_n (lv' := [(2, .int 0), (0, .ref (h 52)), (1, .ref (h 40))]) zhx zhb dX8_copyFrom_17 rfl zhl (by decide) rfl (fun zls zhl => ?_)
  obtain ⟨zq17, zhq17, zhs⟩ := bnd_e zhs
  have hloop17 : ∀ (zn : Nat) (zx3 : Int32) (zM4 : Mm) (zq : (Mm)), itr (fun z : Int32 × Mm => LStock_copyFrom_20_18_17 N z.1 z.2) zn (zx3, zM4) = some zq → (∀ (zy1 : Mm), zy1 = zq → ∀ (zH : Heap) (zlocs : List Loc) (zls : Array Slot), lv_has zls 3 [] → Hw D (wX h cI zy1) A s.heap zH zlocs → W p l e (RM 2) s m args below meth c zH zlocs 0 0 Q (F0 m 112 zls [])) → ∀ (zH : Heap) (zlocs : List Loc) (zls : Array Slot), lv_has zls 3 [(2, .int zx3), (0, .ref (h 52)), (1, .ref (h 40))] → Hw D (wX h cI zM4) A s.heap zH zlocs → W p l e (RM 2) s m args below meth c zH zlocs 0 0 Q (F0 m 18 zls []) := by
    intro zn
    induction zn with
    | zero => intro zx3 zM4 zq zhq; exact absurd zhq (fun h9 => itr_0 h9)
    | succ zn zih =>
        intro zx3 zM4 zq zhq k18_112 zH zlocs zls zhl zhw
        obtain ⟨zy9, zhs, zhq⟩ := itr_s zhq
        replace zhs : LStock_copyFrom_20_18_17 N zx3 zM4 = some zy9 := zhs
        unfold LStock_copyFrom_20_18_17 at zhs
        refine lv_iload_n zhx zhb dX8_copyFrom_18 rfl (lv_at zhl 0 rfl) ?_
        refine lv_aload_n zhx zhb dX8_copyFrom_19 rfl (lv_at zhl 1 rfl) ?_
        refine x_get C zhw inlX8 rfl 52 5 (by decide) kw_7_13 rfl (wX_c52 h cI zM4) rfl dX8_copyFrom_20 ?_
        refine lv_icmp_ge (tgt := 112) zhx zhb dX8_copyFrom_23 (by decide) (fun zc9 => ?_) (fun zc9 => ?_)
        · replace zhs := br_T zhs zc9
          cases zhs
          exact k18_112 zM4 (itk_q zhq) zH zlocs zls (lv_sub zhl [] rfl) zhw
        · replace zhs := br_F zhs zc9
          refine lv_aload_n zhx zhb dX8_copyFrom_26 rfl (lv_at zhl 1 rfl) ?_
          refine x_get C zhw inlX8 rfl 52 0 (by decide) kw_5_2 rfl (wX_c52 h cI zM4) rfl dX8_copyFrom_27 ?_
          refine lv_iload_n zhx zhb dX8_copyFrom_30 rfl (lv_at zhl 0 rfl) ?_
          refine lv_aload_n zhx zhb dX8_copyFrom_31 rfl (lv_at zhl 2 rfl) ?_
          refine x_get C zhw inlX8 rfl 40 0 (by decide) kw_5_2 rfl (wX_c40 h cI zM4) rfl dX8_copyFrom_32 ?_
          refine lv_iload_n zhx zhb dX8_copyFrom_35 rfl (lv_at zhl 0 rfl) ?_
          refine x_cSNI (As := [.ref (h 41), .int zx3]) (rest := [.int zx3, .ref (h 53)]) C zhw zhl (c_at l D cI (wX h cI zM4) 41 10 (h 41) (zM4 41) (wX_c41 h cI zM4) (by decide) zx3) (by decide) (by decide) (List.mem_of_getElem? (i := 17) rfl) kw_7_7 kw_1_2 kw_7_8 md_X11_at rfl rfl (Nat.le_of_ble_eq_true rfl) dX8_copyFrom_36 (fun zH zlocs zhw hn9 => ?_)
          refine x_cSNV (As := [.ref (h 53), .int zx3, .int (atf 10 (zM4 41) zx3)]) (rest := []) C zhw zhl (c_put l D cI (wX h cI) zM4 53 10 (h 53) (wX_c53 h cI zM4) (fun j v => wX_a53 h cI zM4 j v) (by decide) zx3 (atf 10 (zM4 41) zx3)) (by decide) (by decide) (List.mem_of_getElem? (i := 10) rfl) kw_7_0 kw_1_2 kw_7_1 md_X11_put rfl rfl (Nat.le_of_ble_eq_true rfl) dX8_copyFrom_39 (fun zH zlocs zhw => ?_)
          obtain ⟨zM11, ze9, zhs⟩ := ltM_e zhs
          rw [← ze9] at zhw; clear ze9
          refine lv_aload_n zhx zhb dX8_copyFrom_42 rfl (lv_at zhl 1 rfl) ?_
          refine x_get C zhw inlX8 rfl 52 1 (by decide) kw_5_3 rfl (wX_c52 h cI zM11) rfl dX8_copyFrom_43 ?_
          refine lv_iload_n zhx zhb dX8_copyFrom_46 rfl (lv_at zhl 0 rfl) ?_
          refine lv_aload_n zhx zhb dX8_copyFrom_47 rfl (lv_at zhl 2 rfl) ?_
          refine x_get C zhw inlX8 rfl 40 1 (by decide) kw_5_3 rfl (wX_c40 h cI zM11) rfl dX8_copyFrom_48 ?_
          refine lv_iload_n zhx zhb dX8_copyFrom_51 rfl (lv_at zhl 0 rfl) ?_
          refine x_cSNI (As := [.ref (h 42), .int zx3]) (rest := [.int zx3, .ref (h 54)]) C zhw zhl (c_at l D cI (wX h cI zM11) 42 10 (h 42) (zM11 42) (wX_c42 h cI zM11) (by decide) zx3) (by decide) (by decide) (List.mem_of_getElem? (i := 17) rfl) kw_7_7 kw_1_2 kw_7_8 md_X11_at rfl rfl (Nat.le_of_ble_eq_true rfl) dX8_copyFrom_52 (fun zH zlocs zhw hn9 => ?_)
          refine x_cSNV (As := [.ref (h 54), .int zx3, .int (atf 10 (zM11 42) zx3)]) (rest := []) C zhw zhl (c_put l D cI (wX h cI) zM11 54 10 (h 54) (wX_c54 h cI zM11) (fun j v => wX_a54 h cI zM11 j v) (by decide) zx3 (atf 10 (zM11 42) zx3)) (by decide) (by decide) (List.mem_of_getElem? (i := 10) rfl) kw_7_0 kw_1_2 kw_7_1 md_X11_put rfl rfl (Nat.le_of_ble_eq_true rfl) dX8_copyFrom_55 (fun zH zlocs zhw => ?_)
          obtain ⟨zM12, ze9, zhs⟩ := ltM_e zhs
          rw [← ze9] at zhw; clear ze9
          refine lv_aload_n zhx zhb dX8_copyFrom_58 rfl (lv_at zhl 1 rfl) ?_
          refine x_get C zhw inlX8 rfl 52 2 (by decide) kw_5_4 rfl (wX_c52 h cI zM12) rfl dX8_copyFrom_59 ?_
          refine lv_iload_n zhx zhb dX8_copyFrom_62 rfl (lv_at zhl 0 rfl) ?_
          refine lv_aload_n zhx zhb dX8_copyFrom_63 rfl (lv_at zhl 2 rfl) ?_
          refine x_get C zhw inlX8 rfl 40 2 (by decide) kw_5_4 rfl (wX_c40 h cI zM12) rfl dX8_copyFrom_64 ?_
          refine lv_iload_n zhx zhb dX8_copyFrom_67 rfl (lv_at zhl 0 rfl) ?_
          refine x_cSNI (As := [.ref (h 43), .int zx3]) (rest := [.int zx3, .ref (h 55)]) C zhw zhl (c_at l D cI (wX h cI zM12) 43 10 (h 43) (zM12 43) (wX_c43 h cI zM12) (by decide) zx3) (by decide) (by decide) (List.mem_of_getElem? (i := 17) rfl) kw_7_7 kw_1_2 kw_7_8 md_X11_at rfl rfl (Nat.le_of_ble_eq_true rfl) dX8_copyFrom_68 (fun zH zlocs zhw hn9 => ?_)
          refine x_cSNV (As := [.ref (h 55), .int zx3, .int (atf 10 (zM12 43) zx3)]) (rest := []) C zhw zhl (c_put l D cI (wX h cI) zM12 55 10 (h 55) (wX_c55 h cI zM12) (fun j v => wX_a55 h cI zM12 j v) (by decide) zx3 (atf 10 (zM12 43) zx3)) (by decide) (by decide) (List.mem_of_getElem? (i := 10) rfl) kw_7_0 kw_1_2 kw_7_1 md_X11_put rfl rfl (Nat.le_of_ble_eq_true rfl) dX8_copyFrom_71 (fun zH zlocs zhw => ?_)
          obtain ⟨zM13, ze9, zhs⟩ := ltM_e zhs
          rw [← ze9] at zhw; clear ze9
          refine lv_aload_n zhx zhb dX8_copyFrom_74 rfl (lv_at zhl 1 rfl) ?_
          refine x_get C zhw inlX8 rfl 52 3 (by decide) kw_5_5 rfl (wX_c52 h cI zM13) rfl dX8_copyFrom_75 ?_
          refine lv_iload_n zhx zhb dX8_copyFrom_78 rfl (lv_at zhl 0 rfl) ?_
          refine lv_aload_n zhx zhb dX8_copyFrom_79 rfl (lv_at zhl 2 rfl) ?_
          refine x_get C zhw inlX8 rfl 40 3 (by decide) kw_5_5 rfl (wX_c40 h cI zM13) rfl dX8_copyFrom_80 ?_
          refine lv_iload_n zhx zhb dX8_copyFrom_83 rfl (lv_at zhl 0 rfl) ?_
          refine x_cSNI (As := [.ref (h 44), .int zx3]) (rest := [.int zx3, .ref (h 56)]) C zhw zhl (c_at l D cI (wX h cI zM13) 44 10 (h 44) (zM13 44) (wX_c44 h cI zM13) (by decide) zx3) (by decide) (by decide) (List.mem_of_getElem? (i := 17) rfl) kw_7_7 kw_1_2 kw_7_8 md_X11_at rfl rfl (Nat.le_of_ble_eq_true rfl) dX8_copyFrom_84 (fun zH zlocs zhw hn9 => ?_)
          refine x_cSNV (As := [.ref (h 56), .int zx3, .int (atf 10 (zM13 44) zx3)]) (rest := []) C zhw zhl (c_put l D cI (wX h cI) zM13 56 10 (h 56) (wX_c56 h cI zM13) (fun j v => wX_a56 h cI zM13 j v) (by decide) zx3 (atf 10 (zM13 44) zx3)) (by decide) (by decide) (List.mem_of_getElem? (i := 10) rfl) kw_7_0 kw_1_2 kw_7_1 md_X11_put rfl rfl (Nat.le_of_ble_eq_true rfl) dX8_copyFrom_87 (fun zH zlocs zhw => ?_)
          obtain ⟨zM14, ze9, zhs⟩ := ltM_e zhs
          rw [← ze9] at zhw; clear ze9
          refine lv_aload_n zhx zhb dX8_copyFrom_90 rfl (lv_at zhl 1 rfl) ?_
          refine x_get C zhw inlX8 rfl 52 4 (by decide) kw_5_6 rfl (wX_c52 h cI zM14) rfl dX8_copyFrom_91 ?_
          refine lv_iload_n zhx zhb dX8_copyFrom_94 rfl (lv_at zhl 0 rfl) ?_
          refine lv_aload_n zhx zhb dX8_copyFrom_95 rfl (lv_at zhl 2 rfl) ?_
          refine x_get C zhw inlX8 rfl 40 4 (by decide) kw_5_6 rfl (wX_c40 h cI zM14) rfl dX8_copyFrom_96 ?_
          refine lv_iload_n zhx zhb dX8_copyFrom_99 rfl (lv_at zhl 0 rfl) ?_
          refine x_cSNI (As := [.ref (h 45), .int zx3]) (rest := [.int zx3, .ref (h 57)]) C zhw zhl (c_at l D cI (wX h cI zM14) 45 10 (h 45) (zM14 45) (wX_c45 h cI zM14) (by decide) zx3) (by decide) (by decide) (List.mem_of_getElem? (i := 17) rfl) kw_7_7 kw_1_2 kw_7_8 md_X11_at rfl rfl (Nat.le_of_ble_eq_true rfl) dX8_copyFrom_100 (fun zH zlocs zhw hn9 => ?_)
          refine x_cSNV (As := [.ref (h 57), .int zx3, .int (atf 10 (zM14 45) zx3)]) (rest := []) C zhw zhl (c_put l D cI (wX h cI) zM14 57 10 (h 57) (wX_c57 h cI zM14) (fun j v => wX_a57 h cI zM14 j v) (by decide) zx3 (atf 10 (zM14 45) zx3)) (by decide) (by decide) (List.mem_of_getElem? (i := 10) rfl) kw_7_0 kw_1_2 kw_7_1 md_X11_put rfl rfl (Nat.le_of_ble_eq_true rfl) dX8_copyFrom_103 (fun zH zlocs zhw => ?_)
          obtain ⟨zM15, ze9, zhs⟩ := ltM_e zhs
          rw [← ze9] at zhw; clear ze9
          obtain ⟨zv16, ze9, zhs⟩ := ltI_e zhs
          refine lv_iinc (v := zv16) (lv' := [(2, .int zv16), (0, .ref (h 52)), (1, .ref (h 40))]) zhx zhb dX8_copyFrom_106 zhl (k := 0) rfl (by rw [ze9]; rfl) (by decide) rfl (fun zls zhl => ?_)
          clear ze9
          refine lv_goto (tgt := 18) zhx zhb dX8_copyFrom_109 (by decide) ?_
          cases zhs
          exact zih zv16 zM15 zq (itk_l zhq) k18_112 zH zlocs zls zhl zhw
  refine hloop17 N 0 zM2 zq17 zhq17 (fun zM18 zhqe zH zlocs zls zhl zhw => ?_) zH zlocs zls zhl zhw
  · subst zhqe
    cases zhs
    exact zhret _ _ _ _ dX8_copyFrom_112 zhw

-- OffFirst$Stock.copyFrom in (46, (40,))
def LStock_copyFrom_10_18_17 (N : Nat) (zx3 : Int32) (zM4 : Mm) : Option ((Int32 × Mm) ⊕ ((Mm))) :=
  (if (zM4 46 5) ≤ zx3 then some (.inr zM4)
  else ltM (putf 10 zM4 47 zx3 (atf 10 (zM4 41) zx3)) fun zM11 =>
  ltM (putf 10 zM11 48 zx3 (atf 10 (zM11 42) zx3)) fun zM12 =>
  ltM (putf 10 zM12 49 zx3 (atf 10 (zM12 43) zx3)) fun zM13 =>
  ltM (putf 10 zM13 50 zx3 (atf 10 (zM13 44) zx3)) fun zM14 =>
  ltM (putf 10 zM14 51 zx3 (atf 10 (zM14 45) zx3)) fun zM15 =>
  ltI (zx3 + 1) fun zv16 =>
  some (.inl (zv16, zM15)))
def sStock_copyFrom_10 (N : Nat) (M : Mm) : Option Mm :=
  ltM (mset M 46 5 (M 40 5)) fun zM1 =>
  ltM (mset zM1 46 6 (zM1 40 6)) fun zM2 =>
  (itr (fun z : Int32 × Mm => LStock_copyFrom_10_18_17 N z.1 z.2) N (0, zM2)).bind fun zM18 =>
  some zM18
set_option maxHeartbeats 4000000 in
set_option maxRecDepth 100000 in
theorem cStock_copyFrom_10 (l : Launch) (D : va_G) (cI : ClassId) (h : Nat → Nat) (N : Nat) (M : Mm) (M' : Mm) (zhs : sStock_copyFrom_10 N M = some M') : CtV l yX8_copyFrom cX8_copyFrom 3 2 D cI (wX h cI M) (wX h cI M') [.ref (h 46), .ref (h 40)] := by
  unfold sStock_copyFrom_10 at zhs
  refine CtV_of (by decide +kernel) (Nat.le_of_ble_eq_true rfl) ?_
  intro p e s m args below meth c A Q zls zH zlocs C zhw zhl zhret
  have zhx := C.1
  have zhb := C.2.1
  have zhown := C.2.2.2.2.1
  have zhtB := C.2.2.2.2.2.2.1
  have zhl : lv_has zls 3 [(0, .ref (h 46)), (1, .ref (h 40))] := zhl
  refine lv_aload_n zhx zhb dX8_copyFrom_0 rfl (lv_at zhl 0 rfl) ?_
  refine lv_aload_n zhx zhb dX8_copyFrom_1 rfl (lv_at zhl 1 rfl) ?_
  refine x_get C zhw inlX8 rfl 40 5 (by decide) kw_7_13 rfl (wX_c40 h cI M) rfl dX8_copyFrom_2 ?_
  refine x_put C zhw inlX8 rfl tyX8_ok nmX8 46 5 (by decide) kw_7_13 rfl rfl rfl (wX_c46 h cI M) (Nat.le_of_ble_eq_true rfl) (wX_s46_5 h cI M _) dX8_copyFrom_5 (fun zH zlocs zhw => ?_)
  obtain ⟨zM1, ze9, zhs⟩ := ltM_e zhs
  rw [← ze9] at zhw; clear ze9
  refine lv_aload_n zhx zhb dX8_copyFrom_8 rfl (lv_at zhl 0 rfl) ?_
  refine lv_aload_n zhx zhb dX8_copyFrom_9 rfl (lv_at zhl 1 rfl) ?_
  refine x_get C zhw inlX8 rfl 40 6 (by decide) kw_7_14 rfl (wX_c40 h cI zM1) rfl dX8_copyFrom_10 ?_
  refine x_put C zhw inlX8 rfl tyX8_ok nmX8 46 6 (by decide) kw_7_14 rfl rfl rfl (wX_c46 h cI zM1) (Nat.le_of_ble_eq_true rfl) (wX_s46_6 h cI zM1 _) dX8_copyFrom_13 (fun zH zlocs zhw => ?_)
  obtain ⟨zM2, ze9, zhs⟩ := ltM_e zhs
  rw [← ze9] at zhw; clear ze9
  refine lv_iconst (v := 0) zhx zhb dX8_copyFrom_16 (by decide) ?_
  refine lv_istore_n (lv' := [(2, .int 0), (0, .ref (h 46)), (1, .ref (h 40))]) zhx zhb dX8_copyFrom_17 rfl zhl (by decide) rfl (fun zls zhl => ?_)
  obtain ⟨zq17, zhq17, zhs⟩ := bnd_e zhs
  have hloop17 : ∀ (zn : Nat) (zx3 : Int32) (zM4 : Mm) (zq : (Mm)), itr (fun z : Int32 × Mm => LStock_copyFrom_10_18_17 N z.1 z.2) zn (zx3, zM4) = some zq → (∀ (zy1 : Mm), zy1 = zq → ∀ (zH : Heap) (zlocs : List Loc) (zls : Array Slot), lv_has zls 3 [] → Hw D (wX h cI zy1) A s.heap zH zlocs → W p l e (RM 2) s m args below meth c zH zlocs 0 0 Q (F0 m 112 zls [])) → ∀ (zH : Heap) (zlocs : List Loc) (zls : Array Slot), lv_has zls 3 [(2, .int zx3), (0, .ref (h 46)), (1, .ref (h 40))] → Hw D (wX h cI zM4) A s.heap zH zlocs → W p l e (RM 2) s m args below meth c zH zlocs 0 0 Q (F0 m 18 zls []) := by
    intro zn
    induction zn with
    | zero => intro zx3 zM4 zq zhq; exact absurd zhq (fun h9 => itr_0 h9)
    | succ zn zih =>
        intro zx3 zM4 zq zhq k18_112 zH zlocs zls zhl zhw
        obtain ⟨zy9, zhs, zhq⟩ := itr_s zhq
        replace zhs : LStock_copyFrom_10_18_17 N zx3 zM4 = some zy9 := zhs
        unfold LStock_copyFrom_10_18_17 at zhs
        refine lv_iload_n zhx zhb dX8_copyFrom_18 rfl (lv_at zhl 0 rfl) ?_
        refine lv_aload_n zhx zhb dX8_copyFrom_19 rfl (lv_at zhl 1 rfl) ?_
        refine x_get C zhw inlX8 rfl 46 5 (by decide) kw_7_13 rfl (wX_c46 h cI zM4) rfl dX8_copyFrom_20 ?_
        refine lv_icmp_ge (tgt := 112) zhx zhb dX8_copyFrom_23 (by decide) (fun zc9 => ?_) (fun zc9 => ?_)
        · replace zhs := br_T zhs zc9
          cases zhs
          exact k18_112 zM4 (itk_q zhq) zH zlocs zls (lv_sub zhl [] rfl) zhw
        · replace zhs := br_F zhs zc9
          refine lv_aload_n zhx zhb dX8_copyFrom_26 rfl (lv_at zhl 1 rfl) ?_
          refine x_get C zhw inlX8 rfl 46 0 (by decide) kw_5_2 rfl (wX_c46 h cI zM4) rfl dX8_copyFrom_27 ?_
          refine lv_iload_n zhx zhb dX8_copyFrom_30 rfl (lv_at zhl 0 rfl) ?_
          refine lv_aload_n zhx zhb dX8_copyFrom_31 rfl (lv_at zhl 2 rfl) ?_
          refine x_get C zhw inlX8 rfl 40 0 (by decide) kw_5_2 rfl (wX_c40 h cI zM4) rfl dX8_copyFrom_32 ?_
          refine lv_iload_n zhx zhb dX8_copyFrom_35 rfl (lv_at zhl 0 rfl) ?_
          refine x_cSNI (As := [.ref (h 41), .int zx3]) (rest := [.int zx3, .ref (h 47)]) C zhw zhl (c_at l D cI (wX h cI zM4) 41 10 (h 41) (zM4 41) (wX_c41 h cI zM4) (by decide) zx3) (by decide) (by decide) (List.mem_of_getElem? (i := 17) rfl) kw_7_7 kw_1_2 kw_7_8 md_X11_at rfl rfl (Nat.le_of_ble_eq_true rfl) dX8_copyFrom_36 (fun zH zlocs zhw hn9 => ?_)
          refine x_cSNV (As := [.ref (h 47), .int zx3, .int (atf 10 (zM4 41) zx3)]) (rest := []) C zhw zhl (c_put l D cI (wX h cI) zM4 47 10 (h 47) (wX_c47 h cI zM4) (fun j v => wX_a47 h cI zM4 j v) (by decide) zx3 (atf 10 (zM4 41) zx3)) (by decide) (by decide) (List.mem_of_getElem? (i := 10) rfl) kw_7_0 kw_1_2 kw_7_1 md_X11_put rfl rfl (Nat.le_of_ble_eq_true rfl) dX8_copyFrom_39 (fun zH zlocs zhw => ?_)
          obtain ⟨zM11, ze9, zhs⟩ := ltM_e zhs
          rw [← ze9] at zhw; clear ze9
          refine lv_aload_n zhx zhb dX8_copyFrom_42 rfl (lv_at zhl 1 rfl) ?_
          refine x_get C zhw inlX8 rfl 46 1 (by decide) kw_5_3 rfl (wX_c46 h cI zM11) rfl dX8_copyFrom_43 ?_
          refine lv_iload_n zhx zhb dX8_copyFrom_46 rfl (lv_at zhl 0 rfl) ?_
          refine lv_aload_n zhx zhb dX8_copyFrom_47 rfl (lv_at zhl 2 rfl) ?_
          refine x_get C zhw inlX8 rfl 40 1 (by decide) kw_5_3 rfl (wX_c40 h cI zM11) rfl dX8_copyFrom_48 ?_
          refine lv_iload_n zhx zhb dX8_copyFrom_51 rfl (lv_at zhl 0 rfl) ?_
          refine x_cSNI (As := [.ref (h 42), .int zx3]) (rest := [.int zx3, .ref (h 48)]) C zhw zhl (c_at l D cI (wX h cI zM11) 42 10 (h 42) (zM11 42) (wX_c42 h cI zM11) (by decide) zx3) (by decide) (by decide) (List.mem_of_getElem? (i := 17) rfl) kw_7_7 kw_1_2 kw_7_8 md_X11_at rfl rfl (Nat.le_of_ble_eq_true rfl) dX8_copyFrom_52 (fun zH zlocs zhw hn9 => ?_)
          refine x_cSNV (As := [.ref (h 48), .int zx3, .int (atf 10 (zM11 42) zx3)]) (rest := []) C zhw zhl (c_put l D cI (wX h cI) zM11 48 10 (h 48) (wX_c48 h cI zM11) (fun j v => wX_a48 h cI zM11 j v) (by decide) zx3 (atf 10 (zM11 42) zx3)) (by decide) (by decide) (List.mem_of_getElem? (i := 10) rfl) kw_7_0 kw_1_2 kw_7_1 md_X11_put rfl rfl (Nat.le_of_ble_eq_true rfl) dX8_copyFrom_55 (fun zH zlocs zhw => ?_)
          obtain ⟨zM12, ze9, zhs⟩ := ltM_e zhs
          rw [← ze9] at zhw; clear ze9
          refine lv_aload_n zhx zhb dX8_copyFrom_58 rfl (lv_at zhl 1 rfl) ?_
          refine x_get C zhw inlX8 rfl 46 2 (by decide) kw_5_4 rfl (wX_c46 h cI zM12) rfl dX8_copyFrom_59 ?_
          refine lv_iload_n zhx zhb dX8_copyFrom_62 rfl (lv_at zhl 0 rfl) ?_
          refine lv_aload_n zhx zhb dX8_copyFrom_63 rfl (lv_at zhl 2 rfl) ?_
          refine x_get C zhw inlX8 rfl 40 2 (by decide) kw_5_4 rfl (wX_c40 h cI zM12) rfl dX8_copyFrom_64 ?_
          refine lv_iload_n zhx zhb dX8_copyFrom_67 rfl (lv_at zhl 0 rfl) ?_
          refine x_cSNI (As := [.ref (h 43), .int zx3]) (rest := [.int zx3, .ref (h 49)]) C zhw zhl (c_at l D cI (wX h cI zM12) 43 10 (h 43) (zM12 43) (wX_c43 h cI zM12) (by decide) zx3) (by decide) (by decide) (List.mem_of_getElem? (i := 17) rfl) kw_7_7 kw_1_2 kw_7_8 md_X11_at rfl rfl (Nat.le_of_ble_eq_true rfl) dX8_copyFrom_68 (fun zH zlocs zhw hn9 => ?_)
          refine x_cSNV (As := [.ref (h 49), .int zx3, .int (atf 10 (zM12 43) zx3)]) (rest := []) C zhw zhl (c_put l D cI (wX h cI) zM12 49 10 (h 49) (wX_c49 h cI zM12) (fun j v => wX_a49 h cI zM12 j v) (by decide) zx3 (atf 10 (zM12 43) zx3)) (by decide) (by decide) (List.mem_of_getElem? (i := 10) rfl) kw_7_0 kw_1_2 kw_7_1 md_X11_put rfl rfl (Nat.le_of_ble_eq_true rfl) dX8_copyFrom_71 (fun zH zlocs zhw => ?_)
          obtain ⟨zM13, ze9, zhs⟩ := ltM_e zhs
          rw [← ze9] at zhw; clear ze9
          refine lv_aload_n zhx zhb dX8_copyFrom_74 rfl (lv_at zhl 1 rfl) ?_
          refine x_get C zhw inlX8 rfl 46 3 (by decide) kw_5_5 rfl (wX_c46 h cI zM13) rfl dX8_copyFrom_75 ?_
          refine lv_iload_n zhx zhb dX8_copyFrom_78 rfl (lv_at zhl 0 rfl) ?_
          refine lv_aload_n zhx zhb dX8_copyFrom_79 rfl (lv_at zhl 2 rfl) ?_
          refine x_get C zhw inlX8 rfl 40 3 (by decide) kw_5_5 rfl (wX_c40 h cI zM13) rfl dX8_copyFrom_80 ?_
          refine lv_iload_n zhx zhb dX8_copyFrom_83 rfl (lv_at zhl 0 rfl) ?_
          refine x_cSNI (As := [.ref (h 44), .int zx3]) (rest := [.int zx3, .ref (h 50)]) C zhw zhl (c_at l D cI (wX h cI zM13) 44 10 (h 44) (zM13 44) (wX_c44 h cI zM13) (by decide) zx3) (by decide) (by decide) (List.mem_of_getElem? (i := 17) rfl) kw_7_7 kw_1_2 kw_7_8 md_X11_at rfl rfl (Nat.le_of_ble_eq_true rfl) dX8_copyFrom_84 (fun zH zlocs zhw hn9 => ?_)
          refine x_cSNV (As := [.ref (h 50), .int zx3, .int (atf 10 (zM13 44) zx3)]) (rest := []) C zhw zhl (c_put l D cI (wX h cI) zM13 50 10 (h 50) (wX_c50 h cI zM13) (fun j v => wX_a50 h cI zM13 j v) (by decide) zx3 (atf 10 (zM13 44) zx3)) (by decide) (by decide) (List.mem_of_getElem? (i := 10) rfl) kw_7_0 kw_1_2 kw_7_1 md_X11_put rfl rfl (Nat.le_of_ble_eq_true rfl) dX8_copyFrom_87 (fun zH zlocs zhw => ?_)
          obtain ⟨zM14, ze9, zhs⟩ := ltM_e zhs
          rw [← ze9] at zhw; clear ze9
          refine lv_aload_n zhx zhb dX8_copyFrom_90 rfl (lv_at zhl 1 rfl) ?_
          refine x_get C zhw inlX8 rfl 46 4 (by decide) kw_5_6 rfl (wX_c46 h cI zM14) rfl dX8_copyFrom_91 ?_
          refine lv_iload_n zhx zhb dX8_copyFrom_94 rfl (lv_at zhl 0 rfl) ?_
          refine lv_aload_n zhx zhb dX8_copyFrom_95 rfl (lv_at zhl 2 rfl) ?_
          refine x_get C zhw inlX8 rfl 40 4 (by decide) kw_5_6 rfl (wX_c40 h cI zM14) rfl dX8_copyFrom_96 ?_
          refine lv_iload_n zhx zhb dX8_copyFrom_99 rfl (lv_at zhl 0 rfl) ?_
          refine x_cSNI (As := [.ref (h 45), .int zx3]) (rest := [.int zx3, .ref (h 51)]) C zhw zhl (c_at l D cI (wX h cI zM14) 45 10 (h 45) (zM14 45) (wX_c45 h cI zM14) (by decide) zx3) (by decide) (by decide) (List.mem_of_getElem? (i := 17) rfl) kw_7_7 kw_1_2 kw_7_8 md_X11_at rfl rfl (Nat.le_of_ble_eq_true rfl) dX8_copyFrom_100 (fun zH zlocs zhw hn9 => ?_)
          refine x_cSNV (As := [.ref (h 51), .int zx3, .int (atf 10 (zM14 45) zx3)]) (rest := []) C zhw zhl (c_put l D cI (wX h cI) zM14 51 10 (h 51) (wX_c51 h cI zM14) (fun j v => wX_a51 h cI zM14 j v) (by decide) zx3 (atf 10 (zM14 45) zx3)) (by decide) (by decide) (List.mem_of_getElem? (i := 10) rfl) kw_7_0 kw_1_2 kw_7_1 md_X11_put rfl rfl (Nat.le_of_ble_eq_true rfl) dX8_copyFrom_103 (fun zH zlocs zhw => ?_)
          obtain ⟨zM15, ze9, zhs⟩ := ltM_e zhs
          rw [← ze9] at zhw; clear ze9
          obtain ⟨zv16, ze9, zhs⟩ := ltI_e zhs
          refine lv_iinc (v := zv16) (lv' := [(2, .int zv16), (0, .ref (h 46)), (1, .ref (h 40))]) zhx zhb dX8_copyFrom_106 zhl (k := 0) rfl (by rw [ze9]; rfl) (by decide) rfl (fun zls zhl => ?_)
          clear ze9
          refine lv_goto (tgt := 18) zhx zhb dX8_copyFrom_109 (by decide) ?_
          cases zhs
          exact zih zv16 zM15 zq (itk_l zhq) k18_112 zH zlocs zls zhl zhw
  refine hloop17 N 0 zM2 zq17 zhq17 (fun zM18 zhqe zH zlocs zls zhl zhw => ?_) zH zlocs zls zhl zhw
  · subst zhqe
    cases zhs
    exact zhret _ _ _ _ dX8_copyFrom_112 zhw

-- OffFirst.keep in (0, ())
def sOff_keep (N : Nat) (M : Mm) : Option (Int32 × Mm) :=
  (if (M 0 6) < 2 then (if (M 0 6) = 0 then (sStock_copyFrom_10 N M).bind fun zM3 =>
  ltM (mset zM3 0 6 ((zM3 0 6) + 1)) fun zM4 =>
  some ((zM4 0 6), zM4)
  else (sStock_copyFrom_20 N M).bind fun zM1 =>
  ltM (mset zM1 0 6 ((zM1 0 6) + 1)) fun zM2 =>
  some ((zM2 0 6), zM2))
  else some ((-3), M))
set_option maxHeartbeats 4000000 in
set_option maxRecDepth 100000 in
theorem cOff_keep (l : Launch) (D : va_G) (cI : ClassId) (h : Nat → Nat) (N : Nat) (M : Mm) (r : Int32) (M' : Mm) (zhs : sOff_keep N M = some (r, M')) : CtI l yX11_keep cX11_keep 1 (some .int) 3 D cI (wX h cI M) (wX h cI M') [.ref (h 0)] r := by
  unfold sOff_keep at zhs
  refine CtI_of (by decide +kernel) (Nat.le_of_ble_eq_true rfl) ⟨_, rfl⟩ ?_
  intro p e s m args below meth c A Q zls zH zlocs C zhw zhl zhret
  have zhx := C.1
  have zhb := C.2.1
  have zhown := C.2.2.2.2.1
  have zhtB := C.2.2.2.2.2.2.1
  have zhl : lv_has zls 1 [(0, .ref (h 0))] := zhl
  refine lv_aload_n zhx zhb dX11_keep_0 rfl (lv_at zhl 0 rfl) ?_
  refine x_get C zhw inlX11 rfl 0 6 (by decide) kw_17_2 rfl (wX_c0 h cI M) rfl dX11_keep_1 ?_
  refine lv_iconst (v := 2) zhx zhb dX11_keep_4 (by decide) ?_
  refine lv_icmp_lt (tgt := 11) zhx zhb dX11_keep_5 (by decide) (fun zc9 => ?_) (fun zc9 => ?_)
  · replace zhs := br_T zhs zc9
    refine lv_aload_n zhx zhb dX11_keep_11 rfl (lv_at zhl 0 rfl) ?_
    refine x_get C zhw inlX11 rfl 0 6 (by decide) kw_17_2 rfl (wX_c0 h cI M) rfl dX11_keep_12 ?_
    refine lv_if_ne (tgt := 25) zhx zhb dX11_keep_15 (by decide) (fun zc9 => ?_) (fun zc9 => ?_)
    · replace zhs := br_F zhs zc9
      refine lv_aload_n zhx zhb dX11_keep_25 rfl (lv_at zhl 0 rfl) ?_
      refine x_get C zhw inlX11 rfl 0 5 (by decide) kw_2_3 rfl (wX_c0 h cI M) rfl dX11_keep_26 ?_
      refine lv_aload_n zhx zhb dX11_keep_29 rfl (lv_at zhl 0 rfl) ?_
      refine x_get C zhw inlX11 rfl 0 3 (by decide) kw_2_1 rfl (wX_c0 h cI M) rfl dX11_keep_30 ?_
      obtain ⟨zM1, zhp, zhs⟩ := bnd_e zhs
      refine x_cVV (As := [.ref (h 40)]) (rest := []) C zhw zhl (cStock_copyFrom_20 l D cI h N M zM1 zhp) (by decide) (by decide) kw_44_19 kw_44_20 kw_44_21 kw_2_0 kw_44_22 md_X8_copyFrom rfl 52 (wX_c52 h cI M) rfl rfl rfl rfl (Nat.le_of_ble_eq_true rfl) dX11_keep_33 (fun zH zlocs zhw => ?_)
      refine lv_aload_n zhx zhb dX11_keep_36 rfl (lv_at zhl 0 rfl) ?_
      refine lv_dup zhx zhb dX11_keep_37 rfl ?_
      refine x_get C zhw inlX11 rfl 0 6 (by decide) kw_17_2 rfl (wX_c0 h cI zM1) rfl dX11_keep_38 ?_
      refine lv_iconst (v := 1) zhx zhb dX11_keep_41 (by decide) ?_
      refine lv_iadd zhx zhb dX11_keep_42 ?_
      refine x_put C zhw inlX11 rfl tyX11_ok nmX11 0 6 (by decide) kw_17_2 rfl rfl rfl (wX_c0 h cI zM1) (Nat.le_of_ble_eq_true rfl) (wX_s0_6 h cI zM1 _) dX11_keep_43 (fun zH zlocs zhw => ?_)
      obtain ⟨zM2, ze9, zhs⟩ := ltM_e zhs
      rw [← ze9] at zhw; clear ze9
      refine lv_aload_n zhx zhb dX11_keep_46 rfl (lv_at zhl 0 rfl) ?_
      refine x_get C zhw inlX11 rfl 0 6 (by decide) kw_17_2 rfl (wX_c0 h cI zM2) rfl dX11_keep_47 ?_
      cases zhs
      exact zhret _ _ _ _ dX11_keep_50 (by rfl) zhw
    · replace zhs := br_T zhs zc9
      refine lv_aload_n zhx zhb dX11_keep_18 rfl (lv_at zhl 0 rfl) ?_
      refine x_get C zhw inlX11 rfl 0 4 (by decide) kw_2_2 rfl (wX_c0 h cI M) rfl dX11_keep_19 ?_
      refine lv_goto (tgt := 29) zhx zhb dX11_keep_22 (by decide) ?_
      refine lv_aload_n zhx zhb dX11_keep_29 rfl (lv_at zhl 0 rfl) ?_
      refine x_get C zhw inlX11 rfl 0 3 (by decide) kw_2_1 rfl (wX_c0 h cI M) rfl dX11_keep_30 ?_
      obtain ⟨zM3, zhp, zhs⟩ := bnd_e zhs
      refine x_cVV (As := [.ref (h 40)]) (rest := []) C zhw zhl (cStock_copyFrom_10 l D cI h N M zM3 zhp) (by decide) (by decide) kw_44_19 kw_44_20 kw_44_21 kw_2_0 kw_44_22 md_X8_copyFrom rfl 46 (wX_c46 h cI M) rfl rfl rfl rfl (Nat.le_of_ble_eq_true rfl) dX11_keep_33 (fun zH zlocs zhw => ?_)
      refine lv_aload_n zhx zhb dX11_keep_36 rfl (lv_at zhl 0 rfl) ?_
      refine lv_dup zhx zhb dX11_keep_37 rfl ?_
      refine x_get C zhw inlX11 rfl 0 6 (by decide) kw_17_2 rfl (wX_c0 h cI zM3) rfl dX11_keep_38 ?_
      refine lv_iconst (v := 1) zhx zhb dX11_keep_41 (by decide) ?_
      refine lv_iadd zhx zhb dX11_keep_42 ?_
      refine x_put C zhw inlX11 rfl tyX11_ok nmX11 0 6 (by decide) kw_17_2 rfl rfl rfl (wX_c0 h cI zM3) (Nat.le_of_ble_eq_true rfl) (wX_s0_6 h cI zM3 _) dX11_keep_43 (fun zH zlocs zhw => ?_)
      obtain ⟨zM4, ze9, zhs⟩ := ltM_e zhs
      rw [← ze9] at zhw; clear ze9
      refine lv_aload_n zhx zhb dX11_keep_46 rfl (lv_at zhl 0 rfl) ?_
      refine x_get C zhw inlX11 rfl 0 6 (by decide) kw_17_2 rfl (wX_c0 h cI zM4) rfl dX11_keep_47 ?_
      cases zhs
      exact zhret _ _ _ _ dX11_keep_50 (by rfl) zhw
  · replace zhs := br_F zhs zc9
    refine lv_bipush (v := (-3)) zhx zhb dX11_keep_8 (by decide) ?_
    cases zhs
    exact zhret _ _ _ _ dX11_keep_10 (by rfl) zhw

-- OffFirst$Stock.copyFrom in (40, (52,))
def LStock_copyFrom_02_18_17 (N : Nat) (zx3 : Int32) (zM4 : Mm) : Option ((Int32 × Mm) ⊕ ((Mm))) :=
  (if (zM4 40 5) ≤ zx3 then some (.inr zM4)
  else ltM (putf 10 zM4 41 zx3 (atf 10 (zM4 53) zx3)) fun zM11 =>
  ltM (putf 10 zM11 42 zx3 (atf 10 (zM11 54) zx3)) fun zM12 =>
  ltM (putf 10 zM12 43 zx3 (atf 10 (zM12 55) zx3)) fun zM13 =>
  ltM (putf 10 zM13 44 zx3 (atf 10 (zM13 56) zx3)) fun zM14 =>
  ltM (putf 10 zM14 45 zx3 (atf 10 (zM14 57) zx3)) fun zM15 =>
  ltI (zx3 + 1) fun zv16 =>
  some (.inl (zv16, zM15)))
def sStock_copyFrom_02 (N : Nat) (M : Mm) : Option Mm :=
  ltM (mset M 40 5 (M 52 5)) fun zM1 =>
  ltM (mset zM1 40 6 (zM1 52 6)) fun zM2 =>
  (itr (fun z : Int32 × Mm => LStock_copyFrom_02_18_17 N z.1 z.2) N (0, zM2)).bind fun zM18 =>
  some zM18
set_option maxHeartbeats 4000000 in
set_option maxRecDepth 100000 in
theorem cStock_copyFrom_02 (l : Launch) (D : va_G) (cI : ClassId) (h : Nat → Nat) (N : Nat) (M : Mm) (M' : Mm) (zhs : sStock_copyFrom_02 N M = some M') : CtV l yX8_copyFrom cX8_copyFrom 3 2 D cI (wX h cI M) (wX h cI M') [.ref (h 40), .ref (h 52)] := by
  unfold sStock_copyFrom_02 at zhs
  refine CtV_of (by decide +kernel) (Nat.le_of_ble_eq_true rfl) ?_
  intro p e s m args below meth c A Q zls zH zlocs C zhw zhl zhret
  have zhx := C.1
  have zhb := C.2.1
  have zhown := C.2.2.2.2.1
  have zhtB := C.2.2.2.2.2.2.1
  have zhl : lv_has zls 3 [(0, .ref (h 40)), (1, .ref (h 52))] := zhl
  refine lv_aload_n zhx zhb dX8_copyFrom_0 rfl (lv_at zhl 0 rfl) ?_
  refine lv_aload_n zhx zhb dX8_copyFrom_1 rfl (lv_at zhl 1 rfl) ?_
  refine x_get C zhw inlX8 rfl 52 5 (by decide) kw_7_13 rfl (wX_c52 h cI M) rfl dX8_copyFrom_2 ?_
  refine x_put C zhw inlX8 rfl tyX8_ok nmX8 40 5 (by decide) kw_7_13 rfl rfl rfl (wX_c40 h cI M) (Nat.le_of_ble_eq_true rfl) (wX_s40_5 h cI M _) dX8_copyFrom_5 (fun zH zlocs zhw => ?_)
  obtain ⟨zM1, ze9, zhs⟩ := ltM_e zhs
  rw [← ze9] at zhw; clear ze9
  refine lv_aload_n zhx zhb dX8_copyFrom_8 rfl (lv_at zhl 0 rfl) ?_
  refine lv_aload_n zhx zhb dX8_copyFrom_9 rfl (lv_at zhl 1 rfl) ?_
  refine x_get C zhw inlX8 rfl 52 6 (by decide) kw_7_14 rfl (wX_c52 h cI zM1) rfl dX8_copyFrom_10 ?_
  refine x_put C zhw inlX8 rfl tyX8_ok nmX8 40 6 (by decide) kw_7_14 rfl rfl rfl (wX_c40 h cI zM1) (Nat.le_of_ble_eq_true rfl) (wX_s40_6 h cI zM1 _) dX8_copyFrom_13 (fun zH zlocs zhw => ?_)
  obtain ⟨zM2, ze9, zhs⟩ := ltM_e zhs
  rw [← ze9] at zhw; clear ze9
  refine lv_iconst (v := 0) zhx zhb dX8_copyFrom_16 (by decide) ?_
  refine lv_istore_n (lv' := [(2, .int 0), (0, .ref (h 40)), (1, .ref (h 52))]) zhx zhb dX8_copyFrom_17 rfl zhl (by decide) rfl (fun zls zhl => ?_)
  obtain ⟨zq17, zhq17, zhs⟩ := bnd_e zhs
  have hloop17 : ∀ (zn : Nat) (zx3 : Int32) (zM4 : Mm) (zq : (Mm)), itr (fun z : Int32 × Mm => LStock_copyFrom_02_18_17 N z.1 z.2) zn (zx3, zM4) = some zq → (∀ (zy1 : Mm), zy1 = zq → ∀ (zH : Heap) (zlocs : List Loc) (zls : Array Slot), lv_has zls 3 [] → Hw D (wX h cI zy1) A s.heap zH zlocs → W p l e (RM 2) s m args below meth c zH zlocs 0 0 Q (F0 m 112 zls [])) → ∀ (zH : Heap) (zlocs : List Loc) (zls : Array Slot), lv_has zls 3 [(2, .int zx3), (0, .ref (h 40)), (1, .ref (h 52))] → Hw D (wX h cI zM4) A s.heap zH zlocs → W p l e (RM 2) s m args below meth c zH zlocs 0 0 Q (F0 m 18 zls []) := by
    intro zn
    induction zn with
    | zero => intro zx3 zM4 zq zhq; exact absurd zhq (fun h9 => itr_0 h9)
    | succ zn zih =>
        intro zx3 zM4 zq zhq k18_112 zH zlocs zls zhl zhw
        obtain ⟨zy9, zhs, zhq⟩ := itr_s zhq
        replace zhs : LStock_copyFrom_02_18_17 N zx3 zM4 = some zy9 := zhs
        unfold LStock_copyFrom_02_18_17 at zhs
        refine lv_iload_n zhx zhb dX8_copyFrom_18 rfl (lv_at zhl 0 rfl) ?_
        refine lv_aload_n zhx zhb dX8_copyFrom_19 rfl (lv_at zhl 1 rfl) ?_
        refine x_get C zhw inlX8 rfl 40 5 (by decide) kw_7_13 rfl (wX_c40 h cI zM4) rfl dX8_copyFrom_20 ?_
        refine lv_icmp_ge (tgt := 112) zhx zhb dX8_copyFrom_23 (by decide) (fun zc9 => ?_) (fun zc9 => ?_)
        · replace zhs := br_T zhs zc9
          cases zhs
          exact k18_112 zM4 (itk_q zhq) zH zlocs zls (lv_sub zhl [] rfl) zhw
        · replace zhs := br_F zhs zc9
          refine lv_aload_n zhx zhb dX8_copyFrom_26 rfl (lv_at zhl 1 rfl) ?_
          refine x_get C zhw inlX8 rfl 40 0 (by decide) kw_5_2 rfl (wX_c40 h cI zM4) rfl dX8_copyFrom_27 ?_
          refine lv_iload_n zhx zhb dX8_copyFrom_30 rfl (lv_at zhl 0 rfl) ?_
          refine lv_aload_n zhx zhb dX8_copyFrom_31 rfl (lv_at zhl 2 rfl) ?_
          refine x_get C zhw inlX8 rfl 52 0 (by decide) kw_5_2 rfl (wX_c52 h cI zM4) rfl dX8_copyFrom_32 ?_
          refine lv_iload_n zhx zhb dX8_copyFrom_35 rfl (lv_at zhl 0 rfl) ?_
          refine x_cSNI (As := [.ref (h 53), .int zx3]) (rest := [.int zx3, .ref (h 41)]) C zhw zhl (c_at l D cI (wX h cI zM4) 53 10 (h 53) (zM4 53) (wX_c53 h cI zM4) (by decide) zx3) (by decide) (by decide) (List.mem_of_getElem? (i := 17) rfl) kw_7_7 kw_1_2 kw_7_8 md_X11_at rfl rfl (Nat.le_of_ble_eq_true rfl) dX8_copyFrom_36 (fun zH zlocs zhw hn9 => ?_)
          refine x_cSNV (As := [.ref (h 41), .int zx3, .int (atf 10 (zM4 53) zx3)]) (rest := []) C zhw zhl (c_put l D cI (wX h cI) zM4 41 10 (h 41) (wX_c41 h cI zM4) (fun j v => wX_a41 h cI zM4 j v) (by decide) zx3 (atf 10 (zM4 53) zx3)) (by decide) (by decide) (List.mem_of_getElem? (i := 10) rfl) kw_7_0 kw_1_2 kw_7_1 md_X11_put rfl rfl (Nat.le_of_ble_eq_true rfl) dX8_copyFrom_39 (fun zH zlocs zhw => ?_)
          obtain ⟨zM11, ze9, zhs⟩ := ltM_e zhs
          rw [← ze9] at zhw; clear ze9
          refine lv_aload_n zhx zhb dX8_copyFrom_42 rfl (lv_at zhl 1 rfl) ?_
          refine x_get C zhw inlX8 rfl 40 1 (by decide) kw_5_3 rfl (wX_c40 h cI zM11) rfl dX8_copyFrom_43 ?_
          refine lv_iload_n zhx zhb dX8_copyFrom_46 rfl (lv_at zhl 0 rfl) ?_
          refine lv_aload_n zhx zhb dX8_copyFrom_47 rfl (lv_at zhl 2 rfl) ?_
          refine x_get C zhw inlX8 rfl 52 1 (by decide) kw_5_3 rfl (wX_c52 h cI zM11) rfl dX8_copyFrom_48 ?_
          refine lv_iload_n zhx zhb dX8_copyFrom_51 rfl (lv_at zhl 0 rfl) ?_
          refine x_cSNI (As := [.ref (h 54), .int zx3]) (rest := [.int zx3, .ref (h 42)]) C zhw zhl (c_at l D cI (wX h cI zM11) 54 10 (h 54) (zM11 54) (wX_c54 h cI zM11) (by decide) zx3) (by decide) (by decide) (List.mem_of_getElem? (i := 17) rfl) kw_7_7 kw_1_2 kw_7_8 md_X11_at rfl rfl (Nat.le_of_ble_eq_true rfl) dX8_copyFrom_52 (fun zH zlocs zhw hn9 => ?_)
          refine x_cSNV (As := [.ref (h 42), .int zx3, .int (atf 10 (zM11 54) zx3)]) (rest := []) C zhw zhl (c_put l D cI (wX h cI) zM11 42 10 (h 42) (wX_c42 h cI zM11) (fun j v => wX_a42 h cI zM11 j v) (by decide) zx3 (atf 10 (zM11 54) zx3)) (by decide) (by decide) (List.mem_of_getElem? (i := 10) rfl) kw_7_0 kw_1_2 kw_7_1 md_X11_put rfl rfl (Nat.le_of_ble_eq_true rfl) dX8_copyFrom_55 (fun zH zlocs zhw => ?_)
          obtain ⟨zM12, ze9, zhs⟩ := ltM_e zhs
          rw [← ze9] at zhw; clear ze9
          refine lv_aload_n zhx zhb dX8_copyFrom_58 rfl (lv_at zhl 1 rfl) ?_
          refine x_get C zhw inlX8 rfl 40 2 (by decide) kw_5_4 rfl (wX_c40 h cI zM12) rfl dX8_copyFrom_59 ?_
          refine lv_iload_n zhx zhb dX8_copyFrom_62 rfl (lv_at zhl 0 rfl) ?_
          refine lv_aload_n zhx zhb dX8_copyFrom_63 rfl (lv_at zhl 2 rfl) ?_
          refine x_get C zhw inlX8 rfl 52 2 (by decide) kw_5_4 rfl (wX_c52 h cI zM12) rfl dX8_copyFrom_64 ?_
          refine lv_iload_n zhx zhb dX8_copyFrom_67 rfl (lv_at zhl 0 rfl) ?_
          refine x_cSNI (As := [.ref (h 55), .int zx3]) (rest := [.int zx3, .ref (h 43)]) C zhw zhl (c_at l D cI (wX h cI zM12) 55 10 (h 55) (zM12 55) (wX_c55 h cI zM12) (by decide) zx3) (by decide) (by decide) (List.mem_of_getElem? (i := 17) rfl) kw_7_7 kw_1_2 kw_7_8 md_X11_at rfl rfl (Nat.le_of_ble_eq_true rfl) dX8_copyFrom_68 (fun zH zlocs zhw hn9 => ?_)
          refine x_cSNV (As := [.ref (h 43), .int zx3, .int (atf 10 (zM12 55) zx3)]) (rest := []) C zhw zhl (c_put l D cI (wX h cI) zM12 43 10 (h 43) (wX_c43 h cI zM12) (fun j v => wX_a43 h cI zM12 j v) (by decide) zx3 (atf 10 (zM12 55) zx3)) (by decide) (by decide) (List.mem_of_getElem? (i := 10) rfl) kw_7_0 kw_1_2 kw_7_1 md_X11_put rfl rfl (Nat.le_of_ble_eq_true rfl) dX8_copyFrom_71 (fun zH zlocs zhw => ?_)
          obtain ⟨zM13, ze9, zhs⟩ := ltM_e zhs
          rw [← ze9] at zhw; clear ze9
          refine lv_aload_n zhx zhb dX8_copyFrom_74 rfl (lv_at zhl 1 rfl) ?_
          refine x_get C zhw inlX8 rfl 40 3 (by decide) kw_5_5 rfl (wX_c40 h cI zM13) rfl dX8_copyFrom_75 ?_
          refine lv_iload_n zhx zhb dX8_copyFrom_78 rfl (lv_at zhl 0 rfl) ?_
          refine lv_aload_n zhx zhb dX8_copyFrom_79 rfl (lv_at zhl 2 rfl) ?_
          refine x_get C zhw inlX8 rfl 52 3 (by decide) kw_5_5 rfl (wX_c52 h cI zM13) rfl dX8_copyFrom_80 ?_
          refine lv_iload_n zhx zhb dX8_copyFrom_83 rfl (lv_at zhl 0 rfl) ?_
          refine x_cSNI (As := [.ref (h 56), .int zx3]) (rest := [.int zx3, .ref (h 44)]) C zhw zhl (c_at l D cI (wX h cI zM13) 56 10 (h 56) (zM13 56) (wX_c56 h cI zM13) (by decide) zx3) (by decide) (by decide) (List.mem_of_getElem? (i := 17) rfl) kw_7_7 kw_1_2 kw_7_8 md_X11_at rfl rfl (Nat.le_of_ble_eq_true rfl) dX8_copyFrom_84 (fun zH zlocs zhw hn9 => ?_)
          refine x_cSNV (As := [.ref (h 44), .int zx3, .int (atf 10 (zM13 56) zx3)]) (rest := []) C zhw zhl (c_put l D cI (wX h cI) zM13 44 10 (h 44) (wX_c44 h cI zM13) (fun j v => wX_a44 h cI zM13 j v) (by decide) zx3 (atf 10 (zM13 56) zx3)) (by decide) (by decide) (List.mem_of_getElem? (i := 10) rfl) kw_7_0 kw_1_2 kw_7_1 md_X11_put rfl rfl (Nat.le_of_ble_eq_true rfl) dX8_copyFrom_87 (fun zH zlocs zhw => ?_)
          obtain ⟨zM14, ze9, zhs⟩ := ltM_e zhs
          rw [← ze9] at zhw; clear ze9
          refine lv_aload_n zhx zhb dX8_copyFrom_90 rfl (lv_at zhl 1 rfl) ?_
          refine x_get C zhw inlX8 rfl 40 4 (by decide) kw_5_6 rfl (wX_c40 h cI zM14) rfl dX8_copyFrom_91 ?_
          refine lv_iload_n zhx zhb dX8_copyFrom_94 rfl (lv_at zhl 0 rfl) ?_
          refine lv_aload_n zhx zhb dX8_copyFrom_95 rfl (lv_at zhl 2 rfl) ?_
          refine x_get C zhw inlX8 rfl 52 4 (by decide) kw_5_6 rfl (wX_c52 h cI zM14) rfl dX8_copyFrom_96 ?_
          refine lv_iload_n zhx zhb dX8_copyFrom_99 rfl (lv_at zhl 0 rfl) ?_
          refine x_cSNI (As := [.ref (h 57), .int zx3]) (rest := [.int zx3, .ref (h 45)]) C zhw zhl (c_at l D cI (wX h cI zM14) 57 10 (h 57) (zM14 57) (wX_c57 h cI zM14) (by decide) zx3) (by decide) (by decide) (List.mem_of_getElem? (i := 17) rfl) kw_7_7 kw_1_2 kw_7_8 md_X11_at rfl rfl (Nat.le_of_ble_eq_true rfl) dX8_copyFrom_100 (fun zH zlocs zhw hn9 => ?_)
          refine x_cSNV (As := [.ref (h 45), .int zx3, .int (atf 10 (zM14 57) zx3)]) (rest := []) C zhw zhl (c_put l D cI (wX h cI) zM14 45 10 (h 45) (wX_c45 h cI zM14) (fun j v => wX_a45 h cI zM14 j v) (by decide) zx3 (atf 10 (zM14 57) zx3)) (by decide) (by decide) (List.mem_of_getElem? (i := 10) rfl) kw_7_0 kw_1_2 kw_7_1 md_X11_put rfl rfl (Nat.le_of_ble_eq_true rfl) dX8_copyFrom_103 (fun zH zlocs zhw => ?_)
          obtain ⟨zM15, ze9, zhs⟩ := ltM_e zhs
          rw [← ze9] at zhw; clear ze9
          obtain ⟨zv16, ze9, zhs⟩ := ltI_e zhs
          refine lv_iinc (v := zv16) (lv' := [(2, .int zv16), (0, .ref (h 40)), (1, .ref (h 52))]) zhx zhb dX8_copyFrom_106 zhl (k := 0) rfl (by rw [ze9]; rfl) (by decide) rfl (fun zls zhl => ?_)
          clear ze9
          refine lv_goto (tgt := 18) zhx zhb dX8_copyFrom_109 (by decide) ?_
          cases zhs
          exact zih zv16 zM15 zq (itk_l zhq) k18_112 zH zlocs zls zhl zhw
  refine hloop17 N 0 zM2 zq17 zhq17 (fun zM18 zhqe zH zlocs zls zhl zhw => ?_) zH zlocs zls zhl zhw
  · subst zhqe
    cases zhs
    exact zhret _ _ _ _ dX8_copyFrom_112 zhw

