-- OffFirst$Stock.isThere in (40, ())
def sStock_isThere (a1 : Int32) (M : Mm) : Option Int32 :=
  (if a1 < 0 then some 0
  else (if (M 40 5) ≤ a1 then some 0
  else (if (atf 10 (M 44) a1) = 0 then some 1
  else some 0)))
set_option maxHeartbeats 4000000 in
set_option maxRecDepth 100000 in
theorem cStock_isThere (l : Launch) (D : va_G) (cI : ClassId) (h : Nat → Nat) (a1 : Int32) (M : Mm) (r : Int32) (zhs : sStock_isThere a1 M = some r) : CtI l yX8_isThere cX8_isThere 2 (some .boolean) 2 D cI (wX h cI M) (wX h cI M) [.ref (h 40), .int a1] r := by
  unfold sStock_isThere at zhs
  refine CtI_of (by decide +kernel) (Nat.le_of_ble_eq_true rfl) ⟨_, rfl⟩ ?_
  intro p e s m args below meth c A Q zls zH zlocs C zhw zhl zhret
  have zhx := C.1
  have zhb := C.2.1
  have zhown := C.2.2.2.2.1
  have zhtB := C.2.2.2.2.2.2.1
  have zhl : lv_has zls 2 [(0, .ref (h 40)), (1, .int a1)] := zhl
  refine lv_iload_n zhx zhb dX8_isThere_0 rfl (lv_at zhl 1 rfl) ?_
  refine lv_if_lt (tgt := 27) zhx zhb dX8_isThere_1 (by decide) (fun zc9 => ?_) (fun zc9 => ?_)
  · replace zhs := br_T zhs zc9
    refine lv_iconst (v := 0) zhx zhb dX8_isThere_27 (by decide) ?_
    cases zhs
    exact zhret _ _ _ _ dX8_isThere_28 (by rfl) zhw
  · replace zhs := br_F zhs zc9
    refine lv_iload_n zhx zhb dX8_isThere_4 rfl (lv_at zhl 1 rfl) ?_
    refine lv_aload_n zhx zhb dX8_isThere_5 rfl (lv_at zhl 0 rfl) ?_
    refine x_get C zhw inlX8 rfl 40 5 (by decide) kw_7_13 rfl (wX_c40 h cI M) rfl dX8_isThere_6 ?_
    refine lv_icmp_ge (tgt := 27) zhx zhb dX8_isThere_9 (by decide) (fun zc9 => ?_) (fun zc9 => ?_)
    · replace zhs := br_T zhs zc9
      refine lv_iconst (v := 0) zhx zhb dX8_isThere_27 (by decide) ?_
      cases zhs
      exact zhret _ _ _ _ dX8_isThere_28 (by rfl) zhw
    · replace zhs := br_F zhs zc9
      refine lv_aload_n zhx zhb dX8_isThere_12 rfl (lv_at zhl 0 rfl) ?_
      refine x_get C zhw inlX8 rfl 40 3 (by decide) kw_5_5 rfl (wX_c40 h cI M) rfl dX8_isThere_13 ?_
      refine lv_iload_n zhx zhb dX8_isThere_16 rfl (lv_at zhl 1 rfl) ?_
      refine x_cSNI (As := [.ref (h 44), .int a1]) (rest := []) C zhw zhl (c_at l D cI (wX h cI M) 44 10 (h 44) (M 44) (wX_c44 h cI M) (by decide) a1) (by decide) (by decide) (List.mem_of_getElem? (i := 17) rfl) kw_7_7 kw_1_2 kw_7_8 md_X11_at rfl rfl (Nat.le_of_ble_eq_true rfl) dX8_isThere_17 (fun zH zlocs zhw hn9 => ?_)
      refine lv_if_ne (tgt := 27) zhx zhb dX8_isThere_20 (by decide) (fun zc9 => ?_) (fun zc9 => ?_)
      · replace zhs := br_F zhs zc9
        refine lv_iconst (v := 0) zhx zhb dX8_isThere_27 (by decide) ?_
        cases zhs
        exact zhret _ _ _ _ dX8_isThere_28 (by rfl) zhw
      · replace zhs := br_T zhs zc9
        refine lv_iconst (v := 1) zhx zhb dX8_isThere_23 (by decide) ?_
        refine lv_goto (tgt := 28) zhx zhb dX8_isThere_24 (by decide) ?_
        cases zhs
        exact zhret _ _ _ _ dX8_isThere_28 (by rfl) zhw

-- java/lang/Integer.bitCount in (None, ())
def sJint_bitCount (a1 : Int32) : Option Int32 :=
  ltI (a1 - ((ushI a1 1) &&& 1431655765)) fun zv1 =>
  ltI ((zv1 &&& 858993459) + ((ushI zv1 2) &&& 858993459)) fun zv2 =>
  ltI ((zv2 + (ushI zv2 4)) &&& 252645135) fun zv3 =>
  ltI (zv3 + (ushI zv3 8)) fun zv4 =>
  ltI (zv4 + (ushI zv4 16)) fun zv5 =>
  some (zv5 &&& 63)
set_option maxHeartbeats 4000000 in
set_option maxRecDepth 100000 in
theorem cJint_bitCount (l : Launch) (D : va_G) (cI : ClassId) (h : Nat → Nat) (a1 : Int32) (M : Mm) (r : Int32) (zhs : sJint_bitCount a1 = some r) : CtI l yJ6_bitCount_0f7a4 cJ6_bitCount_0f7a4 1 (some .int) 1 D cI (wX h cI M) (wX h cI M) [.int a1] r := by
  unfold sJint_bitCount at zhs
  refine CtI_of (by decide +kernel) (Nat.le_of_ble_eq_true rfl) ⟨_, rfl⟩ ?_
  intro p e s m args below meth c A Q zls zH zlocs C zhw zhl zhret
  have zhx := C.1
  have zhb := C.2.1
  have zhown := C.2.2.2.2.1
  have zhtB := C.2.2.2.2.2.2.1
  have zhl : lv_has zls 1 [(0, .int a1)] := zhl
  refine lv_iload_n zhx zhb dJ6_bitCount_0f7a4_0 rfl (lv_at zhl 0 rfl) ?_
  refine lv_iload_n zhx zhb dJ6_bitCount_0f7a4_1 rfl (lv_at zhl 0 rfl) ?_
  refine lv_iconst (v := 1) zhx zhb dJ6_bitCount_0f7a4_2 (by decide) ?_
  refine lv_iushr zhx zhb dJ6_bitCount_0f7a4_3 rfl ?_
  refine lv_ldcw zhx zhb zhown (zhtB _ kw_22_22) dJ6_bitCount_0f7a4_4 ?_
  refine lv_iand zhx zhb dJ6_bitCount_0f7a4_7 ?_
  refine lv_isub zhx zhb dJ6_bitCount_0f7a4_8 ?_
  obtain ⟨zv1, ze9, zhs⟩ := ltI_e zhs
  refine lv_topi (fun zy9 ze8 => ?_)
  obtain rfl : zv1 = zy9 := ze9.trans ze8.symm
  clear ze9 ze8
  refine lv_istore_n (lv' := [(0, .int zv1)]) zhx zhb dJ6_bitCount_0f7a4_9 rfl zhl (by decide) rfl (fun zls zhl => ?_)
  refine lv_iload_n zhx zhb dJ6_bitCount_0f7a4_10 rfl (lv_at zhl 0 rfl) ?_
  refine lv_ldcw zhx zhb zhown (zhtB _ kw_22_23) dJ6_bitCount_0f7a4_11 ?_
  refine lv_iand zhx zhb dJ6_bitCount_0f7a4_14 ?_
  refine lv_iload_n zhx zhb dJ6_bitCount_0f7a4_15 rfl (lv_at zhl 0 rfl) ?_
  refine lv_iconst (v := 2) zhx zhb dJ6_bitCount_0f7a4_16 (by decide) ?_
  refine lv_iushr zhx zhb dJ6_bitCount_0f7a4_17 rfl ?_
  refine lv_ldcw zhx zhb zhown (zhtB _ kw_22_23) dJ6_bitCount_0f7a4_18 ?_
  refine lv_iand zhx zhb dJ6_bitCount_0f7a4_21 ?_
  refine lv_iadd zhx zhb dJ6_bitCount_0f7a4_22 ?_
  obtain ⟨zv2, ze9, zhs⟩ := ltI_e zhs
  refine lv_topi (fun zy9 ze8 => ?_)
  obtain rfl : zv2 = zy9 := ze9.trans ze8.symm
  clear ze9 ze8
  refine lv_istore_n (lv' := [(0, .int zv2)]) zhx zhb dJ6_bitCount_0f7a4_23 rfl zhl (by decide) rfl (fun zls zhl => ?_)
  refine lv_iload_n zhx zhb dJ6_bitCount_0f7a4_24 rfl (lv_at zhl 0 rfl) ?_
  refine lv_iload_n zhx zhb dJ6_bitCount_0f7a4_25 rfl (lv_at zhl 0 rfl) ?_
  refine lv_iconst (v := 4) zhx zhb dJ6_bitCount_0f7a4_26 (by decide) ?_
  refine lv_iushr zhx zhb dJ6_bitCount_0f7a4_27 rfl ?_
  refine lv_iadd zhx zhb dJ6_bitCount_0f7a4_28 ?_
  refine lv_ldcw zhx zhb zhown (zhtB _ kw_23_0) dJ6_bitCount_0f7a4_29 ?_
  refine lv_iand zhx zhb dJ6_bitCount_0f7a4_32 ?_
  obtain ⟨zv3, ze9, zhs⟩ := ltI_e zhs
  refine lv_topi (fun zy9 ze8 => ?_)
  obtain rfl : zv3 = zy9 := ze9.trans ze8.symm
  clear ze9 ze8
  refine lv_istore_n (lv' := [(0, .int zv3)]) zhx zhb dJ6_bitCount_0f7a4_33 rfl zhl (by decide) rfl (fun zls zhl => ?_)
  refine lv_iload_n zhx zhb dJ6_bitCount_0f7a4_34 rfl (lv_at zhl 0 rfl) ?_
  refine lv_iload_n zhx zhb dJ6_bitCount_0f7a4_35 rfl (lv_at zhl 0 rfl) ?_
  refine lv_bipush (v := 8) zhx zhb dJ6_bitCount_0f7a4_36 (by decide) ?_
  refine lv_iushr zhx zhb dJ6_bitCount_0f7a4_38 rfl ?_
  refine lv_iadd zhx zhb dJ6_bitCount_0f7a4_39 ?_
  obtain ⟨zv4, ze9, zhs⟩ := ltI_e zhs
  refine lv_topi (fun zy9 ze8 => ?_)
  obtain rfl : zv4 = zy9 := ze9.trans ze8.symm
  clear ze9 ze8
  refine lv_istore_n (lv' := [(0, .int zv4)]) zhx zhb dJ6_bitCount_0f7a4_40 rfl zhl (by decide) rfl (fun zls zhl => ?_)
  refine lv_iload_n zhx zhb dJ6_bitCount_0f7a4_41 rfl (lv_at zhl 0 rfl) ?_
  refine lv_iload_n zhx zhb dJ6_bitCount_0f7a4_42 rfl (lv_at zhl 0 rfl) ?_
  refine lv_bipush (v := 16) zhx zhb dJ6_bitCount_0f7a4_43 (by decide) ?_
  refine lv_iushr zhx zhb dJ6_bitCount_0f7a4_45 rfl ?_
  refine lv_iadd zhx zhb dJ6_bitCount_0f7a4_46 ?_
  obtain ⟨zv5, ze9, zhs⟩ := ltI_e zhs
  refine lv_topi (fun zy9 ze8 => ?_)
  obtain rfl : zv5 = zy9 := ze9.trans ze8.symm
  clear ze9 ze8
  refine lv_istore_n (lv' := [(0, .int zv5)]) zhx zhb dJ6_bitCount_0f7a4_47 rfl zhl (by decide) rfl (fun zls zhl => ?_)
  refine lv_iload_n zhx zhb dJ6_bitCount_0f7a4_48 rfl (lv_at zhl 0 rfl) ?_
  refine lv_bipush (v := 63) zhx zhb dJ6_bitCount_0f7a4_49 (by decide) ?_
  refine lv_iand zhx zhb dJ6_bitCount_0f7a4_51 ?_
  cases zhs
  exact zhret _ _ _ _ dJ6_bitCount_0f7a4_52 (by rfl) zhw

-- OffFirst$Cells.warmthOver in (23, ())
def LCells_warmthOver_l_17_15 (N : Nat) (a2 : Int32) (a3 : Int32) (M : Mm) (zx3 : Int32) (zx4 : Int32) : Option ((Int32 × Int32) ⊕ ((Int32))) :=
  (if (remI a3 24) ≤ zx4 then some (.inr zx3)
  else (sCells_isOpenedIn_l (a2 + zx4) M).bind fun zv10 =>
  (if zv10 = 0 then ltI (zx4 + 1) fun zv12 =>
  some (.inl (zx3, zv12))
  else ltI (zx3 + 1) fun zv13 =>
  ltI (zx4 + 1) fun zv14 =>
  some (.inl (zv13, zv14))))
def sCells_warmthOver_l (N : Nat) (a1 : Int32) (a2 : Int32) (a3 : Int32) (M : Mm) : Option Int32 :=
  (sJint_bitCount (M 23 4)).bind fun zv1 =>
  ltI ((a3 / 24) * zv1) fun zv2 =>
  (itr (fun z : Int32 × Int32 => LCells_warmthOver_l_17_15 N a2 a3 M z.1 z.2) N (zv2, 0)).bind fun zv16 =>
  some ((a3 * (atf 6 (M 24) a1)) + (zv16 * (atf 6 (M 25) a1)))
set_option maxHeartbeats 4000000 in
set_option maxRecDepth 100000 in
theorem cCells_warmthOver_l (l : Launch) (D : va_G) (cI : ClassId) (h : Nat → Nat) (N : Nat) (a1 : Int32) (a2 : Int32) (a3 : Int32) (M : Mm) (r : Int32) (zhs : sCells_warmthOver_l N a1 a2 a3 M = some r) : CtI l yX0_warmthOver cX0_warmthOver 6 (some .int) 2 D cI (wX h cI M) (wX h cI M) [.ref (h 23), .int a1, .int a2, .int a3] r := by
  unfold sCells_warmthOver_l at zhs
  refine CtI_of (by decide +kernel) (Nat.le_of_ble_eq_true rfl) ⟨_, rfl⟩ ?_
  intro p e s m args below meth c A Q zls zH zlocs C zhw zhl zhret
  have zhx := C.1
  have zhb := C.2.1
  have zhown := C.2.2.2.2.1
  have zhtB := C.2.2.2.2.2.2.1
  have zhl : lv_has zls 6 [(0, .ref (h 23)), (1, .int a1), (2, .int a2), (3, .int a3)] := zhl
  refine lv_iload_n zhx zhb dX0_warmthOver_0 rfl (lv_at zhl 3 rfl) ?_
  refine lv_bipush (v := 24) zhx zhb dX0_warmthOver_1 (by decide) ?_
  refine lv_idiv zhx zhb dX0_warmthOver_3 (by decide) ?_
  refine lv_aload_n zhx zhb dX0_warmthOver_4 rfl (lv_at zhl 0 rfl) ?_
  refine x_get C zhw inlX0 rfl 23 4 (by decide) kw_11_19 rfl (wX_c23 h cI M) rfl dX0_warmthOver_5 ?_
  obtain ⟨zv1, zhp, zhs⟩ := bnd_e zhs
  refine x_cSI (As := [.int (M 23 4)]) (rest := [.int (a3 / 24)]) C zhw zhl (cJint_bitCount l D cI h (M 23 4) M zv1 zhp) (by decide) (by decide) kw_22_18 kw_22_19 kw_22_20 kw_22_21 md_J6_bitCount_0f7a4 rfl rfl (Nat.le_of_ble_eq_true rfl) dX0_warmthOver_8 (fun zH zlocs zhw hn9 => ?_)
  refine lv_imul zhx zhb dX0_warmthOver_11 ?_
  obtain ⟨zv2, ze9, zhs⟩ := ltI_e zhs
  refine lv_topi (fun zy9 ze8 => ?_)
  obtain rfl : zv2 = zy9 := ze9.trans ze8.symm
  clear ze9 ze8
  refine lv_istore (lv' := [(4, .int zv2), (0, .ref (h 23)), (1, .int a1), (2, .int a2), (3, .int a3)]) zhx zhb dX0_warmthOver_12 zhl (by decide) rfl (fun zls zhl => ?_)
  refine lv_iconst (v := 0) zhx zhb dX0_warmthOver_14 (by decide) ?_
  refine lv_istore (lv' := [(5, .int 0), (4, .int zv2), (0, .ref (h 23)), (1, .int a1), (2, .int a2), (3, .int a3)]) zhx zhb dX0_warmthOver_15 zhl (by decide) rfl (fun zls zhl => ?_)
  obtain ⟨zq15, zhq15, zhs⟩ := bnd_e zhs
  have hloop15 : ∀ (zn : Nat) (zx3 : Int32) (zx4 : Int32) (zq : (Int32)), itr (fun z : Int32 × Int32 => LCells_warmthOver_l_17_15 N a2 a3 M z.1 z.2) zn (zx3, zx4) = some zq → (∀ (zy1 : Int32), zy1 = zq → ∀ (zH : Heap) (zlocs : List Loc) (zls : Array Slot), lv_has zls 6 [(4, .int zy1), (0, .ref (h 23)), (1, .int a1), (3, .int a3)] → Hw D (wX h cI M) A s.heap zH zlocs → W p l e (RM 2) s m args below meth c zH zlocs 0 0 Q (F0 m 46 zls [])) → ∀ (zH : Heap) (zlocs : List Loc) (zls : Array Slot), lv_has zls 6 [(5, .int zx4), (4, .int zx3), (0, .ref (h 23)), (1, .int a1), (2, .int a2), (3, .int a3)] → Hw D (wX h cI M) A s.heap zH zlocs → W p l e (RM 2) s m args below meth c zH zlocs 0 0 Q (F0 m 17 zls []) := by
    intro zn
    induction zn with
    | zero => intro zx3 zx4 zq zhq; exact absurd zhq (fun h9 => itr_0 h9)
    | succ zn zih =>
        intro zx3 zx4 zq zhq k17_46 zH zlocs zls zhl zhw
        obtain ⟨zy9, zhs, zhq⟩ := itr_s zhq
        replace zhs : LCells_warmthOver_l_17_15 N a2 a3 M zx3 zx4 = some zy9 := zhs
        unfold LCells_warmthOver_l_17_15 at zhs
        refine lv_iload zhx zhb dX0_warmthOver_17 (lv_at zhl 0 rfl) ?_
        refine lv_iload_n zhx zhb dX0_warmthOver_19 rfl (lv_at zhl 5 rfl) ?_
        refine lv_bipush (v := 24) zhx zhb dX0_warmthOver_20 (by decide) ?_
        refine lv_irem zhx zhb dX0_warmthOver_22 (by decide) ?_
        refine lv_icmp_ge (tgt := 46) zhx zhb dX0_warmthOver_23 (by decide) (fun zc9 => ?_) (fun zc9 => ?_)
        · replace zhs := br_T zhs zc9
          cases zhs
          exact k17_46 zx3 (itk_q zhq) zH zlocs zls (lv_sub zhl [1, 2, 3, 5] rfl) zhw
        · replace zhs := br_F zhs zc9
          refine lv_aload_n zhx zhb dX0_warmthOver_26 rfl (lv_at zhl 2 rfl) ?_
          refine lv_iload_n zhx zhb dX0_warmthOver_27 rfl (lv_at zhl 4 rfl) ?_
          refine lv_iload zhx zhb dX0_warmthOver_28 (lv_at zhl 0 rfl) ?_
          refine lv_iadd zhx zhb dX0_warmthOver_30 ?_
          obtain ⟨zv10, zhp, zhs⟩ := bnd_e zhs
          refine x_cVI (As := [.int (a2 + zx4)]) (rest := []) C zhw zhl (cCells_isOpenedIn_l l D cI h (a2 + zx4) M zv10 zhp) (by decide) (by decide) kw_20_21 kw_20_22 kw_20_23 kw_3_11 kw_21_0 md_X0_isOpenedIn rfl 23 (wX_c23 h cI M) rfl rfl rfl rfl (Nat.le_of_ble_eq_true rfl) dX0_warmthOver_31 (fun zH zlocs zhw hzv10 => ?_)
          refine lv_if_eq (tgt := 40) zhx zhb dX0_warmthOver_34 (by decide) (fun zc9 => ?_) (fun zc9 => ?_)
          · replace zhs := br_T zhs zc9
            obtain ⟨zv12, ze9, zhs⟩ := ltI_e zhs
            refine lv_iinc (v := zv12) (lv' := [(5, .int zv12), (4, .int zx3), (0, .ref (h 23)), (1, .int a1), (2, .int a2), (3, .int a3)]) zhx zhb dX0_warmthOver_40 zhl (k := 0) rfl (by rw [ze9]; rfl) (by decide) rfl (fun zls zhl => ?_)
            clear ze9
            refine lv_goto (tgt := 17) zhx zhb dX0_warmthOver_43 (by decide) ?_
            cases zhs
            exact zih zx3 zv12 zq (itk_l zhq) k17_46 zH zlocs zls zhl zhw
          · replace zhs := br_F zhs zc9
            obtain ⟨zv13, ze9, zhs⟩ := ltI_e zhs
            refine lv_iinc (v := zv13) (lv' := [(4, .int zv13), (5, .int zx4), (0, .ref (h 23)), (1, .int a1), (2, .int a2), (3, .int a3)]) zhx zhb dX0_warmthOver_37 zhl (k := 1) rfl (by rw [ze9]; rfl) (by decide) rfl (fun zls zhl => ?_)
            clear ze9
            obtain ⟨zv14, ze9, zhs⟩ := ltI_e zhs
            refine lv_iinc (v := zv14) (lv' := [(5, .int zv14), (4, .int zv13), (0, .ref (h 23)), (1, .int a1), (2, .int a2), (3, .int a3)]) zhx zhb dX0_warmthOver_40 zhl (k := 1) rfl (by rw [ze9]; rfl) (by decide) rfl (fun zls zhl => ?_)
            clear ze9
            refine lv_goto (tgt := 17) zhx zhb dX0_warmthOver_43 (by decide) ?_
            cases zhs
            exact zih zv13 zv14 zq (itk_l zhq) k17_46 zH zlocs zls zhl zhw
  refine hloop15 N zv2 0 zq15 zhq15 (fun zv16 zhqe zH zlocs zls zhl zhw => ?_) zH zlocs zls zhl zhw
  · subst zhqe
    refine lv_iload_n zhx zhb dX0_warmthOver_46 rfl (lv_at zhl 3 rfl) ?_
    refine lv_aload_n zhx zhb dX0_warmthOver_47 rfl (lv_at zhl 1 rfl) ?_
    refine x_get C zhw inlX0 rfl 23 0 (by decide) kw_4_3 rfl (wX_c23 h cI M) rfl dX0_warmthOver_48 ?_
    refine lv_iload_n zhx zhb dX0_warmthOver_51 rfl (lv_at zhl 2 rfl) ?_
    refine x_cSNI (As := [.ref (h 24), .int a1]) (rest := [.int a3]) C zhw zhl (c_at l D cI (wX h cI M) 24 6 (h 24) (M 24) (wX_c24 h cI M) (by decide) a1) (by decide) (by decide) (List.mem_of_getElem? (i := 16) rfl) kw_7_7 kw_1_2 kw_7_8 md_X11_at rfl rfl (Nat.le_of_ble_eq_true rfl) dX0_warmthOver_52 (fun zH zlocs zhw hn9 => ?_)
    refine lv_imul zhx zhb dX0_warmthOver_55 ?_
    refine lv_iload zhx zhb dX0_warmthOver_56 (lv_at zhl 0 rfl) ?_
    refine lv_aload_n zhx zhb dX0_warmthOver_58 rfl (lv_at zhl 1 rfl) ?_
    refine x_get C zhw inlX0 rfl 23 1 (by decide) kw_4_4 rfl (wX_c23 h cI M) rfl dX0_warmthOver_59 ?_
    refine lv_iload_n zhx zhb dX0_warmthOver_62 rfl (lv_at zhl 2 rfl) ?_
    refine x_cSNI (As := [.ref (h 25), .int a1]) (rest := [.int zv16, .int (a3 * (atf 6 (M 24) a1))]) C zhw zhl (c_at l D cI (wX h cI M) 25 6 (h 25) (M 25) (wX_c25 h cI M) (by decide) a1) (by decide) (by decide) (List.mem_of_getElem? (i := 16) rfl) kw_7_7 kw_1_2 kw_7_8 md_X11_at rfl rfl (Nat.le_of_ble_eq_true rfl) dX0_warmthOver_63 (fun zH zlocs zhw hn9 => ?_)
    refine lv_imul zhx zhb dX0_warmthOver_66 ?_
    refine lv_iadd zhx zhb dX0_warmthOver_67 ?_
    cases zhs
    exact zhret _ _ _ _ dX0_warmthOver_68 (by rfl) zhw

-- OffFirst.ageing in (None, ())
def sOff_ageing (a1 : Int32) (a2 : Int32) (a3 : Int32) : Option Int32 :=
  (if a1 = 3 then some a2
  else ltI ((10 * a2) + a3) fun zv1 =>
  (if a1 = 1 then some (2 * zv1)
  else some zv1))
set_option maxHeartbeats 4000000 in
set_option maxRecDepth 100000 in
theorem cOff_ageing (l : Launch) (D : va_G) (cI : ClassId) (h : Nat → Nat) (a1 : Int32) (a2 : Int32) (a3 : Int32) (M : Mm) (r : Int32) (zhs : sOff_ageing a1 a2 a3 = some r) : CtI l yX11_ageing cX11_ageing 4 (some .int) 1 D cI (wX h cI M) (wX h cI M) [.int a1, .int a2, .int a3] r := by
  unfold sOff_ageing at zhs
  refine CtI_of (by decide +kernel) (Nat.le_of_ble_eq_true rfl) ⟨_, rfl⟩ ?_
  intro p e s m args below meth c A Q zls zH zlocs C zhw zhl zhret
  have zhx := C.1
  have zhb := C.2.1
  have zhown := C.2.2.2.2.1
  have zhtB := C.2.2.2.2.2.2.1
  have zhl : lv_has zls 4 [(0, .int a1), (1, .int a2), (2, .int a3)] := zhl
  refine lv_iload_n zhx zhb dX11_ageing_0 rfl (lv_at zhl 0 rfl) ?_
  refine lv_iconst (v := 3) zhx zhb dX11_ageing_1 (by decide) ?_
  refine lv_icmp_ne (tgt := 7) zhx zhb dX11_ageing_2 (by decide) (fun zc9 => ?_) (fun zc9 => ?_)
  · replace zhs := br_F zhs zc9
    refine lv_bipush (v := 10) zhx zhb dX11_ageing_7 (by decide) ?_
    refine lv_iload_n zhx zhb dX11_ageing_9 rfl (lv_at zhl 1 rfl) ?_
    refine lv_imul zhx zhb dX11_ageing_10 ?_
    refine lv_iload_n zhx zhb dX11_ageing_11 rfl (lv_at zhl 2 rfl) ?_
    refine lv_iadd zhx zhb dX11_ageing_12 ?_
    obtain ⟨zv1, ze9, zhs⟩ := ltI_e zhs
    refine lv_topi (fun zy9 ze8 => ?_)
    obtain rfl : zv1 = zy9 := ze9.trans ze8.symm
    clear ze9 ze8
    refine lv_istore_n (lv' := [(3, .int zv1), (0, .int a1), (1, .int a2), (2, .int a3)]) zhx zhb dX11_ageing_13 rfl zhl (by decide) rfl (fun zls zhl => ?_)
    refine lv_iload_n zhx zhb dX11_ageing_14 rfl (lv_at zhl 1 rfl) ?_
    refine lv_iconst (v := 1) zhx zhb dX11_ageing_15 (by decide) ?_
    refine lv_icmp_ne (tgt := 25) zhx zhb dX11_ageing_16 (by decide) (fun zc9 => ?_) (fun zc9 => ?_)
    · replace zhs := br_F zhs zc9
      refine lv_iload_n zhx zhb dX11_ageing_25 rfl (lv_at zhl 0 rfl) ?_
      cases zhs
      exact zhret _ _ _ _ dX11_ageing_26 (by rfl) zhw
    · replace zhs := br_T zhs zc9
      refine lv_iconst (v := 2) zhx zhb dX11_ageing_19 (by decide) ?_
      refine lv_iload_n zhx zhb dX11_ageing_20 rfl (lv_at zhl 0 rfl) ?_
      refine lv_imul zhx zhb dX11_ageing_21 ?_
      refine lv_goto (tgt := 26) zhx zhb dX11_ageing_22 (by decide) ?_
      cases zhs
      exact zhret _ _ _ _ dX11_ageing_26 (by rfl) zhw
  · replace zhs := br_T zhs zc9
    refine lv_iload_n zhx zhb dX11_ageing_5 rfl (lv_at zhl 1 rfl) ?_
    cases zhs
    exact zhret _ _ _ _ dX11_ageing_6 (by rfl) zhw

-- OffFirst$Fridge.ageAs in (58, ())
def sFridge_ageAs (N : Nat) (a1 : Int32) (a2 : Int32) (a3 : Int32) (a4 : Int32) (M : Mm) : Option Int32 :=
  (sStock_ageOf a1 M).bind fun zv1 =>
  (sCells_warmthOver_l N a3 (M 40 6) a4 M).bind fun zv2 =>
  (sOff_ageing a2 a4 zv2).bind fun zv3 =>
  some (zv1 + zv3)
set_option maxHeartbeats 4000000 in
set_option maxRecDepth 100000 in
theorem cFridge_ageAs (l : Launch) (D : va_G) (cI : ClassId) (h : Nat → Nat) (N : Nat) (a1 : Int32) (a2 : Int32) (a3 : Int32) (a4 : Int32) (M : Mm) (r : Int32) (zhs : sFridge_ageAs N a1 a2 a3 a4 M = some r) : CtI l yX3_ageAs cX3_ageAs 5 (some .int) 3 D cI (wX h cI M) (wX h cI M) [.ref (h 58), .int a1, .int a2, .int a3, .int a4] r := by
  unfold sFridge_ageAs at zhs
  refine CtI_of (by decide +kernel) (Nat.le_of_ble_eq_true rfl) ⟨_, rfl⟩ ?_
  intro p e s m args below meth c A Q zls zH zlocs C zhw zhl zhret
  have zhx := C.1
  have zhb := C.2.1
  have zhown := C.2.2.2.2.1
  have zhtB := C.2.2.2.2.2.2.1
  have zhl : lv_has zls 5 [(0, .ref (h 58)), (1, .int a1), (2, .int a2), (3, .int a3), (4, .int a4)] := zhl
  refine lv_aload_n zhx zhb dX3_ageAs_0 rfl (lv_at zhl 0 rfl) ?_
  refine x_get C zhw inlX3 rfl 58 1 (by decide) kw_5_12 rfl (wX_c58 h cI M) rfl dX3_ageAs_1 ?_
  refine lv_iload_n zhx zhb dX3_ageAs_4 rfl (lv_at zhl 1 rfl) ?_
  obtain ⟨zv1, zhp, zhs⟩ := bnd_e zhs
  refine x_cVI (As := [.int a1]) (rest := []) C zhw zhl (cStock_ageOf l D cI h a1 M zv1 zhp) (by decide) (by decide) kw_19_12 kw_18_16 kw_18_17 kw_2_0 kw_18_18 md_X8_ageOf rfl 40 (wX_c40 h cI M) rfl rfl rfl rfl (Nat.le_of_ble_eq_true rfl) dX3_ageAs_5 (fun zH zlocs zhw hn9 => ?_)
  refine lv_iload_n zhx zhb dX3_ageAs_8 rfl (lv_at zhl 2 rfl) ?_
  refine lv_iload zhx zhb dX3_ageAs_9 (lv_at zhl 4 rfl) ?_
  refine lv_aload_n zhx zhb dX3_ageAs_11 rfl (lv_at zhl 0 rfl) ?_
  refine x_get C zhw inlX3 rfl 58 0 (by decide) kw_5_11 rfl (wX_c58 h cI M) rfl dX3_ageAs_12 ?_
  refine x_getN C zhw inlX10 rfl 22 0 (by decide) (List.mem_of_getElem? (i := 18) rfl) rfl (wX_c22 h cI M) rfl dX3_ageAs_15 ?_
  refine lv_iload_n zhx zhb dX3_ageAs_18 rfl (lv_at zhl 3 rfl) ?_
  refine lv_aload_n zhx zhb dX3_ageAs_19 rfl (lv_at zhl 0 rfl) ?_
  refine x_get C zhw inlX3 rfl 58 1 (by decide) kw_5_12 rfl (wX_c58 h cI M) rfl dX3_ageAs_20 ?_
  refine x_getN C zhw inlX8 rfl 40 6 (by decide) (List.mem_of_getElem? (i := 30) rfl) rfl (wX_c40 h cI M) rfl dX3_ageAs_23 ?_
  refine lv_iload zhx zhb dX3_ageAs_26 (lv_at zhl 4 rfl) ?_
  obtain ⟨zv2, zhp, zhs⟩ := bnd_e zhs
  refine x_cVI (As := [.int a3, .int (M 40 6), .int a4]) (rest := [.int a4, .int a2, .int zv1]) C zhw zhl (cCells_warmthOver_l l D cI h N a3 (M 40 6) a4 M zv2 zhp) (by decide) (by decide) kw_22_14 kw_22_15 kw_22_16 kw_3_11 kw_22_17 md_X0_warmthOver rfl 23 (wX_c23 h cI M) rfl rfl rfl rfl (Nat.le_of_ble_eq_true rfl) dX3_ageAs_28 (fun zH zlocs zhw hn9 => ?_)
  obtain ⟨zv3, zhp, zhs⟩ := bnd_e zhs
  refine x_cSNI (As := [.int a2, .int a4, .int zv2]) (rest := [.int zv1]) C zhw zhl (cOff_ageing l D cI h a2 a4 zv2 M zv3 zhp) (by decide) (by decide) (List.mem_of_getElem? (i := 18) rfl) kw_23_1 kw_1_2 kw_23_2 md_X11_ageing rfl rfl (Nat.le_of_ble_eq_true rfl) dX3_ageAs_31 (fun zH zlocs zhw hn9 => ?_)
  refine lv_iadd zhx zhb dX3_ageAs_34 ?_
  cases zhs
  exact zhret _ _ _ _ dX3_ageAs_35 (by rfl) zhw

-- OffFirst$Fridge.ageBehind in (58, ())
def sFridge_ageBehind (N : Nat) (a1 : Int32) (a2 : Int32) (M : Mm) : Option Int32 :=
  (sStock_kindOf a1 M).bind fun zv1 =>
  (sStock_cellOf a1 M).bind fun zv2 =>
  (sFridge_ageAs N a1 zv1 zv2 a2 M).bind fun zv3 =>
  some zv3
set_option maxHeartbeats 4000000 in
set_option maxRecDepth 100000 in
theorem cFridge_ageBehind (l : Launch) (D : va_G) (cI : ClassId) (h : Nat → Nat) (N : Nat) (a1 : Int32) (a2 : Int32) (M : Mm) (r : Int32) (zhs : sFridge_ageBehind N a1 a2 M = some r) : CtI l yX3_ageBehind cX3_ageBehind 3 (some .int) 4 D cI (wX h cI M) (wX h cI M) [.ref (h 58), .int a1, .int a2] r := by
  unfold sFridge_ageBehind at zhs
  refine CtI_of (by decide +kernel) (Nat.le_of_ble_eq_true rfl) ⟨_, rfl⟩ ?_
  intro p e s m args below meth c A Q zls zH zlocs C zhw zhl zhret
  have zhx := C.1
  have zhb := C.2.1
  have zhown := C.2.2.2.2.1
  have zhtB := C.2.2.2.2.2.2.1
  have zhl : lv_has zls 3 [(0, .ref (h 58)), (1, .int a1), (2, .int a2)] := zhl
  refine lv_aload_n zhx zhb dX3_ageBehind_0 rfl (lv_at zhl 0 rfl) ?_
  refine lv_iload_n zhx zhb dX3_ageBehind_1 rfl (lv_at zhl 1 rfl) ?_
  refine lv_aload_n zhx zhb dX3_ageBehind_2 rfl (lv_at zhl 0 rfl) ?_
  refine x_get C zhw inlX3 rfl 58 1 (by decide) kw_5_12 rfl (wX_c58 h cI M) rfl dX3_ageBehind_3 ?_
  refine lv_iload_n zhx zhb dX3_ageBehind_6 rfl (lv_at zhl 1 rfl) ?_
  obtain ⟨zv1, zhp, zhs⟩ := bnd_e zhs
  refine x_cVI (As := [.int a1]) (rest := [.int a1, .ref (h 58)]) C zhw zhl (cStock_kindOf l D cI h a1 M zv1 zhp) (by decide) (by decide) kw_18_23 kw_18_8 kw_18_9 kw_2_0 kw_18_10 md_X8_kindOf rfl 40 (wX_c40 h cI M) rfl rfl rfl rfl (Nat.le_of_ble_eq_true rfl) dX3_ageBehind_7 (fun zH zlocs zhw hn9 => ?_)
  refine lv_aload_n zhx zhb dX3_ageBehind_10 rfl (lv_at zhl 0 rfl) ?_
  refine x_get C zhw inlX3 rfl 58 1 (by decide) kw_5_12 rfl (wX_c58 h cI M) rfl dX3_ageBehind_11 ?_
  refine lv_iload_n zhx zhb dX3_ageBehind_14 rfl (lv_at zhl 1 rfl) ?_
  obtain ⟨zv2, zhp, zhs⟩ := bnd_e zhs
  refine x_cVI (As := [.int a1]) (rest := [.int zv1, .int a1, .ref (h 58)]) C zhw zhl (cStock_cellOf l D cI h a1 M zv2 zhp) (by decide) (by decide) kw_22_9 kw_18_12 kw_18_13 kw_2_0 kw_18_14 md_X8_cellOf rfl 40 (wX_c40 h cI M) rfl rfl rfl rfl (Nat.le_of_ble_eq_true rfl) dX3_ageBehind_15 (fun zH zlocs zhw hn9 => ?_)
  refine lv_iload_n zhx zhb dX3_ageBehind_18 rfl (lv_at zhl 2 rfl) ?_
  obtain ⟨zv3, zhp, zhs⟩ := bnd_e zhs
  refine x_cVI (As := [.int a1, .int zv1, .int zv2, .int a2]) (rest := []) C zhw zhl (cFridge_ageAs l D cI h N a1 zv1 zv2 a2 M zv3 zhp) (by decide) (by decide) kw_22_10 kw_22_11 kw_22_12 kw_2_6 kw_22_13 md_X3_ageAs rfl 58 (wX_c58 h cI M) rfl rfl rfl rfl (Nat.le_of_ble_eq_true rfl) dX3_ageBehind_19 (fun zH zlocs zhw hn9 => ?_)
  cases zhs
  exact zhret _ _ _ _ dX3_ageBehind_22 (by rfl) zhw

-- OffFirst$Stock.ageTo in (40, ())
def sStock_ageTo (a1 : Int32) (a2 : Int32) (M : Mm) : Option Mm :=
  ltM (putf 10 M 43 a1 a2) fun zM1 =>
  some zM1
set_option maxHeartbeats 4000000 in
set_option maxRecDepth 100000 in
theorem cStock_ageTo (l : Launch) (D : va_G) (cI : ClassId) (h : Nat → Nat) (a1 : Int32) (a2 : Int32) (M : Mm) (M' : Mm) (zhs : sStock_ageTo a1 a2 M = some M') : CtV l yX8_ageTo cX8_ageTo 3 2 D cI (wX h cI M) (wX h cI M') [.ref (h 40), .int a1, .int a2] := by
  unfold sStock_ageTo at zhs
  refine CtV_of (by decide +kernel) (Nat.le_of_ble_eq_true rfl) ?_
  intro p e s m args below meth c A Q zls zH zlocs C zhw zhl zhret
  have zhx := C.1
  have zhb := C.2.1
  have zhown := C.2.2.2.2.1
  have zhtB := C.2.2.2.2.2.2.1
  have zhl : lv_has zls 3 [(0, .ref (h 40)), (1, .int a1), (2, .int a2)] := zhl
  refine lv_aload_n zhx zhb dX8_ageTo_0 rfl (lv_at zhl 0 rfl) ?_
  refine x_get C zhw inlX8 rfl 40 2 (by decide) kw_5_4 rfl (wX_c40 h cI M) rfl dX8_ageTo_1 ?_
  refine lv_iload_n zhx zhb dX8_ageTo_4 rfl (lv_at zhl 1 rfl) ?_
  refine lv_iload_n zhx zhb dX8_ageTo_5 rfl (lv_at zhl 2 rfl) ?_
  refine x_cSNV (As := [.ref (h 43), .int a1, .int a2]) (rest := []) C zhw zhl (c_put l D cI (wX h cI) M 43 10 (h 43) (wX_c43 h cI M) (fun j v => wX_a43 h cI M j v) (by decide) a1 a2) (by decide) (by decide) (List.mem_of_getElem? (i := 10) rfl) kw_7_0 kw_1_2 kw_7_1 md_X11_put rfl rfl (Nat.le_of_ble_eq_true rfl) dX8_ageTo_6 (fun zH zlocs zhw => ?_)
  obtain ⟨zM1, ze9, zhs⟩ := ltM_e zhs
  rw [← ze9] at zhw; clear ze9
  cases zhs
  exact zhret _ _ _ _ dX8_ageTo_9 zhw

-- OffFirst$Fridge.letHoursGoBy in (58, ())
def LFridge_letHoursGoBy_2_17 (N : Nat) (a1 : Int32) (zx1 : Int32) (zM2 : Mm) : Option ((Int32 × Mm) ⊕ ((Mm))) :=
  (if (zM2 27 7) ≤ zx1 then some (.inr zM2)
  else (sStock_isThere zx1 zM2).bind fun zv10 =>
  (if zv10 = 0 then ltI (zx1 + 1) fun zv13 =>
  some (.inl (zv13, zM2))
  else (sFridge_ageBehind N zx1 a1 zM2).bind fun zv14 =>
  (sStock_ageTo zx1 zv14 zM2).bind fun zM15 =>
  ltI (zx1 + 1) fun zv16 =>
  some (.inl (zv16, zM15))))
def sFridge_letHoursGoBy (N : Nat) (a1 : Int32) (M : Mm) : Option Mm :=
  (itr (fun z : Int32 × Mm => LFridge_letHoursGoBy_2_17 N a1 z.1 z.2) N (0, M)).bind fun zM18 =>
  ltM (mset zM18 40 6 ((zM18 40 6) + a1)) fun zM19 =>
  some zM19
set_option maxHeartbeats 4000000 in
set_option maxRecDepth 100000 in
theorem cFridge_letHoursGoBy (l : Launch) (D : va_G) (cI : ClassId) (h : Nat → Nat) (N : Nat) (a1 : Int32) (M : Mm) (M' : Mm) (zhs : sFridge_letHoursGoBy N a1 M = some M') : CtV l yX3_letHoursGoBy cX3_letHoursGoBy 3 5 D cI (wX h cI M) (wX h cI M') [.ref (h 58), .int a1] := by
  unfold sFridge_letHoursGoBy at zhs
  refine CtV_of (by decide +kernel) (Nat.le_of_ble_eq_true rfl) ?_
  intro p e s m args below meth c A Q zls zH zlocs C zhw zhl zhret
  have zhx := C.1
  have zhb := C.2.1
  have zhown := C.2.2.2.2.1
  have zhtB := C.2.2.2.2.2.2.1
  have zhl : lv_has zls 3 [(0, .ref (h 58)), (1, .int a1)] := zhl
  refine lv_iconst (v := 0) zhx zhb dX3_letHoursGoBy_0 (by decide) ?_
  refine lv_istore_n (lv' := [(2, .int 0), (0, .ref (h 58)), (1, .int a1)]) zhx zhb dX3_letHoursGoBy_1 rfl zhl (by decide) rfl (fun zls zhl => ?_)
  obtain ⟨zq17, zhq17, zhs⟩ := bnd_e zhs
  have hloop17 : ∀ (zn : Nat) (zx1 : Int32) (zM2 : Mm) (zq : (Mm)), itr (fun z : Int32 × Mm => LFridge_letHoursGoBy_2_17 N a1 z.1 z.2) zn (zx1, zM2) = some zq → (∀ (zy1 : Mm), zy1 = zq → ∀ (zH : Heap) (zlocs : List Loc) (zls : Array Slot), lv_has zls 3 [(0, .ref (h 58)), (1, .int a1)] → Hw D (wX h cI zy1) A s.heap zH zlocs → W p l e (RM 5) s m args below meth c zH zlocs 0 0 Q (F0 m 47 zls [])) → ∀ (zH : Heap) (zlocs : List Loc) (zls : Array Slot), lv_has zls 3 [(2, .int zx1), (0, .ref (h 58)), (1, .int a1)] → Hw D (wX h cI zM2) A s.heap zH zlocs → W p l e (RM 5) s m args below meth c zH zlocs 0 0 Q (F0 m 2 zls []) := by
    intro zn
    induction zn with
    | zero => intro zx1 zM2 zq zhq; exact absurd zhq (fun h9 => itr_0 h9)
    | succ zn zih =>
        intro zx1 zM2 zq zhq k2_47 zH zlocs zls zhl zhw
        obtain ⟨zy9, zhs, zhq⟩ := itr_s zhq
        replace zhs : LFridge_letHoursGoBy_2_17 N a1 zx1 zM2 = some zy9 := zhs
        unfold LFridge_letHoursGoBy_2_17 at zhs
        refine lv_iload_n zhx zhb dX3_letHoursGoBy_2 rfl (lv_at zhl 0 rfl) ?_
        refine lv_aload_n zhx zhb dX3_letHoursGoBy_3 rfl (lv_at zhl 1 rfl) ?_
        refine x_get C zhw inlX3 rfl 58 0 (by decide) kw_5_11 rfl (wX_c58 h cI zM2) rfl dX3_letHoursGoBy_4 ?_
        refine x_getN C zhw inlX10 rfl 22 1 (by decide) (List.mem_of_getElem? (i := 20) rfl) rfl (wX_c22 h cI zM2) rfl dX3_letHoursGoBy_7 ?_
        refine x_getN C zhw inlX2 rfl 27 7 (by decide) (List.mem_of_getElem? (i := 8) rfl) rfl (wX_c27 h cI zM2) rfl dX3_letHoursGoBy_10 ?_
        refine lv_icmp_ge (tgt := 47) zhx zhb dX3_letHoursGoBy_13 (by decide) (fun zc9 => ?_) (fun zc9 => ?_)
        · replace zhs := br_T zhs zc9
          cases zhs
          exact k2_47 zM2 (itk_q zhq) zH zlocs zls (lv_sub zhl [1, 2] rfl) zhw
        · replace zhs := br_F zhs zc9
          refine lv_aload_n zhx zhb dX3_letHoursGoBy_16 rfl (lv_at zhl 1 rfl) ?_
          refine x_get C zhw inlX3 rfl 58 1 (by decide) kw_5_12 rfl (wX_c58 h cI zM2) rfl dX3_letHoursGoBy_17 ?_
          refine lv_iload_n zhx zhb dX3_letHoursGoBy_20 rfl (lv_at zhl 0 rfl) ?_
          obtain ⟨zv10, zhp, zhs⟩ := bnd_e zhs
          refine x_cVI (As := [.int zx1]) (rest := []) C zhw zhl (cStock_isThere l D cI h zx1 zM2 zv10 zhp) (by decide) (by decide) kw_22_1 kw_22_2 kw_22_3 kw_2_0 kw_22_4 md_X8_isThere rfl 40 (wX_c40 h cI zM2) rfl rfl rfl rfl (Nat.le_of_ble_eq_true rfl) dX3_letHoursGoBy_21 (fun zH zlocs zhw hzv10 => ?_)
          refine lv_if_eq (tgt := 41) zhx zhb dX3_letHoursGoBy_24 (by decide) (fun zc9 => ?_) (fun zc9 => ?_)
          · replace zhs := br_T zhs zc9
            obtain ⟨zv13, ze9, zhs⟩ := ltI_e zhs
            refine lv_iinc (v := zv13) (lv' := [(2, .int zv13), (0, .ref (h 58)), (1, .int a1)]) zhx zhb dX3_letHoursGoBy_41 zhl (k := 0) rfl (by rw [ze9]; rfl) (by decide) rfl (fun zls zhl => ?_)
            clear ze9
            refine lv_goto (tgt := 2) zhx zhb dX3_letHoursGoBy_44 (by decide) ?_
            cases zhs
            exact zih zv13 zM2 zq (itk_l zhq) k2_47 zH zlocs zls zhl zhw
          · replace zhs := br_F zhs zc9
            refine lv_aload_n zhx zhb dX3_letHoursGoBy_27 rfl (lv_at zhl 1 rfl) ?_
            refine x_get C zhw inlX3 rfl 58 1 (by decide) kw_5_12 rfl (wX_c58 h cI zM2) rfl dX3_letHoursGoBy_28 ?_
            refine lv_iload_n zhx zhb dX3_letHoursGoBy_31 rfl (lv_at zhl 0 rfl) ?_
            refine lv_aload_n zhx zhb dX3_letHoursGoBy_32 rfl (lv_at zhl 1 rfl) ?_
            refine lv_iload_n zhx zhb dX3_letHoursGoBy_33 rfl (lv_at zhl 0 rfl) ?_
            refine lv_iload_n zhx zhb dX3_letHoursGoBy_34 rfl (lv_at zhl 2 rfl) ?_
            obtain ⟨zv14, zhp, zhs⟩ := bnd_e zhs
            refine x_cVI (As := [.int zx1, .int a1]) (rest := [.int zx1, .ref (h 40)]) C zhw zhl (cFridge_ageBehind l D cI h N zx1 a1 zM2 zv14 zhp) (by decide) (by decide) kw_22_5 kw_22_6 kw_22_7 kw_2_6 kw_22_8 md_X3_ageBehind rfl 58 (wX_c58 h cI zM2) rfl rfl rfl rfl (Nat.le_of_ble_eq_true rfl) dX3_letHoursGoBy_35 (fun zH zlocs zhw hn9 => ?_)
            obtain ⟨zM15, zhp, zhs⟩ := bnd_e zhs
            refine x_cVV (As := [.int zx1, .int zv14]) (rest := []) C zhw zhl (cStock_ageTo l D cI h zx1 zv14 zM2 zM15 zhp) (by decide) (by decide) kw_23_3 kw_23_4 kw_23_5 kw_2_0 kw_23_6 md_X8_ageTo rfl 40 (wX_c40 h cI zM2) rfl rfl rfl rfl (Nat.le_of_ble_eq_true rfl) dX3_letHoursGoBy_38 (fun zH zlocs zhw => ?_)
            obtain ⟨zv16, ze9, zhs⟩ := ltI_e zhs
            refine lv_iinc (v := zv16) (lv' := [(2, .int zv16), (0, .ref (h 58)), (1, .int a1)]) zhx zhb dX3_letHoursGoBy_41 zhl (k := 0) rfl (by rw [ze9]; rfl) (by decide) rfl (fun zls zhl => ?_)
            clear ze9
            refine lv_goto (tgt := 2) zhx zhb dX3_letHoursGoBy_44 (by decide) ?_
            cases zhs
            exact zih zv16 zM15 zq (itk_l zhq) k2_47 zH zlocs zls zhl zhw
  refine hloop17 N 0 M zq17 zhq17 (fun zM18 zhqe zH zlocs zls zhl zhw => ?_) zH zlocs zls zhl zhw
  · subst zhqe
    refine lv_aload_n zhx zhb dX3_letHoursGoBy_47 rfl (lv_at zhl 0 rfl) ?_
    refine x_get C zhw inlX3 rfl 58 1 (by decide) kw_5_12 rfl (wX_c58 h cI zM18) rfl dX3_letHoursGoBy_48 ?_
    refine lv_dup zhx zhb dX3_letHoursGoBy_51 rfl ?_
    refine x_getN C zhw inlX8 rfl 40 6 (by decide) (List.mem_of_getElem? (i := 30) rfl) rfl (wX_c40 h cI zM18) rfl dX3_letHoursGoBy_52 ?_
    refine lv_iload_n zhx zhb dX3_letHoursGoBy_55 rfl (lv_at zhl 1 rfl) ?_
    refine lv_iadd zhx zhb dX3_letHoursGoBy_56 ?_
    refine x_putN C zhw inlX8 rfl tyX8_ok nmX8 40 6 (by decide) (List.mem_of_getElem? (i := 30) rfl) rfl rfl rfl (wX_c40 h cI zM18) (Nat.le_of_ble_eq_true rfl) (wX_s40_6 h cI zM18 _) dX3_letHoursGoBy_57 (fun zH zlocs zhw => ?_)
    obtain ⟨zM19, ze9, zhs⟩ := ltM_e zhs
    rw [← ze9] at zhw; clear ze9
    cases zhs
    exact zhret _ _ _ _ dX3_letHoursGoBy_60 zhw

-- OffFirst$Fridge.offAndThere in (58, ())
def LFridge_offAndThere_4_21 (N : Nat) (M : Mm) (zx1 : Int32) (zx2 : Int32) : Option ((Int32 × Int32) ⊕ ((Int32))) :=
  (if (M 27 7) ≤ zx2 then some (.inr zx1)
  else (sStock_isThere zx2 M).bind fun zv12 =>
  (if zv12 = 0 then ltI (zx2 + 1) fun zv15 =>
  some (.inl (zx1, zv15))
  else (sFridge_isOff zx2 M).bind fun zv16 =>
  (if zv16 = 0 then ltI (zx2 + 1) fun zv18 =>
  some (.inl (zx1, zv18))
  else ltI (zx1 ||| (1 <<< (zx2 &&& 31))) fun zv19 =>
  ltI (zx2 + 1) fun zv20 =>
  some (.inl (zv19, zv20)))))
def sFridge_offAndThere (N : Nat) (M : Mm) : Option Int32 :=
  (itr (fun z : Int32 × Int32 => LFridge_offAndThere_4_21 N M z.1 z.2) N (0, 0)).bind fun zv22 =>
  some zv22
set_option maxHeartbeats 4000000 in
set_option maxRecDepth 100000 in
theorem cFridge_offAndThere (l : Launch) (D : va_G) (cI : ClassId) (h : Nat → Nat) (N : Nat) (M : Mm) (r : Int32) (zhs : sFridge_offAndThere N M = some r) : CtI l yX3_offAndThere cX3_offAndThere 3 (some .int) 5 D cI (wX h cI M) (wX h cI M) [.ref (h 58)] r := by
  unfold sFridge_offAndThere at zhs
  refine CtI_of (by decide +kernel) (Nat.le_of_ble_eq_true rfl) ⟨_, rfl⟩ ?_
  intro p e s m args below meth c A Q zls zH zlocs C zhw zhl zhret
  have zhx := C.1
  have zhb := C.2.1
  have zhown := C.2.2.2.2.1
  have zhtB := C.2.2.2.2.2.2.1
  have zhl : lv_has zls 3 [(0, .ref (h 58))] := zhl
  refine lv_iconst (v := 0) zhx zhb dX3_offAndThere_0 (by decide) ?_
  refine lv_istore_n (lv' := [(1, .int 0), (0, .ref (h 58))]) zhx zhb dX3_offAndThere_1 rfl zhl (by decide) rfl (fun zls zhl => ?_)
  refine lv_iconst (v := 0) zhx zhb dX3_offAndThere_2 (by decide) ?_
  refine lv_istore_n (lv' := [(2, .int 0), (1, .int 0), (0, .ref (h 58))]) zhx zhb dX3_offAndThere_3 rfl zhl (by decide) rfl (fun zls zhl => ?_)
  obtain ⟨zq21, zhq21, zhs⟩ := bnd_e zhs
  have hloop21 : ∀ (zn : Nat) (zx1 : Int32) (zx2 : Int32) (zq : (Int32)), itr (fun z : Int32 × Int32 => LFridge_offAndThere_4_21 N M z.1 z.2) zn (zx1, zx2) = some zq → (∀ (zy1 : Int32), zy1 = zq → ∀ (zH : Heap) (zlocs : List Loc) (zls : Array Slot), lv_has zls 3 [(1, .int zy1)] → Hw D (wX h cI M) A s.heap zH zlocs → W p l e (RM 5) s m args below meth c zH zlocs 0 0 Q (F0 m 49 zls [])) → ∀ (zH : Heap) (zlocs : List Loc) (zls : Array Slot), lv_has zls 3 [(2, .int zx2), (1, .int zx1), (0, .ref (h 58))] → Hw D (wX h cI M) A s.heap zH zlocs → W p l e (RM 5) s m args below meth c zH zlocs 0 0 Q (F0 m 4 zls []) := by
    intro zn
    induction zn with
    | zero => intro zx1 zx2 zq zhq; exact absurd zhq (fun h9 => itr_0 h9)
    | succ zn zih =>
        intro zx1 zx2 zq zhq k4_49 zH zlocs zls zhl zhw
        obtain ⟨zy9, zhs, zhq⟩ := itr_s zhq
        replace zhs : LFridge_offAndThere_4_21 N M zx1 zx2 = some zy9 := zhs
        unfold LFridge_offAndThere_4_21 at zhs
        refine lv_iload_n zhx zhb dX3_offAndThere_4 rfl (lv_at zhl 0 rfl) ?_
        refine lv_aload_n zhx zhb dX3_offAndThere_5 rfl (lv_at zhl 2 rfl) ?_
        refine x_get C zhw inlX3 rfl 58 0 (by decide) kw_5_11 rfl (wX_c58 h cI M) rfl dX3_offAndThere_6 ?_
        refine x_getN C zhw inlX10 rfl 22 1 (by decide) (List.mem_of_getElem? (i := 20) rfl) rfl (wX_c22 h cI M) rfl dX3_offAndThere_9 ?_
        refine x_getN C zhw inlX2 rfl 27 7 (by decide) (List.mem_of_getElem? (i := 8) rfl) rfl (wX_c27 h cI M) rfl dX3_offAndThere_12 ?_
        refine lv_icmp_ge (tgt := 49) zhx zhb dX3_offAndThere_15 (by decide) (fun zc9 => ?_) (fun zc9 => ?_)
        · replace zhs := br_T zhs zc9
          cases zhs
          exact k4_49 zx1 (itk_q zhq) zH zlocs zls (lv_sub zhl [1] rfl) zhw
        · replace zhs := br_F zhs zc9
          refine lv_aload_n zhx zhb dX3_offAndThere_18 rfl (lv_at zhl 2 rfl) ?_
          refine x_get C zhw inlX3 rfl 58 1 (by decide) kw_5_12 rfl (wX_c58 h cI M) rfl dX3_offAndThere_19 ?_
          refine lv_iload_n zhx zhb dX3_offAndThere_22 rfl (lv_at zhl 0 rfl) ?_
          obtain ⟨zv12, zhp, zhs⟩ := bnd_e zhs
          refine x_cVI (As := [.int zx2]) (rest := []) C zhw zhl (cStock_isThere l D cI h zx2 M zv12 zhp) (by decide) (by decide) kw_22_1 kw_22_2 kw_22_3 kw_2_0 kw_22_4 md_X8_isThere rfl 40 (wX_c40 h cI M) rfl rfl rfl rfl (Nat.le_of_ble_eq_true rfl) dX3_offAndThere_23 (fun zH zlocs zhw hzv12 => ?_)
          refine lv_if_eq (tgt := 43) zhx zhb dX3_offAndThere_26 (by decide) (fun zc9 => ?_) (fun zc9 => ?_)
          · replace zhs := br_T zhs zc9
            obtain ⟨zv15, ze9, zhs⟩ := ltI_e zhs
            refine lv_iinc (v := zv15) (lv' := [(2, .int zv15), (1, .int zx1), (0, .ref (h 58))]) zhx zhb dX3_offAndThere_43 zhl (k := 0) rfl (by rw [ze9]; rfl) (by decide) rfl (fun zls zhl => ?_)
            clear ze9
            refine lv_goto (tgt := 4) zhx zhb dX3_offAndThere_46 (by decide) ?_
            cases zhs
            exact zih zx1 zv15 zq (itk_l zhq) k4_49 zH zlocs zls zhl zhw
          · replace zhs := br_F zhs zc9
            refine lv_aload_n zhx zhb dX3_offAndThere_29 rfl (lv_at zhl 2 rfl) ?_
            refine lv_iload_n zhx zhb dX3_offAndThere_30 rfl (lv_at zhl 0 rfl) ?_
            obtain ⟨zv16, zhp, zhs⟩ := bnd_e zhs
            refine x_cVI (As := [.int zx2]) (rest := []) C zhw zhl (cFridge_isOff l D cI h zx2 M zv16 zhp) (by decide) (by decide) kw_23_11 kw_19_9 kw_19_10 kw_2_6 kw_19_11 md_X3_isOff rfl 58 (wX_c58 h cI M) rfl rfl rfl rfl (Nat.le_of_ble_eq_true rfl) dX3_offAndThere_31 (fun zH zlocs zhw hzv16 => ?_)
            refine lv_if_eq (tgt := 43) zhx zhb dX3_offAndThere_34 (by decide) (fun zc9 => ?_) (fun zc9 => ?_)
            · replace zhs := br_T zhs zc9
              obtain ⟨zv18, ze9, zhs⟩ := ltI_e zhs
              refine lv_iinc (v := zv18) (lv' := [(2, .int zv18), (1, .int zx1), (0, .ref (h 58))]) zhx zhb dX3_offAndThere_43 zhl (k := 0) rfl (by rw [ze9]; rfl) (by decide) rfl (fun zls zhl => ?_)
              clear ze9
              refine lv_goto (tgt := 4) zhx zhb dX3_offAndThere_46 (by decide) ?_
              cases zhs
              exact zih zx1 zv18 zq (itk_l zhq) k4_49 zH zlocs zls zhl zhw
            · replace zhs := br_F zhs zc9
              refine lv_iload_n zhx zhb dX3_offAndThere_37 rfl (lv_at zhl 1 rfl) ?_
              refine lv_iconst (v := 1) zhx zhb dX3_offAndThere_38 (by decide) ?_
              refine lv_iload_n zhx zhb dX3_offAndThere_39 rfl (lv_at zhl 0 rfl) ?_
              refine lv_ishl zhx zhb dX3_offAndThere_40 ?_
              refine lv_ior zhx zhb dX3_offAndThere_41 ?_
              obtain ⟨zv19, ze9, zhs⟩ := ltI_e zhs
              refine lv_topi (fun zy9 ze8 => ?_)
              obtain rfl : zv19 = zy9 := ze9.trans ze8.symm
              clear ze9 ze8
              refine lv_istore_n (lv' := [(1, .int zv19), (2, .int zx2), (0, .ref (h 58))]) zhx zhb dX3_offAndThere_42 rfl zhl (by decide) rfl (fun zls zhl => ?_)
              obtain ⟨zv20, ze9, zhs⟩ := ltI_e zhs
              refine lv_iinc (v := zv20) (lv' := [(2, .int zv20), (1, .int zv19), (0, .ref (h 58))]) zhx zhb dX3_offAndThere_43 zhl (k := 1) rfl (by rw [ze9]; rfl) (by decide) rfl (fun zls zhl => ?_)
              clear ze9
              refine lv_goto (tgt := 4) zhx zhb dX3_offAndThere_46 (by decide) ?_
              cases zhs
              exact zih zv19 zv20 zq (itk_l zhq) k4_49 zH zlocs zls zhl zhw
  refine hloop21 N 0 0 zq21 zhq21 (fun zv22 zhqe zH zlocs zls zhl zhw => ?_) zH zlocs zls zhl zhw
  · subst zhqe
    refine lv_iload_n zhx zhb dX3_offAndThere_49 rfl (lv_at zhl 0 rfl) ?_
    cases zhs
    exact zhret _ _ _ _ dX3_offAndThere_50 (by rfl) zhw

-- OffFirst.hours in (0, ())
def sOff_hours (N : Nat) (a1 : Int32) (M : Mm) : Option (Int32 × Mm) :=
  (sOff_isWithin a1 1 999).bind fun zv1 =>
  (if zv1 = 0 then some ((-1), M)
  else (if ((M 40 6) + a1) ≤ 99999 then (sFridge_letHoursGoBy N a1 M).bind fun zM2 =>
  (sFridge_offAndThere N zM2).bind fun zv3 =>
  (sJint_bitCount zv3).bind fun zv4 =>
  some (zv4, zM2)
  else some ((-2), M)))
set_option maxHeartbeats 4000000 in
set_option maxRecDepth 100000 in
theorem cOff_hours (l : Launch) (D : va_G) (cI : ClassId) (h : Nat → Nat) (N : Nat) (a1 : Int32) (M : Mm) (r : Int32) (M' : Mm) (zhs : sOff_hours N a1 M = some (r, M')) : CtI l yX11_hours cX11_hours 2 (some .int) 6 D cI (wX h cI M) (wX h cI M') [.ref (h 0), .int a1] r := by
  unfold sOff_hours at zhs
  refine CtI_of (by decide +kernel) (Nat.le_of_ble_eq_true rfl) ⟨_, rfl⟩ ?_
  intro p e s m args below meth c A Q zls zH zlocs C zhw zhl zhret
  have zhx := C.1
  have zhb := C.2.1
  have zhown := C.2.2.2.2.1
  have zhtB := C.2.2.2.2.2.2.1
  have zhl : lv_has zls 2 [(0, .ref (h 0)), (1, .int a1)] := zhl
  refine lv_iload_n zhx zhb dX11_hours_0 rfl (lv_at zhl 1 rfl) ?_
  refine lv_iconst (v := 1) zhx zhb dX11_hours_1 (by decide) ?_
  refine lv_sipush (v := 999) zhx zhb dX11_hours_2 (by decide) ?_
  obtain ⟨zv1, zhp, zhs⟩ := bnd_e zhs
  refine x_cSI (As := [.int a1, .int 1, .int 999]) (rest := []) C zhw zhl (cOff_isWithin l D cI h a1 1 999 M zv1 zhp) (by decide) (by decide) kw_9_22 kw_9_23 kw_1_2 kw_10_0 md_X11_isWithin rfl rfl (Nat.le_of_ble_eq_true rfl) dX11_hours_5 (fun zH zlocs zhw hzv1 => ?_)
  refine lv_if_ne (tgt := 13) zhx zhb dX11_hours_8 (by decide) (fun zc9 => ?_) (fun zc9 => ?_)
  · replace zhs := br_F zhs zc9
    refine lv_aload_n zhx zhb dX11_hours_13 rfl (lv_at zhl 0 rfl) ?_
    refine x_get C zhw inlX11 rfl 0 3 (by decide) kw_2_1 rfl (wX_c0 h cI M) rfl dX11_hours_14 ?_
    refine x_getN C zhw inlX8 rfl 40 6 (by decide) (List.mem_of_getElem? (i := 31) rfl) rfl (wX_c40 h cI M) rfl dX11_hours_17 ?_
    refine lv_iload_n zhx zhb dX11_hours_20 rfl (lv_at zhl 1 rfl) ?_
    refine lv_iadd zhx zhb dX11_hours_21 ?_
    refine lv_ldc zhx zhb zhown (zhtB _ kw_20_15) dX11_hours_22 ?_
    refine lv_icmp_le (tgt := 30) zhx zhb dX11_hours_24 (by decide) (fun zc9 => ?_) (fun zc9 => ?_)
    · replace zhs := br_T zhs zc9
      refine lv_aload_n zhx zhb dX11_hours_30 rfl (lv_at zhl 0 rfl) ?_
      refine x_get C zhw inlX11 rfl 0 7 (by decide) kw_2_7 rfl (wX_c0 h cI M) rfl dX11_hours_31 ?_
      refine lv_iload_n zhx zhb dX11_hours_34 rfl (lv_at zhl 1 rfl) ?_
      obtain ⟨zM2, zhp, zhs⟩ := bnd_e zhs
      refine x_cVV (As := [.int a1]) (rest := []) C zhw zhl (cFridge_letHoursGoBy l D cI h N a1 M zM2 zhp) (by decide) (by decide) kw_21_21 kw_21_22 kw_21_23 kw_2_6 kw_22_0 md_X3_letHoursGoBy rfl 58 (wX_c58 h cI M) rfl rfl rfl rfl (Nat.le_of_ble_eq_true rfl) dX11_hours_35 (fun zH zlocs zhw => ?_)
      refine lv_aload_n zhx zhb dX11_hours_38 rfl (lv_at zhl 0 rfl) ?_
      refine x_get C zhw inlX11 rfl 0 7 (by decide) kw_2_7 rfl (wX_c0 h cI zM2) rfl dX11_hours_39 ?_
      obtain ⟨zv3, zhp, zhs⟩ := bnd_e zhs
      refine x_cVI (As := []) (rest := []) C zhw zhl (cFridge_offAndThere l D cI h N zM2 zv3 zhp) (by decide) (by decide) kw_23_7 kw_23_8 kw_23_9 kw_2_6 kw_23_10 md_X3_offAndThere rfl 58 (wX_c58 h cI zM2) rfl rfl rfl rfl (Nat.le_of_ble_eq_true rfl) dX11_hours_42 (fun zH zlocs zhw hn9 => ?_)
      obtain ⟨zv4, zhp, zhs⟩ := bnd_e zhs
      refine x_cSI (As := [.int zv3]) (rest := []) C zhw zhl (cJint_bitCount l D cI h zv3 zM2 zv4 zhp) (by decide) (by decide) kw_23_12 kw_22_19 kw_22_20 kw_22_21 md_J6_bitCount_0f7a4 rfl rfl (Nat.le_of_ble_eq_true rfl) dX11_hours_45 (fun zH zlocs zhw hn9 => ?_)
      cases zhs
      exact zhret _ _ _ _ dX11_hours_48 (by rfl) zhw
    · replace zhs := br_F zhs zc9
      refine lv_bipush (v := (-2)) zhx zhb dX11_hours_27 (by decide) ?_
      cases zhs
      exact zhret _ _ _ _ dX11_hours_29 (by rfl) zhw
  · replace zhs := br_T zhs zc9
    refine lv_iconst (v := (-1)) zhx zhb dX11_hours_11 (by decide) ?_
    cases zhs
    exact zhret _ _ _ _ dX11_hours_12 (by rfl) zhw

-- OffFirst$Stock.numberIn in (40, ())
def LStock_numberIn_4_17 (N : Nat) (a1 : Int32) (M : Mm) (zx1 : Int32) (zx2 : Int32) : Option ((Int32 × Int32) ⊕ ((Int32))) :=
  (if (M 40 5) ≤ zx2 then some (.inr zx1)
  else (sStock_isThere zx2 M).bind fun zv10 =>
  (if zv10 = 0 then ltI (zx2 + 1) fun zv12 =>
  some (.inl (zx1, zv12))
  else (if (atf 10 (M 42) zx2) = a1 then ltI (zx1 + 1) fun zv15 =>
  ltI (zx2 + 1) fun zv16 =>
  some (.inl (zv15, zv16))
  else ltI (zx2 + 1) fun zv14 =>
  some (.inl (zx1, zv14)))))
def sStock_numberIn (N : Nat) (a1 : Int32) (M : Mm) : Option Int32 :=
  (itr (fun z : Int32 × Int32 => LStock_numberIn_4_17 N a1 M z.1 z.2) N (0, 0)).bind fun zv18 =>
  some zv18
set_option maxHeartbeats 4000000 in
set_option maxRecDepth 100000 in
theorem cStock_numberIn (l : Launch) (D : va_G) (cI : ClassId) (h : Nat → Nat) (N : Nat) (a1 : Int32) (M : Mm) (r : Int32) (zhs : sStock_numberIn N a1 M = some r) : CtI l yX8_numberIn cX8_numberIn 4 (some .int) 3 D cI (wX h cI M) (wX h cI M) [.ref (h 40), .int a1] r := by
  unfold sStock_numberIn at zhs
  refine CtI_of (by decide +kernel) (Nat.le_of_ble_eq_true rfl) ⟨_, rfl⟩ ?_
  intro p e s m args below meth c A Q zls zH zlocs C zhw zhl zhret
  have zhx := C.1
  have zhb := C.2.1
  have zhown := C.2.2.2.2.1
  have zhtB := C.2.2.2.2.2.2.1
  have zhl : lv_has zls 4 [(0, .ref (h 40)), (1, .int a1)] := zhl
  refine lv_iconst (v := 0) zhx zhb dX8_numberIn_0 (by decide) ?_
  refine lv_istore_n (lv' := [(2, .int 0), (0, .ref (h 40)), (1, .int a1)]) zhx zhb dX8_numberIn_1 rfl zhl (by decide) rfl (fun zls zhl => ?_)
  refine lv_iconst (v := 0) zhx zhb dX8_numberIn_2 (by decide) ?_
  refine lv_istore_n (lv' := [(3, .int 0), (2, .int 0), (0, .ref (h 40)), (1, .int a1)]) zhx zhb dX8_numberIn_3 rfl zhl (by decide) rfl (fun zls zhl => ?_)
  obtain ⟨zq17, zhq17, zhs⟩ := bnd_e zhs
  have hloop17 : ∀ (zn : Nat) (zx1 : Int32) (zx2 : Int32) (zq : (Int32)), itr (fun z : Int32 × Int32 => LStock_numberIn_4_17 N a1 M z.1 z.2) zn (zx1, zx2) = some zq → (∀ (zy1 : Int32), zy1 = zq → ∀ (zH : Heap) (zlocs : List Loc) (zls : Array Slot), lv_has zls 4 [(2, .int zy1)] → Hw D (wX h cI M) A s.heap zH zlocs → W p l e (RM 3) s m args below meth c zH zlocs 0 0 Q (F0 m 41 zls [])) → ∀ (zH : Heap) (zlocs : List Loc) (zls : Array Slot), lv_has zls 4 [(3, .int zx2), (2, .int zx1), (0, .ref (h 40)), (1, .int a1)] → Hw D (wX h cI M) A s.heap zH zlocs → W p l e (RM 3) s m args below meth c zH zlocs 0 0 Q (F0 m 4 zls []) := by
    intro zn
    induction zn with
    | zero => intro zx1 zx2 zq zhq; exact absurd zhq (fun h9 => itr_0 h9)
    | succ zn zih =>
        intro zx1 zx2 zq zhq k4_41 zH zlocs zls zhl zhw
        obtain ⟨zy9, zhs, zhq⟩ := itr_s zhq
        replace zhs : LStock_numberIn_4_17 N a1 M zx1 zx2 = some zy9 := zhs
        unfold LStock_numberIn_4_17 at zhs
        refine lv_iload_n zhx zhb dX8_numberIn_4 rfl (lv_at zhl 0 rfl) ?_
        refine lv_aload_n zhx zhb dX8_numberIn_5 rfl (lv_at zhl 2 rfl) ?_
        refine x_get C zhw inlX8 rfl 40 5 (by decide) kw_7_13 rfl (wX_c40 h cI M) rfl dX8_numberIn_6 ?_
        refine lv_icmp_ge (tgt := 41) zhx zhb dX8_numberIn_9 (by decide) (fun zc9 => ?_) (fun zc9 => ?_)
        · replace zhs := br_T zhs zc9
          cases zhs
          exact k4_41 zx1 (itk_q zhq) zH zlocs zls (lv_sub zhl [1] rfl) zhw
        · replace zhs := br_F zhs zc9
          refine lv_aload_n zhx zhb dX8_numberIn_12 rfl (lv_at zhl 2 rfl) ?_
          refine lv_iload_n zhx zhb dX8_numberIn_13 rfl (lv_at zhl 0 rfl) ?_
          obtain ⟨zv10, zhp, zhs⟩ := bnd_e zhs
          refine x_cVI (As := [.int zx2]) (rest := []) C zhw zhl (cStock_isThere l D cI h zx2 M zv10 zhp) (by decide) (by decide) kw_24_11 kw_22_2 kw_22_3 kw_2_0 kw_22_4 md_X8_isThere rfl 40 (wX_c40 h cI M) rfl rfl rfl rfl (Nat.le_of_ble_eq_true rfl) dX8_numberIn_14 (fun zH zlocs zhw hzv10 => ?_)
          refine lv_if_eq (tgt := 35) zhx zhb dX8_numberIn_17 (by decide) (fun zc9 => ?_) (fun zc9 => ?_)
          · replace zhs := br_T zhs zc9
            obtain ⟨zv12, ze9, zhs⟩ := ltI_e zhs
            refine lv_iinc (v := zv12) (lv' := [(3, .int zv12), (2, .int zx1), (0, .ref (h 40)), (1, .int a1)]) zhx zhb dX8_numberIn_35 zhl (k := 0) rfl (by rw [ze9]; rfl) (by decide) rfl (fun zls zhl => ?_)
            clear ze9
            refine lv_goto (tgt := 4) zhx zhb dX8_numberIn_38 (by decide) ?_
            cases zhs
            exact zih zx1 zv12 zq (itk_l zhq) k4_41 zH zlocs zls zhl zhw
          · replace zhs := br_F zhs zc9
            refine lv_aload_n zhx zhb dX8_numberIn_20 rfl (lv_at zhl 2 rfl) ?_
            refine x_get C zhw inlX8 rfl 40 1 (by decide) kw_5_3 rfl (wX_c40 h cI M) rfl dX8_numberIn_21 ?_
            refine lv_iload_n zhx zhb dX8_numberIn_24 rfl (lv_at zhl 0 rfl) ?_
            refine x_cSNI (As := [.ref (h 42), .int zx2]) (rest := []) C zhw zhl (c_at l D cI (wX h cI M) 42 10 (h 42) (M 42) (wX_c42 h cI M) (by decide) zx2) (by decide) (by decide) (List.mem_of_getElem? (i := 17) rfl) kw_7_7 kw_1_2 kw_7_8 md_X11_at rfl rfl (Nat.le_of_ble_eq_true rfl) dX8_numberIn_25 (fun zH zlocs zhw hn9 => ?_)
            refine lv_iload_n zhx zhb dX8_numberIn_28 rfl (lv_at zhl 3 rfl) ?_
            refine lv_icmp_ne (tgt := 35) zhx zhb dX8_numberIn_29 (by decide) (fun zc9 => ?_) (fun zc9 => ?_)
            · replace zhs := br_F zhs zc9
              obtain ⟨zv14, ze9, zhs⟩ := ltI_e zhs
              refine lv_iinc (v := zv14) (lv' := [(3, .int zv14), (2, .int zx1), (0, .ref (h 40)), (1, .int a1)]) zhx zhb dX8_numberIn_35 zhl (k := 0) rfl (by rw [ze9]; rfl) (by decide) rfl (fun zls zhl => ?_)
              clear ze9
              refine lv_goto (tgt := 4) zhx zhb dX8_numberIn_38 (by decide) ?_
              cases zhs
              exact zih zx1 zv14 zq (itk_l zhq) k4_41 zH zlocs zls zhl zhw
            · replace zhs := br_T zhs zc9
              obtain ⟨zv15, ze9, zhs⟩ := ltI_e zhs
              refine lv_iinc (v := zv15) (lv' := [(2, .int zv15), (3, .int zx2), (0, .ref (h 40)), (1, .int a1)]) zhx zhb dX8_numberIn_32 zhl (k := 1) rfl (by rw [ze9]; rfl) (by decide) rfl (fun zls zhl => ?_)
              clear ze9
              obtain ⟨zv16, ze9, zhs⟩ := ltI_e zhs
              refine lv_iinc (v := zv16) (lv' := [(3, .int zv16), (2, .int zv15), (0, .ref (h 40)), (1, .int a1)]) zhx zhb dX8_numberIn_35 zhl (k := 1) rfl (by rw [ze9]; rfl) (by decide) rfl (fun zls zhl => ?_)
              clear ze9
              refine lv_goto (tgt := 4) zhx zhb dX8_numberIn_38 (by decide) ?_
              cases zhs
              exact zih zv15 zv16 zq (itk_l zhq) k4_41 zH zlocs zls zhl zhw
  refine hloop17 N 0 0 zq17 zhq17 (fun zv18 zhqe zH zlocs zls zhl zhw => ?_) zH zlocs zls zhl zhw
  · subst zhqe
    refine lv_iload_n zhx zhb dX8_numberIn_41 rfl (lv_at zhl 0 rfl) ?_
    cases zhs
    exact zhret _ _ _ _ dX8_numberIn_42 (by rfl) zhw

-- OffFirst$Cells.roomOf in (23, ())
def sCells_roomOf_l (a1 : Int32) (M : Mm) : Option Int32 :=
  some (atf 6 (M 26) a1)
set_option maxHeartbeats 4000000 in
set_option maxRecDepth 100000 in
theorem cCells_roomOf_l (l : Launch) (D : va_G) (cI : ClassId) (h : Nat → Nat) (a1 : Int32) (M : Mm) (r : Int32) (zhs : sCells_roomOf_l a1 M = some r) : CtI l yX0_roomOf cX0_roomOf 2 (some .int) 2 D cI (wX h cI M) (wX h cI M) [.ref (h 23), .int a1] r := by
  unfold sCells_roomOf_l at zhs
  refine CtI_of (by decide +kernel) (Nat.le_of_ble_eq_true rfl) ⟨_, rfl⟩ ?_
  intro p e s m args below meth c A Q zls zH zlocs C zhw zhl zhret
  have zhx := C.1
  have zhb := C.2.1
  have zhown := C.2.2.2.2.1
  have zhtB := C.2.2.2.2.2.2.1
  have zhl : lv_has zls 2 [(0, .ref (h 23)), (1, .int a1)] := zhl
  refine lv_aload_n zhx zhb dX0_roomOf_0 rfl (lv_at zhl 0 rfl) ?_
  refine x_get C zhw inlX0 rfl 23 2 (by decide) kw_4_5 rfl (wX_c23 h cI M) rfl dX0_roomOf_1 ?_
  refine lv_iload_n zhx zhb dX0_roomOf_4 rfl (lv_at zhl 1 rfl) ?_
  refine x_cSNI (As := [.ref (h 26), .int a1]) (rest := []) C zhw zhl (c_at l D cI (wX h cI M) 26 6 (h 26) (M 26) (wX_c26 h cI M) (by decide) a1) (by decide) (by decide) (List.mem_of_getElem? (i := 16) rfl) kw_7_7 kw_1_2 kw_7_8 md_X11_at rfl rfl (Nat.le_of_ble_eq_true rfl) dX0_roomOf_5 (fun zH zlocs zhw hn9 => ?_)
  cases zhs
  exact zhret _ _ _ _ dX0_roomOf_8 (by rfl) zhw

-- OffFirst$Stock.putInto in (40, ())
def sStock_putInto (a1 : Int32) (a2 : Int32) (M : Mm) : Option Mm :=
  ltM (putf 10 M 42 a1 a2) fun zM1 =>
  some zM1
set_option maxHeartbeats 4000000 in
set_option maxRecDepth 100000 in
theorem cStock_putInto (l : Launch) (D : va_G) (cI : ClassId) (h : Nat → Nat) (a1 : Int32) (a2 : Int32) (M : Mm) (M' : Mm) (zhs : sStock_putInto a1 a2 M = some M') : CtV l yX8_putInto cX8_putInto 3 2 D cI (wX h cI M) (wX h cI M') [.ref (h 40), .int a1, .int a2] := by
  unfold sStock_putInto at zhs
  refine CtV_of (by decide +kernel) (Nat.le_of_ble_eq_true rfl) ?_
  intro p e s m args below meth c A Q zls zH zlocs C zhw zhl zhret
  have zhx := C.1
  have zhb := C.2.1
  have zhown := C.2.2.2.2.1
  have zhtB := C.2.2.2.2.2.2.1
  have zhl : lv_has zls 3 [(0, .ref (h 40)), (1, .int a1), (2, .int a2)] := zhl
  refine lv_aload_n zhx zhb dX8_putInto_0 rfl (lv_at zhl 0 rfl) ?_
  refine x_get C zhw inlX8 rfl 40 1 (by decide) kw_5_3 rfl (wX_c40 h cI M) rfl dX8_putInto_1 ?_
  refine lv_iload_n zhx zhb dX8_putInto_4 rfl (lv_at zhl 1 rfl) ?_
  refine lv_iload_n zhx zhb dX8_putInto_5 rfl (lv_at zhl 2 rfl) ?_
  refine x_cSNV (As := [.ref (h 42), .int a1, .int a2]) (rest := []) C zhw zhl (c_put l D cI (wX h cI) M 42 10 (h 42) (wX_c42 h cI M) (fun j v => wX_a42 h cI M j v) (by decide) a1 a2) (by decide) (by decide) (List.mem_of_getElem? (i := 10) rfl) kw_7_0 kw_1_2 kw_7_1 md_X11_put rfl rfl (Nat.le_of_ble_eq_true rfl) dX8_putInto_6 (fun zH zlocs zhw => ?_)
  obtain ⟨zM1, ze9, zhs⟩ := ltM_e zhs
  rw [← ze9] at zhw; clear ze9
  cases zhs
  exact zhret _ _ _ _ dX8_putInto_9 zhw

-- OffFirst.move in (0, ())
def sOff_move (N : Nat) (a1 : Int32) (a2 : Int32) (M : Mm) : Option (Int32 × Mm) :=
  (sFridge_hasFood a1 M).bind fun zv1 =>
  (if zv1 = 0 then some ((-1), M)
  else (sCells_has_l a2 M).bind fun zv2 =>
  (if zv2 = 0 then some ((-1), M)
  else (sStock_isThere a1 M).bind fun zv3 =>
  (if zv3 = 0 then some ((-2), M)
  else (sStock_cellOf a1 M).bind fun zv4 =>
  (if zv4 = a2 then some ((-2), M)
  else (sStock_numberIn N a2 M).bind fun zv5 =>
  (sCells_roomOf_l a2 M).bind fun zv6 =>
  (if zv5 < zv6 then (sStock_putInto a1 a2 M).bind fun zM7 =>
  (sStock_numberIn N a2 zM7).bind fun zv8 =>
  some (zv8, zM7)
  else some ((-2), M))))))
set_option maxHeartbeats 4000000 in
set_option maxRecDepth 100000 in
theorem cOff_move (l : Launch) (D : va_G) (cI : ClassId) (h : Nat → Nat) (N : Nat) (a1 : Int32) (a2 : Int32) (M : Mm) (r : Int32) (M' : Mm) (zhs : sOff_move N a1 a2 M = some (r, M')) : CtI l yX11_move cX11_move 3 (some .int) 4 D cI (wX h cI M) (wX h cI M') [.ref (h 0), .int a1, .int a2] r := by
  unfold sOff_move at zhs
  refine CtI_of (by decide +kernel) (Nat.le_of_ble_eq_true rfl) ⟨_, rfl⟩ ?_
  intro p e s m args below meth c A Q zls zH zlocs C zhw zhl zhret
  have zhx := C.1
  have zhb := C.2.1
  have zhown := C.2.2.2.2.1
  have zhtB := C.2.2.2.2.2.2.1
  have zhl : lv_has zls 3 [(0, .ref (h 0)), (1, .int a1), (2, .int a2)] := zhl
  refine lv_aload_n zhx zhb dX11_move_0 rfl (lv_at zhl 0 rfl) ?_
  refine x_get C zhw inlX11 rfl 0 7 (by decide) kw_2_7 rfl (wX_c0 h cI M) rfl dX11_move_1 ?_
  refine lv_iload_n zhx zhb dX11_move_4 rfl (lv_at zhl 1 rfl) ?_
  obtain ⟨zv1, zhp, zhs⟩ := bnd_e zhs
  refine x_cVI (As := [.int a1]) (rest := []) C zhw zhl (cFridge_hasFood l D cI h a1 M zv1 zhp) (by decide) (by decide) kw_18_3 kw_18_4 kw_18_5 kw_2_6 kw_18_6 md_X3_hasFood rfl 58 (wX_c58 h cI M) rfl rfl rfl rfl (Nat.le_of_ble_eq_true rfl) dX11_move_5 (fun zH zlocs zhw hzv1 => ?_)
  refine lv_if_eq (tgt := 25) zhx zhb dX11_move_8 (by decide) (fun zc9 => ?_) (fun zc9 => ?_)
  · replace zhs := br_T zhs zc9
    refine lv_iconst (v := (-1)) zhx zhb dX11_move_25 (by decide) ?_
    cases zhs
    exact zhret _ _ _ _ dX11_move_26 (by rfl) zhw
  · replace zhs := br_F zhs zc9
    refine lv_aload_n zhx zhb dX11_move_11 rfl (lv_at zhl 0 rfl) ?_
    refine x_get C zhw inlX11 rfl 0 2 (by decide) kw_1_21 rfl (wX_c0 h cI M) rfl dX11_move_12 ?_
    refine x_getN C zhw inlX10 rfl 22 0 (by decide) (List.mem_of_getElem? (i := 16) rfl) rfl (wX_c22 h cI M) rfl dX11_move_15 ?_
    refine lv_iload_n zhx zhb dX11_move_18 rfl (lv_at zhl 2 rfl) ?_
    obtain ⟨zv2, zhp, zhs⟩ := bnd_e zhs
    refine x_cVI (As := [.int a2]) (rest := []) C zhw zhl (cCells_has_l l D cI h a2 M zv2 zhp) (by decide) (by decide) kw_20_16 kw_14_5 kw_14_6 kw_3_11 kw_14_7 md_X0_has rfl 23 (wX_c23 h cI M) rfl rfl rfl rfl (Nat.le_of_ble_eq_true rfl) dX11_move_19 (fun zH zlocs zhw hzv2 => ?_)
    refine lv_if_ne (tgt := 27) zhx zhb dX11_move_22 (by decide) (fun zc9 => ?_) (fun zc9 => ?_)
    · replace zhs := br_F zhs zc9
      refine lv_aload_n zhx zhb dX11_move_27 rfl (lv_at zhl 0 rfl) ?_
      refine x_get C zhw inlX11 rfl 0 3 (by decide) kw_2_1 rfl (wX_c0 h cI M) rfl dX11_move_28 ?_
      refine lv_iload_n zhx zhb dX11_move_31 rfl (lv_at zhl 1 rfl) ?_
      obtain ⟨zv3, zhp, zhs⟩ := bnd_e zhs
      refine x_cVI (As := [.int a1]) (rest := []) C zhw zhl (cStock_isThere l D cI h a1 M zv3 zhp) (by decide) (by decide) kw_24_6 kw_22_2 kw_22_3 kw_2_0 kw_22_4 md_X8_isThere rfl 40 (wX_c40 h cI M) rfl rfl rfl rfl (Nat.le_of_ble_eq_true rfl) dX11_move_32 (fun zH zlocs zhw hzv3 => ?_)
      refine lv_if_eq (tgt := 72) zhx zhb dX11_move_35 (by decide) (fun zc9 => ?_) (fun zc9 => ?_)
      · replace zhs := br_T zhs zc9
        refine lv_bipush (v := (-2)) zhx zhb dX11_move_72 (by decide) ?_
        cases zhs
        exact zhret _ _ _ _ dX11_move_74 (by rfl) zhw
      · replace zhs := br_F zhs zc9
        refine lv_aload_n zhx zhb dX11_move_38 rfl (lv_at zhl 0 rfl) ?_
        refine x_get C zhw inlX11 rfl 0 3 (by decide) kw_2_1 rfl (wX_c0 h cI M) rfl dX11_move_39 ?_
        refine lv_iload_n zhx zhb dX11_move_42 rfl (lv_at zhl 1 rfl) ?_
        obtain ⟨zv4, zhp, zhs⟩ := bnd_e zhs
        refine x_cVI (As := [.int a1]) (rest := []) C zhw zhl (cStock_cellOf l D cI h a1 M zv4 zhp) (by decide) (by decide) kw_18_11 kw_18_12 kw_18_13 kw_2_0 kw_18_14 md_X8_cellOf rfl 40 (wX_c40 h cI M) rfl rfl rfl rfl (Nat.le_of_ble_eq_true rfl) dX11_move_43 (fun zH zlocs zhw hn9 => ?_)
        refine lv_iload_n zhx zhb dX11_move_46 rfl (lv_at zhl 2 rfl) ?_
        refine lv_icmp_eq (tgt := 72) zhx zhb dX11_move_47 (by decide) (fun zc9 => ?_) (fun zc9 => ?_)
        · replace zhs := br_T zhs zc9
          refine lv_bipush (v := (-2)) zhx zhb dX11_move_72 (by decide) ?_
          cases zhs
          exact zhret _ _ _ _ dX11_move_74 (by rfl) zhw
        · replace zhs := br_F zhs zc9
          refine lv_aload_n zhx zhb dX11_move_50 rfl (lv_at zhl 0 rfl) ?_
          refine x_get C zhw inlX11 rfl 0 3 (by decide) kw_2_1 rfl (wX_c0 h cI M) rfl dX11_move_51 ?_
          refine lv_iload_n zhx zhb dX11_move_54 rfl (lv_at zhl 2 rfl) ?_
          obtain ⟨zv5, zhp, zhs⟩ := bnd_e zhs
          refine x_cVI (As := [.int a2]) (rest := []) C zhw zhl (cStock_numberIn l D cI h N a2 M zv5 zhp) (by decide) (by decide) kw_24_7 kw_24_8 kw_24_9 kw_2_0 kw_24_10 md_X8_numberIn rfl 40 (wX_c40 h cI M) rfl rfl rfl rfl (Nat.le_of_ble_eq_true rfl) dX11_move_55 (fun zH zlocs zhw hn9 => ?_)
          refine lv_aload_n zhx zhb dX11_move_58 rfl (lv_at zhl 0 rfl) ?_
          refine x_get C zhw inlX11 rfl 0 2 (by decide) kw_1_21 rfl (wX_c0 h cI M) rfl dX11_move_59 ?_
          refine x_getN C zhw inlX10 rfl 22 0 (by decide) (List.mem_of_getElem? (i := 16) rfl) rfl (wX_c22 h cI M) rfl dX11_move_62 ?_
          refine lv_iload_n zhx zhb dX11_move_65 rfl (lv_at zhl 2 rfl) ?_
          obtain ⟨zv6, zhp, zhs⟩ := bnd_e zhs
          refine x_cVI (As := [.int a2]) (rest := [.int zv5]) C zhw zhl (cCells_roomOf_l l D cI h a2 M zv6 zhp) (by decide) (by decide) kw_24_12 kw_17_12 kw_17_13 kw_3_11 kw_17_14 md_X0_roomOf rfl 23 (wX_c23 h cI M) rfl rfl rfl rfl (Nat.le_of_ble_eq_true rfl) dX11_move_66 (fun zH zlocs zhw hn9 => ?_)
          refine lv_icmp_lt (tgt := 75) zhx zhb dX11_move_69 (by decide) (fun zc9 => ?_) (fun zc9 => ?_)
          · replace zhs := br_T zhs zc9
            refine lv_aload_n zhx zhb dX11_move_75 rfl (lv_at zhl 0 rfl) ?_
            refine x_get C zhw inlX11 rfl 0 3 (by decide) kw_2_1 rfl (wX_c0 h cI M) rfl dX11_move_76 ?_
            refine lv_iload_n zhx zhb dX11_move_79 rfl (lv_at zhl 1 rfl) ?_
            refine lv_iload_n zhx zhb dX11_move_80 rfl (lv_at zhl 2 rfl) ?_
            obtain ⟨zM7, zhp, zhs⟩ := bnd_e zhs
            refine x_cVV (As := [.int a1, .int a2]) (rest := []) C zhw zhl (cStock_putInto l D cI h a1 a2 M zM7 zhp) (by decide) (by decide) kw_24_13 kw_24_14 kw_24_15 kw_2_0 kw_24_16 md_X8_putInto rfl 40 (wX_c40 h cI M) rfl rfl rfl rfl (Nat.le_of_ble_eq_true rfl) dX11_move_81 (fun zH zlocs zhw => ?_)
            refine lv_aload_n zhx zhb dX11_move_84 rfl (lv_at zhl 0 rfl) ?_
            refine x_get C zhw inlX11 rfl 0 3 (by decide) kw_2_1 rfl (wX_c0 h cI zM7) rfl dX11_move_85 ?_
            refine lv_iload_n zhx zhb dX11_move_88 rfl (lv_at zhl 2 rfl) ?_
            obtain ⟨zv8, zhp, zhs⟩ := bnd_e zhs
            refine x_cVI (As := [.int a2]) (rest := []) C zhw zhl (cStock_numberIn l D cI h N a2 zM7 zv8 zhp) (by decide) (by decide) kw_24_7 kw_24_8 kw_24_9 kw_2_0 kw_24_10 md_X8_numberIn rfl 40 (wX_c40 h cI zM7) rfl rfl rfl rfl (Nat.le_of_ble_eq_true rfl) dX11_move_89 (fun zH zlocs zhw hn9 => ?_)
            cases zhs
            exact zhret _ _ _ _ dX11_move_92 (by rfl) zhw
          · replace zhs := br_F zhs zc9
            refine lv_bipush (v := (-2)) zhx zhb dX11_move_72 (by decide) ?_
            cases zhs
            exact zhret _ _ _ _ dX11_move_74 (by rfl) zhw
    · replace zhs := br_T zhs zc9
      refine lv_iconst (v := (-1)) zhx zhb dX11_move_25 (by decide) ?_
      cases zhs
      exact zhret _ _ _ _ dX11_move_26 (by rfl) zhw

