-- OffFirstModel.expectOf in (0, ())
def LRef_expectOf_49_28 (N : Nat) (a1 : Int32) (M : Mm) (zv6 : Int32) (zx8 : Int32) (zx9 : Int32) : Option ((Int32 × Int32) ⊕ ((Int32))) :=
  rdc 2 (M 18) 0 fun zv19 =>
  (if zv19 ≤ zx9 then some (.inr zx8)
  else rdc 12 (M 19) zx9 fun zv20 =>
  (((if zv20 ≤ a1 then some 0
  else rdc 12 (M 19) zx9 fun zv24 =>
  some (zv24 - a1)) : Option (Int32))).bind fun zv22 =>
  rdc 12 (M 20) zx9 fun zv25 =>
  ltI (zx8 + (zv25 * (zv6 + (15 * zv22)))) fun zv26 =>
  ltI (zx9 + 1) fun zv27 =>
  some (.inl (zv26, zv27)))
def sRef_expectOf (N : Nat) (a1 : Int32) (M : Mm) : Option Int32 :=
  rdc 6 (M 21) 0 fun zv1 =>
  ltI (a1 * zv1) fun zv2 =>
  rdc 6 (M 21) 1 fun zv3 =>
  rdc 6 (M 21) 0 fun zv4 =>
  ltI (((a1 / 2) * zv3) + ((remI a1 2) * zv4)) fun zv5 =>
  (((if zv5 ≤ zv2 then some zv5
  else some zv2) : Option (Int32))).bind fun zv6 =>
  (itr (fun z : Int32 × Int32 => LRef_expectOf_49_28 N a1 M zv6 z.1 z.2) N (0, 0)).bind fun zv29 =>
  some zv29
set_option maxHeartbeats 4000000 in
set_option maxRecDepth 100000 in
theorem cRef_expectOf (l : Launch) (D : va_G) (cI : ClassId) (h : Nat → Nat) (N : Nat) (a1 : Int32) (M : Mm) (r : Int32) (zhs : sRef_expectOf N a1 M = some r) : CtI l yX12_expectOf cX12_expectOf 8 (some .int) 1 D cI (wR h cI M) (wR h cI M) [.ref (h 0), .int a1] r := by
  unfold sRef_expectOf at zhs
  refine CtI_of (by decide +kernel) (Nat.le_of_ble_eq_true rfl) ⟨_, rfl⟩ ?_
  intro p e s m args below meth c A Q zls zH zlocs C zhw zhl zhret
  have zhx := C.1
  have zhb := C.2.1
  have zhown := C.2.2.2.2.1
  have zhtB := C.2.2.2.2.2.2.1
  have zhl : lv_has zls 8 [(0, .ref (h 0)), (1, .int a1)] := zhl
  refine lv_iload_n zhx zhb dX12_expectOf_0 rfl (lv_at zhl 1 rfl) ?_
  refine lv_aload_n zhx zhb dX12_expectOf_1 rfl (lv_at zhl 0 rfl) ?_
  refine x_get C zhw inlX12 rfl 0 21 (by decide) kw_8_23 rfl (wR_c0 h cI M) rfl dX12_expectOf_2 ?_
  refine lv_iconst (v := 0) zhx zhb dX12_expectOf_5 (by decide) ?_
  obtain ⟨zv1, ze9, zhi, zhs⟩ := rdc_v zhs
  refine x_iald C zhw 21 (wR_c21 h cI M) zhi dX12_expectOf_6 ?_
  refine lv_topi (fun zy9 ze8 => ?_)
  obtain rfl : zv1 = zy9 := ze9.trans ze8.symm
  clear ze9 ze8
  refine lv_imul zhx zhb dX12_expectOf_7 ?_
  obtain ⟨zv2, ze9, zhs⟩ := ltI_e zhs
  refine lv_topi (fun zy9 ze8 => ?_)
  obtain rfl : zv2 = zy9 := ze9.trans ze8.symm
  clear ze9 ze8
  refine lv_istore_n (lv' := [(2, .int zv2), (0, .ref (h 0)), (1, .int a1)]) zhx zhb dX12_expectOf_8 rfl zhl (by decide) rfl (fun zls zhl => ?_)
  refine lv_iload_n zhx zhb dX12_expectOf_9 rfl (lv_at zhl 2 rfl) ?_
  refine lv_iconst (v := 2) zhx zhb dX12_expectOf_10 (by decide) ?_
  refine lv_idiv zhx zhb dX12_expectOf_11 (by decide) ?_
  refine lv_aload_n zhx zhb dX12_expectOf_12 rfl (lv_at zhl 1 rfl) ?_
  refine x_get C zhw inlX12 rfl 0 21 (by decide) kw_8_23 rfl (wR_c0 h cI M) rfl dX12_expectOf_13 ?_
  refine lv_iconst (v := 1) zhx zhb dX12_expectOf_16 (by decide) ?_
  obtain ⟨zv3, ze9, zhi, zhs⟩ := rdc_v zhs
  refine x_iald C zhw 21 (wR_c21 h cI M) zhi dX12_expectOf_17 ?_
  refine lv_topi (fun zy9 ze8 => ?_)
  obtain rfl : zv3 = zy9 := ze9.trans ze8.symm
  clear ze9 ze8
  refine lv_imul zhx zhb dX12_expectOf_18 ?_
  refine lv_iload_n zhx zhb dX12_expectOf_19 rfl (lv_at zhl 2 rfl) ?_
  refine lv_iconst (v := 2) zhx zhb dX12_expectOf_20 (by decide) ?_
  refine lv_irem zhx zhb dX12_expectOf_21 (by decide) ?_
  refine lv_aload_n zhx zhb dX12_expectOf_22 rfl (lv_at zhl 1 rfl) ?_
  refine x_get C zhw inlX12 rfl 0 21 (by decide) kw_8_23 rfl (wR_c0 h cI M) rfl dX12_expectOf_23 ?_
  refine lv_iconst (v := 0) zhx zhb dX12_expectOf_26 (by decide) ?_
  obtain ⟨zv4, ze9, zhi, zhs⟩ := rdc_v zhs
  refine x_iald C zhw 21 (wR_c21 h cI M) zhi dX12_expectOf_27 ?_
  refine lv_topi (fun zy9 ze8 => ?_)
  obtain rfl : zv4 = zy9 := ze9.trans ze8.symm
  clear ze9 ze8
  refine lv_imul zhx zhb dX12_expectOf_28 ?_
  refine lv_iadd zhx zhb dX12_expectOf_29 ?_
  obtain ⟨zv5, ze9, zhs⟩ := ltI_e zhs
  refine lv_topi (fun zy9 ze8 => ?_)
  obtain rfl : zv5 = zy9 := ze9.trans ze8.symm
  clear ze9 ze8
  refine lv_istore_n (lv' := [(3, .int zv5), (2, .int zv2), (0, .ref (h 0)), (1, .int a1)]) zhx zhb dX12_expectOf_30 rfl zhl (by decide) rfl (fun zls zhl => ?_)
  refine lv_iload_n zhx zhb dX12_expectOf_31 rfl (lv_at zhl 1 rfl) ?_
  refine lv_iload_n zhx zhb dX12_expectOf_32 rfl (lv_at zhl 0 rfl) ?_
  obtain ⟨zv6, zhq, zhs⟩ := bnd_e zhs
  have hJ7 : ∀ (zH : Heap) (zlocs : List Loc) (zls : Array Slot), lv_has zls 8 [(0, .ref (h 0)), (1, .int a1)] → Hw D (wR h cI M) A s.heap zH zlocs → W p l e (RM 1) s m args below meth c zH zlocs 0 0 Q (F0 m 41 zls [.int zv6]) := by
    intro zH zlocs zls zhl zhw
    refine lv_istore (lv' := [(4, .int zv6), (0, .ref (h 0)), (1, .int a1)]) zhx zhb dX12_expectOf_41 zhl (by decide) rfl (fun zls zhl => ?_)
    refine lv_iconst (v := 0) zhx zhb dX12_expectOf_43 (by decide) ?_
    refine lv_istore (lv' := [(5, .int 0), (4, .int zv6), (0, .ref (h 0)), (1, .int a1)]) zhx zhb dX12_expectOf_44 zhl (by decide) rfl (fun zls zhl => ?_)
    refine lv_iconst (v := 0) zhx zhb dX12_expectOf_46 (by decide) ?_
    refine lv_istore (lv' := [(6, .int 0), (5, .int 0), (4, .int zv6), (0, .ref (h 0)), (1, .int a1)]) zhx zhb dX12_expectOf_47 zhl (by decide) rfl (fun zls zhl => ?_)
    obtain ⟨zq28, zhq28, zhs⟩ := bnd_e zhs
    have hloop28 : ∀ (zn : Nat) (zx8 : Int32) (zx9 : Int32) (zq : (Int32)), itr (fun z : Int32 × Int32 => LRef_expectOf_49_28 N a1 M zv6 z.1 z.2) zn (zx8, zx9) = some zq → (∀ (zy1 : Int32), zy1 = zq → ∀ (zH : Heap) (zlocs : List Loc) (zls : Array Slot), lv_has zls 8 [(5, .int zy1)] → Hw D (wR h cI M) A s.heap zH zlocs → W p l e (RM 1) s m args below meth c zH zlocs 0 0 Q (F0 m 113 zls [])) → ∀ (zH : Heap) (zlocs : List Loc) (zls : Array Slot), lv_has zls 8 [(6, .int zx9), (5, .int zx8), (4, .int zv6), (0, .ref (h 0)), (1, .int a1)] → Hw D (wR h cI M) A s.heap zH zlocs → W p l e (RM 1) s m args below meth c zH zlocs 0 0 Q (F0 m 49 zls []) := by
      intro zn
      induction zn with
      | zero => intro zx8 zx9 zq zhq; exact absurd zhq (fun h9 => itr_0 h9)
      | succ zn zih =>
          intro zx8 zx9 zq zhq k49_113 zH zlocs zls zhl zhw
          obtain ⟨zy9, zhs, zhq⟩ := itr_s zhq
          replace zhs : LRef_expectOf_49_28 N a1 M zv6 zx8 zx9 = some zy9 := zhs
          unfold LRef_expectOf_49_28 at zhs
          refine lv_iload zhx zhb dX12_expectOf_49 (lv_at zhl 0 rfl) ?_
          refine lv_aload_n zhx zhb dX12_expectOf_51 rfl (lv_at zhl 3 rfl) ?_
          refine x_get C zhw inlX12 rfl 0 18 (by decide) kw_8_20 rfl (wR_c0 h cI M) rfl dX12_expectOf_52 ?_
          refine lv_iconst (v := 0) zhx zhb dX12_expectOf_55 (by decide) ?_
          obtain ⟨zv19, ze9, zhi, zhs⟩ := rdc_v zhs
          refine x_iald C zhw 18 (wR_c18 h cI M) zhi dX12_expectOf_56 ?_
          refine lv_topi (fun zy9 ze8 => ?_)
          obtain rfl : zv19 = zy9 := ze9.trans ze8.symm
          clear ze9 ze8
          refine lv_icmp_ge (tgt := 113) zhx zhb dX12_expectOf_57 (by decide) (fun zc9 => ?_) (fun zc9 => ?_)
          · replace zhs := br_T zhs zc9
            cases zhs
            exact k49_113 zx8 (itk_q zhq) zH zlocs zls (lv_sub zhl [1] rfl) zhw
          · replace zhs := br_F zhs zc9
            refine lv_aload_n zhx zhb dX12_expectOf_60 rfl (lv_at zhl 3 rfl) ?_
            refine x_get C zhw inlX12 rfl 0 19 (by decide) kw_8_21 rfl (wR_c0 h cI M) rfl dX12_expectOf_61 ?_
            refine lv_iload zhx zhb dX12_expectOf_64 (lv_at zhl 0 rfl) ?_
            obtain ⟨zv20, ze9, zhi, zhs⟩ := rdc_v zhs
            refine x_iald C zhw 19 (wR_c19 h cI M) zhi dX12_expectOf_66 ?_
            refine lv_topi (fun zy9 ze8 => ?_)
            obtain rfl : zv20 = zy9 := ze9.trans ze8.symm
            clear ze9 ze8
            refine lv_iload_n zhx zhb dX12_expectOf_67 rfl (lv_at zhl 4 rfl) ?_
            obtain ⟨zv22, zhq, zhs⟩ := bnd_e zhs
            have hJ23 : ∀ (zH : Heap) (zlocs : List Loc) (zls : Array Slot), lv_has zls 8 [(6, .int zx9), (5, .int zx8), (4, .int zv6), (0, .ref (h 0)), (1, .int a1)] → Hw D (wR h cI M) A s.heap zH zlocs → W p l e (RM 1) s m args below meth c zH zlocs 0 0 Q (F0 m 84 zls [.int zv22]) := by
              intro zH zlocs zls zhl zhw
              refine lv_istore (lv' := [(7, .int zv22), (6, .int zx9), (5, .int zx8), (4, .int zv6), (0, .ref (h 0)), (1, .int a1)]) zhx zhb dX12_expectOf_84 zhl (by decide) rfl (fun zls zhl => ?_)
              refine lv_iload zhx zhb dX12_expectOf_86 (lv_at zhl 2 rfl) ?_
              refine lv_aload_n zhx zhb dX12_expectOf_88 rfl (lv_at zhl 4 rfl) ?_
              refine x_get C zhw inlX12 rfl 0 20 (by decide) kw_8_22 rfl (wR_c0 h cI M) rfl dX12_expectOf_89 ?_
              refine lv_iload zhx zhb dX12_expectOf_92 (lv_at zhl 1 rfl) ?_
              obtain ⟨zv25, ze9, zhi, zhs⟩ := rdc_v zhs
              refine x_iald C zhw 20 (wR_c20 h cI M) zhi dX12_expectOf_94 ?_
              refine lv_topi (fun zy9 ze8 => ?_)
              obtain rfl : zv25 = zy9 := ze9.trans ze8.symm
              clear ze9 ze8
              refine lv_iload zhx zhb dX12_expectOf_95 (lv_at zhl 3 rfl) ?_
              refine lv_bipush (v := 15) zhx zhb dX12_expectOf_97 (by decide) ?_
              refine lv_iload zhx zhb dX12_expectOf_99 (lv_at zhl 0 rfl) ?_
              refine lv_imul zhx zhb dX12_expectOf_101 ?_
              refine lv_iadd zhx zhb dX12_expectOf_102 ?_
              refine lv_imul zhx zhb dX12_expectOf_103 ?_
              refine lv_iadd zhx zhb dX12_expectOf_104 ?_
              obtain ⟨zv26, ze9, zhs⟩ := ltI_e zhs
              refine lv_topi (fun zy9 ze8 => ?_)
              obtain rfl : zv26 = zy9 := ze9.trans ze8.symm
              clear ze9 ze8
              refine lv_istore (lv' := [(5, .int zv26), (7, .int zv22), (6, .int zx9), (4, .int zv6), (0, .ref (h 0)), (1, .int a1)]) zhx zhb dX12_expectOf_105 zhl (by decide) rfl (fun zls zhl => ?_)
              obtain ⟨zv27, ze9, zhs⟩ := ltI_e zhs
              refine lv_iinc (v := zv27) (lv' := [(6, .int zv27), (5, .int zv26), (7, .int zv22), (4, .int zv6), (0, .ref (h 0)), (1, .int a1)]) zhx zhb dX12_expectOf_107 zhl (k := 2) rfl (by rw [ze9]; rfl) (by decide) rfl (fun zls zhl => ?_)
              clear ze9
              refine lv_goto (tgt := 49) zhx zhb dX12_expectOf_110 (by decide) ?_
              cases zhs
              exact zih zv26 zv27 zq (itk_l zhq) k49_113 zH zlocs zls (lv_sub zhl [0, 1, 3, 4, 5] rfl) zhw
            replace zhs := zhq
            clear zhq
            refine lv_icmp_le (tgt := 83) zhx zhb dX12_expectOf_68 (by decide) (fun zc9 => ?_) (fun zc9 => ?_)
            · replace zhs := br_T zhs zc9
              refine lv_iconst (v := 0) zhx zhb dX12_expectOf_83 (by decide) ?_
              cases zhs
              exact hJ23 zH zlocs zls zhl zhw
            · replace zhs := br_F zhs zc9
              refine lv_aload_n zhx zhb dX12_expectOf_71 rfl (lv_at zhl 3 rfl) ?_
              refine x_get C zhw inlX12 rfl 0 19 (by decide) kw_8_21 rfl (wR_c0 h cI M) rfl dX12_expectOf_72 ?_
              refine lv_iload zhx zhb dX12_expectOf_75 (lv_at zhl 0 rfl) ?_
              obtain ⟨zv24, ze9, zhi, zhs⟩ := rdc_v zhs
              refine x_iald C zhw 19 (wR_c19 h cI M) zhi dX12_expectOf_77 ?_
              refine lv_topi (fun zy9 ze8 => ?_)
              obtain rfl : zv24 = zy9 := ze9.trans ze8.symm
              clear ze9 ze8
              refine lv_iload_n zhx zhb dX12_expectOf_78 rfl (lv_at zhl 4 rfl) ?_
              refine lv_isub zhx zhb dX12_expectOf_79 ?_
              refine lv_goto (tgt := 84) zhx zhb dX12_expectOf_80 (by decide) ?_
              cases zhs
              exact hJ23 zH zlocs zls zhl zhw
    refine hloop28 N 0 0 zq28 zhq28 (fun zv29 zhqe zH zlocs zls zhl zhw => ?_) zH zlocs zls zhl zhw
    · subst zhqe
      refine lv_iload zhx zhb dX12_expectOf_113 (lv_at zhl 0 rfl) ?_
      cases zhs
      exact zhret _ _ _ _ dX12_expectOf_115 (by rfl) zhw
  replace zhs := zhq
  clear zhq
  refine lv_icmp_ge (tgt := 40) zhx zhb dX12_expectOf_33 (by decide) (fun zc9 => ?_) (fun zc9 => ?_)
  · replace zhs := br_T zhs zc9
    refine lv_iload_n zhx zhb dX12_expectOf_40 rfl (lv_at zhl 0 rfl) ?_
    cases zhs
    exact hJ7 zH zlocs zls (lv_sub zhl [2, 3] rfl) zhw
  · replace zhs := br_F zhs zc9
    refine lv_iload_n zhx zhb dX12_expectOf_36 rfl (lv_at zhl 1 rfl) ?_
    refine lv_goto (tgt := 41) zhx zhb dX12_expectOf_37 (by decide) ?_
    cases zhs
    exact hJ7 zH zlocs zls (lv_sub zhl [2, 3] rfl) zhw

-- OffFirstModel.expect in (0, ())
def sRef_expect (N : Nat) (a1 : Int32) (M : Mm) : Option Int32 :=
  (sRef_in (Int32.toInt64 a1) 0 9).bind fun zv1 =>
  (if zv1 = 0 then some (-1)
  else rdc 2 (M 18) 0 fun zv2 =>
  (if zv2 = 0 then some (-4)
  else (sRef_expectOf N a1 M).bind fun zv4 =>
  some zv4))
set_option maxHeartbeats 4000000 in
set_option maxRecDepth 100000 in
theorem cRef_expect (l : Launch) (D : va_G) (cI : ClassId) (h : Nat → Nat) (N : Nat) (a1 : Int32) (M : Mm) (r : Int32) (zhs : sRef_expect N a1 M = some r) : CtI l yX12_expect cX12_expect 2 (some .int) 2 D cI (wR h cI M) (wR h cI M) [.ref (h 0), .int a1] r := by
  unfold sRef_expect at zhs
  refine CtI_of (by decide +kernel) (Nat.le_of_ble_eq_true rfl) ⟨_, rfl⟩ ?_
  intro p e s m args below meth c A Q zls zH zlocs C zhw zhl zhret
  have zhx := C.1
  have zhb := C.2.1
  have zhown := C.2.2.2.2.1
  have zhtB := C.2.2.2.2.2.2.1
  have zhl : lv_has zls 2 [(0, .ref (h 0)), (1, .int a1)] := zhl
  refine lv_iload_n zhx zhb dX12_expect_0 rfl (lv_at zhl 1 rfl) ?_
  refine lv_i2l zhx zhb dX12_expect_1 rfl ?_
  refine lv_lconst (v := 0) zhx zhb dX12_expect_2 (by decide) ?_
  refine lv_ldc2 zhx zhb zhown (zhtB _ kw_37_0) dX12_expect_3 ?_
  obtain ⟨zv1, zhp, zhs⟩ := bnd_e zhs
  refine x_cSI (As := [.long (Int32.toInt64 a1), .long 0, .long 9]) (rest := []) C zhw zhl (cRef_in l D cI h (Int32.toInt64 a1) 0 9 M zv1 zhp) (by decide) (by decide) kw_10_14 kw_10_15 kw_1_5 kw_10_16 md_X12_in rfl rfl (Nat.le_of_ble_eq_true rfl) dX12_expect_6 (fun zH zlocs zhw hzv1 => ?_)
  refine lv_if_ne (tgt := 14) zhx zhb dX12_expect_9 (by decide) (fun zc9 => ?_) (fun zc9 => ?_)
  · replace zhs := br_F zhs zc9
    refine lv_aload_n zhx zhb dX12_expect_14 rfl (lv_at zhl 0 rfl) ?_
    refine x_get C zhw inlX12 rfl 0 18 (by decide) kw_8_20 rfl (wR_c0 h cI M) rfl dX12_expect_15 ?_
    refine lv_iconst (v := 0) zhx zhb dX12_expect_18 (by decide) ?_
    obtain ⟨zv2, ze9, zhi, zhs⟩ := rdc_v zhs
    refine x_iald C zhw 18 (wR_c18 h cI M) zhi dX12_expect_19 ?_
    refine lv_topi (fun zy9 ze8 => ?_)
    obtain rfl : zv2 = zy9 := ze9.trans ze8.symm
    clear ze9 ze8
    refine lv_if_ne (tgt := 28) zhx zhb dX12_expect_20 (by decide) (fun zc9 => ?_) (fun zc9 => ?_)
    · replace zhs := br_F zhs zc9
      refine lv_aload_n zhx zhb dX12_expect_28 rfl (lv_at zhl 0 rfl) ?_
      refine lv_iload_n zhx zhb dX12_expect_29 rfl (lv_at zhl 1 rfl) ?_
      obtain ⟨zv4, zhp, zhs⟩ := bnd_e zhs
      refine x_cVI (As := [.int a1]) (rest := []) C zhw zhl (cRef_expectOf l D cI h N a1 M zv4 zhp) (by decide) (by decide) kw_37_1 kw_37_2 kw_37_3 kw_1_5 kw_37_4 md_X12_expectOf rfl 0 (wR_c0 h cI M) rfl rfl rfl rfl (Nat.le_of_ble_eq_true rfl) dX12_expect_30 (fun zH zlocs zhw hn9 => ?_)
      cases zhs
      exact zhret _ _ _ _ dX12_expect_33 (by rfl) zhw
    · replace zhs := br_T zhs zc9
      refine lv_bipush (v := (-4)) zhx zhb dX12_expect_23 (by decide) ?_
      refine lv_goto (tgt := 33) zhx zhb dX12_expect_25 (by decide) ?_
      cases zhs
      exact zhret _ _ _ _ dX12_expect_33 (by rfl) zhw
  · replace zhs := br_T zhs zc9
    refine lv_iconst (v := (-1)) zhx zhb dX12_expect_12 (by decide) ?_
    cases zhs
    exact zhret _ _ _ _ dX12_expect_13 (by rfl) zhw

-- OffFirstModel.buy in (0, ())
def LRef_buy_4_11 (N : Nat) (M : Mm) (zx1 : Int32) (zx2 : Int32) : Option ((Int32 × Int32) ⊕ ((Int32))) :=
  (if 10 ≤ zx2 then some (.inr zx1)
  else (sRef_expectOf N zx2 M).bind fun zv7 =>
  (sRef_expectOf N zx1 M).bind fun zv8 =>
  (if zv8 ≤ zv7 then ltI (zx2 + 1) fun zv9 =>
  some (.inl (zx1, zv9))
  else ltI (zx2 + 1) fun zv10 =>
  some (.inl (zx2, zv10))))
def sRef_buy (N : Nat) (M : Mm) : Option Int32 :=
  (itr (fun z : Int32 × Int32 => LRef_buy_4_11 N M z.1 z.2) N (0, 1)).bind fun zv12 =>
  rdc 2 (M 18) 0 fun zv13 =>
  (if zv13 = 0 then some (-4)
  else some zv12)
set_option maxHeartbeats 4000000 in
set_option maxRecDepth 100000 in
theorem cRef_buy (l : Launch) (D : va_G) (cI : ClassId) (h : Nat → Nat) (N : Nat) (M : Mm) (r : Int32) (zhs : sRef_buy N M = some r) : CtI l yX12_buy cX12_buy 3 (some .int) 2 D cI (wR h cI M) (wR h cI M) [.ref (h 0)] r := by
  unfold sRef_buy at zhs
  refine CtI_of (by decide +kernel) (Nat.le_of_ble_eq_true rfl) ⟨_, rfl⟩ ?_
  intro p e s m args below meth c A Q zls zH zlocs C zhw zhl zhret
  have zhx := C.1
  have zhb := C.2.1
  have zhown := C.2.2.2.2.1
  have zhtB := C.2.2.2.2.2.2.1
  have zhl : lv_has zls 3 [(0, .ref (h 0))] := zhl
  refine lv_iconst (v := 0) zhx zhb dX12_buy_0 (by decide) ?_
  refine lv_istore_n (lv' := [(1, .int 0), (0, .ref (h 0))]) zhx zhb dX12_buy_1 rfl zhl (by decide) rfl (fun zls zhl => ?_)
  refine lv_iconst (v := 1) zhx zhb dX12_buy_2 (by decide) ?_
  refine lv_istore_n (lv' := [(2, .int 1), (1, .int 0), (0, .ref (h 0))]) zhx zhb dX12_buy_3 rfl zhl (by decide) rfl (fun zls zhl => ?_)
  obtain ⟨zq11, zhq11, zhs⟩ := bnd_e zhs
  have hloop11 : ∀ (zn : Nat) (zx1 : Int32) (zx2 : Int32) (zq : (Int32)), itr (fun z : Int32 × Int32 => LRef_buy_4_11 N M z.1 z.2) zn (zx1, zx2) = some zq → (∀ (zy1 : Int32), zy1 = zq → ∀ (zH : Heap) (zlocs : List Loc) (zls : Array Slot), lv_has zls 3 [(1, .int zy1), (0, .ref (h 0))] → Hw D (wR h cI M) A s.heap zH zlocs → W p l e (RM 2) s m args below meth c zH zlocs 0 0 Q (F0 m 35 zls [])) → ∀ (zH : Heap) (zlocs : List Loc) (zls : Array Slot), lv_has zls 3 [(2, .int zx2), (1, .int zx1), (0, .ref (h 0))] → Hw D (wR h cI M) A s.heap zH zlocs → W p l e (RM 2) s m args below meth c zH zlocs 0 0 Q (F0 m 4 zls []) := by
    intro zn
    induction zn with
    | zero => intro zx1 zx2 zq zhq; exact absurd zhq (fun h9 => itr_0 h9)
    | succ zn zih =>
        intro zx1 zx2 zq zhq k4_35 zH zlocs zls zhl zhw
        obtain ⟨zy9, zhs, zhq⟩ := itr_s zhq
        replace zhs : LRef_buy_4_11 N M zx1 zx2 = some zy9 := zhs
        unfold LRef_buy_4_11 at zhs
        refine lv_iload_n zhx zhb dX12_buy_4 rfl (lv_at zhl 0 rfl) ?_
        refine lv_bipush (v := 10) zhx zhb dX12_buy_5 (by decide) ?_
        refine lv_icmp_ge (tgt := 35) zhx zhb dX12_buy_7 (by decide) (fun zc9 => ?_) (fun zc9 => ?_)
        · replace zhs := br_T zhs zc9
          cases zhs
          exact k4_35 zx1 (itk_q zhq) zH zlocs zls (lv_sub zhl [1, 2] rfl) zhw
        · replace zhs := br_F zhs zc9
          refine lv_aload_n zhx zhb dX12_buy_10 rfl (lv_at zhl 2 rfl) ?_
          refine lv_iload_n zhx zhb dX12_buy_11 rfl (lv_at zhl 0 rfl) ?_
          obtain ⟨zv7, zhp, zhs⟩ := bnd_e zhs
          refine x_cVI (As := [.int zx2]) (rest := []) C zhw zhl (cRef_expectOf l D cI h N zx2 M zv7 zhp) (by decide) (by decide) kw_37_1 kw_37_2 kw_37_3 kw_1_5 kw_37_4 md_X12_expectOf rfl 0 (wR_c0 h cI M) rfl rfl rfl rfl (Nat.le_of_ble_eq_true rfl) dX12_buy_12 (fun zH zlocs zhw hn9 => ?_)
          refine lv_aload_n zhx zhb dX12_buy_15 rfl (lv_at zhl 2 rfl) ?_
          refine lv_iload_n zhx zhb dX12_buy_16 rfl (lv_at zhl 1 rfl) ?_
          obtain ⟨zv8, zhp, zhs⟩ := bnd_e zhs
          refine x_cVI (As := [.int zx1]) (rest := [.int zv7]) C zhw zhl (cRef_expectOf l D cI h N zx1 M zv8 zhp) (by decide) (by decide) kw_37_1 kw_37_2 kw_37_3 kw_1_5 kw_37_4 md_X12_expectOf rfl 0 (wR_c0 h cI M) rfl rfl rfl rfl (Nat.le_of_ble_eq_true rfl) dX12_buy_17 (fun zH zlocs zhw hn9 => ?_)
          refine lv_icmp_ge (tgt := 27) zhx zhb dX12_buy_20 (by decide) (fun zc9 => ?_) (fun zc9 => ?_)
          · replace zhs := br_T zhs zc9
            refine lv_iload_n zhx zhb dX12_buy_27 rfl (lv_at zhl 1 rfl) ?_
            refine lv_istore_n (lv' := [(1, .int zx1), (2, .int zx2), (0, .ref (h 0))]) zhx zhb dX12_buy_28 rfl zhl (by decide) rfl (fun zls zhl => ?_)
            obtain ⟨zv9, ze9, zhs⟩ := ltI_e zhs
            refine lv_iinc (v := zv9) (lv' := [(2, .int zv9), (1, .int zx1), (0, .ref (h 0))]) zhx zhb dX12_buy_29 zhl (k := 1) rfl (by rw [ze9]; rfl) (by decide) rfl (fun zls zhl => ?_)
            clear ze9
            refine lv_goto (tgt := 4) zhx zhb dX12_buy_32 (by decide) ?_
            cases zhs
            exact zih zx1 zv9 zq (itk_l zhq) k4_35 zH zlocs zls zhl zhw
          · replace zhs := br_F zhs zc9
            refine lv_iload_n zhx zhb dX12_buy_23 rfl (lv_at zhl 0 rfl) ?_
            refine lv_goto (tgt := 28) zhx zhb dX12_buy_24 (by decide) ?_
            refine lv_istore_n (lv' := [(1, .int zx2), (2, .int zx2), (0, .ref (h 0))]) zhx zhb dX12_buy_28 rfl zhl (by decide) rfl (fun zls zhl => ?_)
            obtain ⟨zv10, ze9, zhs⟩ := ltI_e zhs
            refine lv_iinc (v := zv10) (lv' := [(2, .int zv10), (1, .int zx2), (0, .ref (h 0))]) zhx zhb dX12_buy_29 zhl (k := 1) rfl (by rw [ze9]; rfl) (by decide) rfl (fun zls zhl => ?_)
            clear ze9
            refine lv_goto (tgt := 4) zhx zhb dX12_buy_32 (by decide) ?_
            cases zhs
            exact zih zx2 zv10 zq (itk_l zhq) k4_35 zH zlocs zls zhl zhw
  refine hloop11 N 0 1 zq11 zhq11 (fun zv12 zhqe zH zlocs zls zhl zhw => ?_) zH zlocs zls zhl zhw
  · subst zhqe
    refine lv_aload_n zhx zhb dX12_buy_35 rfl (lv_at zhl 1 rfl) ?_
    refine x_get C zhw inlX12 rfl 0 18 (by decide) kw_8_20 rfl (wR_c0 h cI M) rfl dX12_buy_36 ?_
    refine lv_iconst (v := 0) zhx zhb dX12_buy_39 (by decide) ?_
    obtain ⟨zv13, ze9, zhi, zhs⟩ := rdc_v zhs
    refine x_iald C zhw 18 (wR_c18 h cI M) zhi dX12_buy_40 ?_
    refine lv_topi (fun zy9 ze8 => ?_)
    obtain rfl : zv13 = zy9 := ze9.trans ze8.symm
    clear ze9 ze8
    refine lv_if_ne (tgt := 49) zhx zhb dX12_buy_41 (by decide) (fun zc9 => ?_) (fun zc9 => ?_)
    · replace zhs := br_F zhs zc9
      refine lv_iload_n zhx zhb dX12_buy_49 rfl (lv_at zhl 0 rfl) ?_
      cases zhs
      exact zhret _ _ _ _ dX12_buy_50 (by rfl) zhw
    · replace zhs := br_T zhs zc9
      refine lv_bipush (v := (-4)) zhx zhb dX12_buy_44 (by decide) ?_
      refine lv_goto (tgt := 50) zhx zhb dX12_buy_46 (by decide) ?_
      cases zhs
      exact zhret _ _ _ _ dX12_buy_50 (by rfl) zhw

-- OffFirstModel.print in (0, ())
def LRef_print_16_32 (N : Nat) (a1 : Int32) (M : Mm) (zx2 : Int32) (zx3 : Int32) : Option ((Int32 × Int32) ⊕ ((Int32))) :=
  rdc 2 (M 7) 0 fun zv18 =>
  (if zv18 ≤ zx3 then some (.inr zx2)
  else rdc 4 (M 27) 0 fun zv19 =>
  rdc 20 (M 12) zx3 fun zv20 =>
  (((if (zv19 / 24) ≤ zv20 then some 0
  else some 1) : Option (Int32))).bind fun zv21 =>
  rdc 40 (M 25) zx3 fun zv23 =>
  (((if zv23 = 0 then (if a1 = 0 then (if zv21 = 0 then some 0
  else (sRef_isOff zx3 M).bind fun zv29 =>
  (if zv29 = 0 then some 1
  else some 0))
  else (if zv21 = 0 then (sRef_isOff zx3 M).bind fun zv28 =>
  (if zv28 = 0 then some 0
  else some 1)
  else some 0))
  else some 0) : Option (Int32))).bind fun zv26 =>
  ltI (zx2 + zv26) fun zv30 =>
  ltI (zx3 + 1) fun zv31 =>
  some (.inl (zv30, zv31)))
def sRef_print (N : Nat) (a1 : Int32) (M : Mm) : Option Int32 :=
  (sRef_in (Int32.toInt64 a1) 0 1).bind fun zv1 =>
  (if zv1 = 0 then some (-1)
  else (itr (fun z : Int32 × Int32 => LRef_print_16_32 N a1 M z.1 z.2) N (0, 0)).bind fun zv33 =>
  some zv33)
set_option maxHeartbeats 4000000 in
set_option maxRecDepth 100000 in
theorem cRef_print (l : Launch) (D : va_G) (cI : ClassId) (h : Nat → Nat) (N : Nat) (a1 : Int32) (M : Mm) (r : Int32) (zhs : sRef_print N a1 M = some r) : CtI l yX12_print cX12_print 5 (some .int) 3 D cI (wR h cI M) (wR h cI M) [.ref (h 0), .int a1] r := by
  unfold sRef_print at zhs
  refine CtI_of (by decide +kernel) (Nat.le_of_ble_eq_true rfl) ⟨_, rfl⟩ ?_
  intro p e s m args below meth c A Q zls zH zlocs C zhw zhl zhret
  have zhx := C.1
  have zhb := C.2.1
  have zhown := C.2.2.2.2.1
  have zhtB := C.2.2.2.2.2.2.1
  have zhl : lv_has zls 5 [(0, .ref (h 0)), (1, .int a1)] := zhl
  refine lv_iload_n zhx zhb dX12_print_0 rfl (lv_at zhl 1 rfl) ?_
  refine lv_i2l zhx zhb dX12_print_1 rfl ?_
  refine lv_lconst (v := 0) zhx zhb dX12_print_2 (by decide) ?_
  refine lv_lconst (v := 1) zhx zhb dX12_print_3 (by decide) ?_
  obtain ⟨zv1, zhp, zhs⟩ := bnd_e zhs
  refine x_cSI (As := [.long (Int32.toInt64 a1), .long 0, .long 1]) (rest := []) C zhw zhl (cRef_in l D cI h (Int32.toInt64 a1) 0 1 M zv1 zhp) (by decide) (by decide) kw_10_14 kw_10_15 kw_1_5 kw_10_16 md_X12_in rfl rfl (Nat.le_of_ble_eq_true rfl) dX12_print_4 (fun zH zlocs zhw hzv1 => ?_)
  refine lv_if_ne (tgt := 12) zhx zhb dX12_print_7 (by decide) (fun zc9 => ?_) (fun zc9 => ?_)
  · replace zhs := br_F zhs zc9
    refine lv_iconst (v := 0) zhx zhb dX12_print_12 (by decide) ?_
    refine lv_istore_n (lv' := [(2, .int 0), (0, .ref (h 0)), (1, .int a1)]) zhx zhb dX12_print_13 rfl zhl (by decide) rfl (fun zls zhl => ?_)
    refine lv_iconst (v := 0) zhx zhb dX12_print_14 (by decide) ?_
    refine lv_istore_n (lv' := [(3, .int 0), (2, .int 0), (0, .ref (h 0)), (1, .int a1)]) zhx zhb dX12_print_15 rfl zhl (by decide) rfl (fun zls zhl => ?_)
    obtain ⟨zq32, zhq32, zhs⟩ := bnd_e zhs
    have hloop32 : ∀ (zn : Nat) (zx2 : Int32) (zx3 : Int32) (zq : (Int32)), itr (fun z : Int32 × Int32 => LRef_print_16_32 N a1 M z.1 z.2) zn (zx2, zx3) = some zq → (∀ (zy1 : Int32), zy1 = zq → ∀ (zH : Heap) (zlocs : List Loc) (zls : Array Slot), lv_has zls 5 [(2, .int zy1)] → Hw D (wR h cI M) A s.heap zH zlocs → W p l e (RM 3) s m args below meth c zH zlocs 0 0 Q (F0 m 107 zls [])) → ∀ (zH : Heap) (zlocs : List Loc) (zls : Array Slot), lv_has zls 5 [(3, .int zx3), (2, .int zx2), (0, .ref (h 0)), (1, .int a1)] → Hw D (wR h cI M) A s.heap zH zlocs → W p l e (RM 3) s m args below meth c zH zlocs 0 0 Q (F0 m 16 zls []) := by
      intro zn
      induction zn with
      | zero => intro zx2 zx3 zq zhq; exact absurd zhq (fun h9 => itr_0 h9)
      | succ zn zih =>
          intro zx2 zx3 zq zhq k16_107 zH zlocs zls zhl zhw
          obtain ⟨zy9, zhs, zhq⟩ := itr_s zhq
          replace zhs : LRef_print_16_32 N a1 M zx2 zx3 = some zy9 := zhs
          unfold LRef_print_16_32 at zhs
          refine lv_iload_n zhx zhb dX12_print_16 rfl (lv_at zhl 0 rfl) ?_
          refine lv_aload_n zhx zhb dX12_print_17 rfl (lv_at zhl 2 rfl) ?_
          refine x_get C zhw inlX12 rfl 0 7 (by decide) kw_8_9 rfl (wR_c0 h cI M) rfl dX12_print_18 ?_
          refine lv_iconst (v := 0) zhx zhb dX12_print_21 (by decide) ?_
          obtain ⟨zv18, ze9, zhi, zhs⟩ := rdc_v zhs
          refine x_iald C zhw 7 (wR_c7 h cI M) zhi dX12_print_22 ?_
          refine lv_topi (fun zy9 ze8 => ?_)
          obtain rfl : zv18 = zy9 := ze9.trans ze8.symm
          clear ze9 ze8
          refine lv_icmp_ge (tgt := 107) zhx zhb dX12_print_23 (by decide) (fun zc9 => ?_) (fun zc9 => ?_)
          · replace zhs := br_T zhs zc9
            cases zhs
            exact k16_107 zx2 (itk_q zhq) zH zlocs zls (lv_sub zhl [1] rfl) zhw
          · replace zhs := br_F zhs zc9
            refine lv_aload_n zhx zhb dX12_print_26 rfl (lv_at zhl 2 rfl) ?_
            refine x_get C zhw inlX12 rfl 0 27 (by decide) kw_9_5 rfl (wR_c0 h cI M) rfl dX12_print_27 ?_
            refine lv_iconst (v := 0) zhx zhb dX12_print_30 (by decide) ?_
            obtain ⟨zv19, ze9, zhi, zhs⟩ := rdc_v zhs
            refine x_iald C zhw 27 (wR_c27 h cI M) zhi dX12_print_31 ?_
            refine lv_topi (fun zy9 ze8 => ?_)
            obtain rfl : zv19 = zy9 := ze9.trans ze8.symm
            clear ze9 ze8
            refine lv_bipush (v := 24) zhx zhb dX12_print_32 (by decide) ?_
            refine lv_idiv zhx zhb dX12_print_34 (by decide) ?_
            refine lv_aload_n zhx zhb dX12_print_35 rfl (lv_at zhl 2 rfl) ?_
            refine x_get C zhw inlX12 rfl 0 12 (by decide) kw_8_14 rfl (wR_c0 h cI M) rfl dX12_print_36 ?_
            refine lv_iload_n zhx zhb dX12_print_39 rfl (lv_at zhl 0 rfl) ?_
            obtain ⟨zv20, ze9, zhi, zhs⟩ := rdc_v zhs
            refine x_iald C zhw 12 (wR_c12 h cI M) zhi dX12_print_40 ?_
            refine lv_topi (fun zy9 ze8 => ?_)
            obtain rfl : zv20 = zy9 := ze9.trans ze8.symm
            clear ze9 ze8
            obtain ⟨zv21, zhq, zhs⟩ := bnd_e zhs
            have hJ22 : ∀ (zH : Heap) (zlocs : List Loc) (zls : Array Slot), lv_has zls 5 [(3, .int zx3), (2, .int zx2), (0, .ref (h 0)), (1, .int a1)] → Hw D (wR h cI M) A s.heap zH zlocs → W p l e (RM 3) s m args below meth c zH zlocs 0 0 Q (F0 m 49 zls [.int zv21]) := by
              intro zH zlocs zls zhl zhw
              refine lv_istore (lv' := [(4, .int zv21), (3, .int zx3), (2, .int zx2), (0, .ref (h 0)), (1, .int a1)]) zhx zhb dX12_print_49 zhl (by decide) rfl (fun zls zhl => ?_)
              refine lv_iload_n zhx zhb dX12_print_51 rfl (lv_at zhl 2 rfl) ?_
              refine lv_aload_n zhx zhb dX12_print_52 rfl (lv_at zhl 3 rfl) ?_
              refine x_get C zhw inlX12 rfl 0 25 (by decide) kw_9_3 rfl (wR_c0 h cI M) rfl dX12_print_53 ?_
              refine lv_iload_n zhx zhb dX12_print_56 rfl (lv_at zhl 1 rfl) ?_
              obtain ⟨zv23, ze9, zhi, zhs⟩ := rdc_v zhs
              refine x_iald C zhw 25 (wR_c25 h cI M) zhi dX12_print_57 ?_
              refine lv_topi (fun zy9 ze8 => ?_)
              obtain rfl : zv23 = zy9 := ze9.trans ze8.symm
              clear ze9 ze8
              obtain ⟨zv26, zhq, zhs⟩ := bnd_e zhs
              have hJ27 : ∀ (zH : Heap) (zlocs : List Loc) (zls : Array Slot), lv_has zls 5 [(3, .int zx3), (0, .ref (h 0)), (1, .int a1)] → Hw D (wR h cI M) A s.heap zH zlocs → W p l e (RM 3) s m args below meth c zH zlocs 0 0 Q (F0 m 99 zls [.int zv26, .int zx2]) := by
                intro zH zlocs zls zhl zhw
                refine lv_iadd zhx zhb dX12_print_99 ?_
                obtain ⟨zv30, ze9, zhs⟩ := ltI_e zhs
                refine lv_topi (fun zy9 ze8 => ?_)
                obtain rfl : zv30 = zy9 := ze9.trans ze8.symm
                clear ze9 ze8
                refine lv_istore_n (lv' := [(2, .int zv30), (3, .int zx3), (0, .ref (h 0)), (1, .int a1)]) zhx zhb dX12_print_100 rfl zhl (by decide) rfl (fun zls zhl => ?_)
                obtain ⟨zv31, ze9, zhs⟩ := ltI_e zhs
                refine lv_iinc (v := zv31) (lv' := [(3, .int zv31), (2, .int zv30), (0, .ref (h 0)), (1, .int a1)]) zhx zhb dX12_print_101 zhl (k := 1) rfl (by rw [ze9]; rfl) (by decide) rfl (fun zls zhl => ?_)
                clear ze9
                refine lv_goto (tgt := 16) zhx zhb dX12_print_104 (by decide) ?_
                cases zhs
                exact zih zv30 zv31 zq (itk_l zhq) k16_107 zH zlocs zls zhl zhw
              replace zhs := zhq
              clear zhq
              refine lv_if_ne (tgt := 98) zhx zhb dX12_print_58 (by decide) (fun zc9 => ?_) (fun zc9 => ?_)
              · replace zhs := br_F zhs zc9
                refine lv_iconst (v := 0) zhx zhb dX12_print_98 (by decide) ?_
                cases zhs
                exact hJ27 zH zlocs zls (lv_sub zhl [1, 3, 4] rfl) zhw
              · replace zhs := br_T zhs zc9
                refine lv_iload_n zhx zhb dX12_print_61 rfl (lv_at zhl 4 rfl) ?_
                refine lv_if_ne (tgt := 81) zhx zhb dX12_print_62 (by decide) (fun zc9 => ?_) (fun zc9 => ?_)
                · replace zhs := br_F zhs zc9
                  refine lv_iload zhx zhb dX12_print_81 (lv_at zhl 0 rfl) ?_
                  refine lv_if_ne (tgt := 98) zhx zhb dX12_print_83 (by decide) (fun zc9 => ?_) (fun zc9 => ?_)
                  · replace zhs := br_F zhs zc9
                    refine lv_iconst (v := 0) zhx zhb dX12_print_98 (by decide) ?_
                    cases zhs
                    exact hJ27 zH zlocs zls (lv_sub zhl [1, 3, 4] rfl) zhw
                  · replace zhs := br_T zhs zc9
                    refine lv_aload_n zhx zhb dX12_print_86 rfl (lv_at zhl 3 rfl) ?_
                    refine lv_iload_n zhx zhb dX12_print_87 rfl (lv_at zhl 1 rfl) ?_
                    obtain ⟨zv28, zhp, zhs⟩ := bnd_e zhs
                    refine x_cVI (As := [.int zx3]) (rest := [.int zx2]) C zhw zhl (cRef_isOff l D cI h zx3 M zv28 zhp) (by decide) (by decide) kw_20_7 kw_20_8 kw_20_9 kw_1_5 kw_20_10 md_X12_isOff rfl 0 (wR_c0 h cI M) rfl rfl rfl rfl (Nat.le_of_ble_eq_true rfl) dX12_print_88 (fun zH zlocs zhw hzv28 => ?_)
                    refine lv_if_eq (tgt := 98) zhx zhb dX12_print_91 (by decide) (fun zc9 => ?_) (fun zc9 => ?_)
                    · replace zhs := br_T zhs zc9
                      refine lv_iconst (v := 0) zhx zhb dX12_print_98 (by decide) ?_
                      cases zhs
                      exact hJ27 zH zlocs zls (lv_sub zhl [1, 3, 4] rfl) zhw
                    · replace zhs := br_F zhs zc9
                      refine lv_iconst (v := 1) zhx zhb dX12_print_94 (by decide) ?_
                      refine lv_goto (tgt := 99) zhx zhb dX12_print_95 (by decide) ?_
                      cases zhs
                      exact hJ27 zH zlocs zls (lv_sub zhl [1, 3, 4] rfl) zhw
                · replace zhs := br_T zhs zc9
                  refine lv_iload zhx zhb dX12_print_65 (lv_at zhl 0 rfl) ?_
                  refine lv_if_eq (tgt := 98) zhx zhb dX12_print_67 (by decide) (fun zc9 => ?_) (fun zc9 => ?_)
                  · replace zhs := br_T zhs zc9
                    refine lv_iconst (v := 0) zhx zhb dX12_print_98 (by decide) ?_
                    cases zhs
                    exact hJ27 zH zlocs zls (lv_sub zhl [1, 3, 4] rfl) zhw
                  · replace zhs := br_F zhs zc9
                    refine lv_aload_n zhx zhb dX12_print_70 rfl (lv_at zhl 3 rfl) ?_
                    refine lv_iload_n zhx zhb dX12_print_71 rfl (lv_at zhl 1 rfl) ?_
                    obtain ⟨zv29, zhp, zhs⟩ := bnd_e zhs
                    refine x_cVI (As := [.int zx3]) (rest := [.int zx2]) C zhw zhl (cRef_isOff l D cI h zx3 M zv29 zhp) (by decide) (by decide) kw_20_7 kw_20_8 kw_20_9 kw_1_5 kw_20_10 md_X12_isOff rfl 0 (wR_c0 h cI M) rfl rfl rfl rfl (Nat.le_of_ble_eq_true rfl) dX12_print_72 (fun zH zlocs zhw hzv29 => ?_)
                    refine lv_if_ne (tgt := 98) zhx zhb dX12_print_75 (by decide) (fun zc9 => ?_) (fun zc9 => ?_)
                    · replace zhs := br_F zhs zc9
                      refine lv_iconst (v := 0) zhx zhb dX12_print_98 (by decide) ?_
                      cases zhs
                      exact hJ27 zH zlocs zls (lv_sub zhl [1, 3, 4] rfl) zhw
                    · replace zhs := br_T zhs zc9
                      refine lv_goto (tgt := 94) zhx zhb dX12_print_78 (by decide) ?_
                      refine lv_iconst (v := 1) zhx zhb dX12_print_94 (by decide) ?_
                      refine lv_goto (tgt := 99) zhx zhb dX12_print_95 (by decide) ?_
                      cases zhs
                      exact hJ27 zH zlocs zls (lv_sub zhl [1, 3, 4] rfl) zhw
            replace zhs := zhq
            clear zhq
            refine lv_icmp_le (tgt := 48) zhx zhb dX12_print_41 (by decide) (fun zc9 => ?_) (fun zc9 => ?_)
            · replace zhs := br_T zhs zc9
              refine lv_iconst (v := 0) zhx zhb dX12_print_48 (by decide) ?_
              cases zhs
              exact hJ22 zH zlocs zls zhl zhw
            · replace zhs := br_F zhs zc9
              refine lv_iconst (v := 1) zhx zhb dX12_print_44 (by decide) ?_
              refine lv_goto (tgt := 49) zhx zhb dX12_print_45 (by decide) ?_
              cases zhs
              exact hJ22 zH zlocs zls zhl zhw
    refine hloop32 N 0 0 zq32 zhq32 (fun zv33 zhqe zH zlocs zls zhl zhw => ?_) zH zlocs zls zhl zhw
    · subst zhqe
      refine lv_iload_n zhx zhb dX12_print_107 rfl (lv_at zhl 0 rfl) ?_
      cases zhs
      exact zhret _ _ _ _ dX12_print_108 (by rfl) zhw
  · replace zhs := br_T zhs zc9
    refine lv_iconst (v := (-1)) zhx zhb dX12_print_10 (by decide) ?_
    cases zhs
    exact zhret _ _ _ _ dX12_print_11 (by rfl) zhw

-- OffFirstModel.errorsAt in (0, ())
def LRef_errorsAt_4_45 (N : Nat) (a1 : Int32) (M : Mm) (zx1 : Int32) (zx2 : Int32) : Option ((Int32 × Int32) ⊕ ((Int32))) :=
  rdc 2 (M 7) 0 fun zv24 =>
  (if zv24 ≤ zx2 then some (.inr zx1)
  else rdc 40 (M 24) zx2 fun zv25 =>
  (sRef_limitOf zx2 M).bind fun zv26 =>
  (((if (10 * zv25) < (a1 * zv26) then some 0
  else some 1) : Option (Int32))).bind fun zv27 =>
  (sRef_isOff zx2 M).bind fun zv29 =>
  (((if zv27 = zv29 then some 1
  else some 0) : Option (Int32))).bind fun zv30 =>
  rdc 40 (M 25) zx2 fun zv32 =>
  (if zv32 = 0 then (if zv30 = 0 then rdc 6 (M 21) 2 fun zv37 =>
  ltI (zx1 + (10 - zv37)) fun zv38 =>
  ltI (zx2 + 1) fun zv39 =>
  some (.inl (zv38, zv39))
  else rdc 6 (M 21) 2 fun zv40 =>
  ltI (zx1 + zv40) fun zv41 =>
  ltI (zx2 + 1) fun zv42 =>
  some (.inl (zv41, zv42)))
  else ltI (zx1 + 0) fun zv43 =>
  ltI (zx2 + 1) fun zv44 =>
  some (.inl (zv43, zv44))))
def sRef_errorsAt (N : Nat) (a1 : Int32) (M : Mm) : Option Int32 :=
  (itr (fun z : Int32 × Int32 => LRef_errorsAt_4_45 N a1 M z.1 z.2) N (0, 0)).bind fun zv46 =>
  some zv46
set_option maxHeartbeats 4000000 in
set_option maxRecDepth 100000 in
theorem cRef_errorsAt (l : Launch) (D : va_G) (cI : ClassId) (h : Nat → Nat) (N : Nat) (a1 : Int32) (M : Mm) (r : Int32) (zhs : sRef_errorsAt N a1 M = some r) : CtI l yX12_errorsAt cX12_errorsAt 5 (some .int) 3 D cI (wR h cI M) (wR h cI M) [.ref (h 0), .int a1] r := by
  unfold sRef_errorsAt at zhs
  refine CtI_of (by decide +kernel) (Nat.le_of_ble_eq_true rfl) ⟨_, rfl⟩ ?_
  intro p e s m args below meth c A Q zls zH zlocs C zhw zhl zhret
  have zhx := C.1
  have zhb := C.2.1
  have zhown := C.2.2.2.2.1
  have zhtB := C.2.2.2.2.2.2.1
  have zhl : lv_has zls 5 [(0, .ref (h 0)), (1, .int a1)] := zhl
  refine lv_iconst (v := 0) zhx zhb dX12_errorsAt_0 (by decide) ?_
  refine lv_istore_n (lv' := [(2, .int 0), (0, .ref (h 0)), (1, .int a1)]) zhx zhb dX12_errorsAt_1 rfl zhl (by decide) rfl (fun zls zhl => ?_)
  refine lv_iconst (v := 0) zhx zhb dX12_errorsAt_2 (by decide) ?_
  refine lv_istore_n (lv' := [(3, .int 0), (2, .int 0), (0, .ref (h 0)), (1, .int a1)]) zhx zhb dX12_errorsAt_3 rfl zhl (by decide) rfl (fun zls zhl => ?_)
  obtain ⟨zq45, zhq45, zhs⟩ := bnd_e zhs
  have hloop45 : ∀ (zn : Nat) (zx1 : Int32) (zx2 : Int32) (zq : (Int32)), itr (fun z : Int32 × Int32 => LRef_errorsAt_4_45 N a1 M z.1 z.2) zn (zx1, zx2) = some zq → (∀ (zy1 : Int32), zy1 = zq → ∀ (zH : Heap) (zlocs : List Loc) (zls : Array Slot), lv_has zls 5 [(2, .int zy1)] → Hw D (wR h cI M) A s.heap zH zlocs → W p l e (RM 3) s m args below meth c zH zlocs 0 0 Q (F0 m 98 zls [])) → ∀ (zH : Heap) (zlocs : List Loc) (zls : Array Slot), lv_has zls 5 [(3, .int zx2), (2, .int zx1), (0, .ref (h 0)), (1, .int a1)] → Hw D (wR h cI M) A s.heap zH zlocs → W p l e (RM 3) s m args below meth c zH zlocs 0 0 Q (F0 m 4 zls []) := by
    intro zn
    induction zn with
    | zero => intro zx1 zx2 zq zhq; exact absurd zhq (fun h9 => itr_0 h9)
    | succ zn zih =>
        intro zx1 zx2 zq zhq k4_98 zH zlocs zls zhl zhw
        obtain ⟨zy9, zhs, zhq⟩ := itr_s zhq
        replace zhs : LRef_errorsAt_4_45 N a1 M zx1 zx2 = some zy9 := zhs
        unfold LRef_errorsAt_4_45 at zhs
        refine lv_iload_n zhx zhb dX12_errorsAt_4 rfl (lv_at zhl 0 rfl) ?_
        refine lv_aload_n zhx zhb dX12_errorsAt_5 rfl (lv_at zhl 2 rfl) ?_
        refine x_get C zhw inlX12 rfl 0 7 (by decide) kw_8_9 rfl (wR_c0 h cI M) rfl dX12_errorsAt_6 ?_
        refine lv_iconst (v := 0) zhx zhb dX12_errorsAt_9 (by decide) ?_
        obtain ⟨zv24, ze9, zhi, zhs⟩ := rdc_v zhs
        refine x_iald C zhw 7 (wR_c7 h cI M) zhi dX12_errorsAt_10 ?_
        refine lv_topi (fun zy9 ze8 => ?_)
        obtain rfl : zv24 = zy9 := ze9.trans ze8.symm
        clear ze9 ze8
        refine lv_icmp_ge (tgt := 98) zhx zhb dX12_errorsAt_11 (by decide) (fun zc9 => ?_) (fun zc9 => ?_)
        · replace zhs := br_T zhs zc9
          cases zhs
          exact k4_98 zx1 (itk_q zhq) zH zlocs zls (lv_sub zhl [1] rfl) zhw
        · replace zhs := br_F zhs zc9
          refine lv_bipush (v := 10) zhx zhb dX12_errorsAt_14 (by decide) ?_
          refine lv_aload_n zhx zhb dX12_errorsAt_16 rfl (lv_at zhl 2 rfl) ?_
          refine x_get C zhw inlX12 rfl 0 24 (by decide) kw_9_2 rfl (wR_c0 h cI M) rfl dX12_errorsAt_17 ?_
          refine lv_iload_n zhx zhb dX12_errorsAt_20 rfl (lv_at zhl 0 rfl) ?_
          obtain ⟨zv25, ze9, zhi, zhs⟩ := rdc_v zhs
          refine x_iald C zhw 24 (wR_c24 h cI M) zhi dX12_errorsAt_21 ?_
          refine lv_topi (fun zy9 ze8 => ?_)
          obtain rfl : zv25 = zy9 := ze9.trans ze8.symm
          clear ze9 ze8
          refine lv_imul zhx zhb dX12_errorsAt_22 ?_
          refine lv_iload_n zhx zhb dX12_errorsAt_23 rfl (lv_at zhl 3 rfl) ?_
          refine lv_aload_n zhx zhb dX12_errorsAt_24 rfl (lv_at zhl 2 rfl) ?_
          refine lv_iload_n zhx zhb dX12_errorsAt_25 rfl (lv_at zhl 0 rfl) ?_
          obtain ⟨zv26, zhp, zhs⟩ := bnd_e zhs
          refine x_cVI (As := [.int zx2]) (rest := [.int a1, .int (10 * zv25)]) C zhw zhl (cRef_limitOf l D cI h zx2 M zv26 zhp) (by decide) (by decide) kw_20_3 kw_20_4 kw_20_5 kw_1_5 kw_20_6 md_X12_limitOf rfl 0 (wR_c0 h cI M) rfl rfl rfl rfl (Nat.le_of_ble_eq_true rfl) dX12_errorsAt_26 (fun zH zlocs zhw hn9 => ?_)
          refine lv_imul zhx zhb dX12_errorsAt_29 ?_
          obtain ⟨zv27, zhq, zhs⟩ := bnd_e zhs
          have hJ28 : ∀ (zH : Heap) (zlocs : List Loc) (zls : Array Slot), lv_has zls 5 [(3, .int zx2), (2, .int zx1), (0, .ref (h 0)), (1, .int a1)] → Hw D (wR h cI M) A s.heap zH zlocs → W p l e (RM 3) s m args below meth c zH zlocs 0 0 Q (F0 m 38 zls [.int zv27]) := by
            intro zH zlocs zls zhl zhw
            refine lv_aload_n zhx zhb dX12_errorsAt_38 rfl (lv_at zhl 2 rfl) ?_
            refine lv_iload_n zhx zhb dX12_errorsAt_39 rfl (lv_at zhl 0 rfl) ?_
            obtain ⟨zv29, zhp, zhs⟩ := bnd_e zhs
            refine x_cVI (As := [.int zx2]) (rest := [.int zv27]) C zhw zhl (cRef_isOff l D cI h zx2 M zv29 zhp) (by decide) (by decide) kw_20_7 kw_20_8 kw_20_9 kw_1_5 kw_20_10 md_X12_isOff rfl 0 (wR_c0 h cI M) rfl rfl rfl rfl (Nat.le_of_ble_eq_true rfl) dX12_errorsAt_40 (fun zH zlocs zhw hzv29 => ?_)
            obtain ⟨zv30, zhq, zhs⟩ := bnd_e zhs
            have hJ31 : ∀ (zH : Heap) (zlocs : List Loc) (zls : Array Slot), lv_has zls 5 [(3, .int zx2), (2, .int zx1), (0, .ref (h 0)), (1, .int a1)] → Hw D (wR h cI M) A s.heap zH zlocs → W p l e (RM 3) s m args below meth c zH zlocs 0 0 Q (F0 m 51 zls [.int zv30]) := by
              intro zH zlocs zls zhl zhw
              refine lv_istore (lv' := [(4, .int zv30), (3, .int zx2), (2, .int zx1), (0, .ref (h 0)), (1, .int a1)]) zhx zhb dX12_errorsAt_51 zhl (by decide) rfl (fun zls zhl => ?_)
              refine lv_iload_n zhx zhb dX12_errorsAt_53 rfl (lv_at zhl 2 rfl) ?_
              refine lv_aload_n zhx zhb dX12_errorsAt_54 rfl (lv_at zhl 3 rfl) ?_
              refine x_get C zhw inlX12 rfl 0 25 (by decide) kw_9_3 rfl (wR_c0 h cI M) rfl dX12_errorsAt_55 ?_
              refine lv_iload_n zhx zhb dX12_errorsAt_58 rfl (lv_at zhl 1 rfl) ?_
              obtain ⟨zv32, ze9, zhi, zhs⟩ := rdc_v zhs
              refine x_iald C zhw 25 (wR_c25 h cI M) zhi dX12_errorsAt_59 ?_
              refine lv_topi (fun zy9 ze8 => ?_)
              obtain rfl : zv32 = zy9 := ze9.trans ze8.symm
              clear ze9 ze8
              refine lv_if_eq (tgt := 67) zhx zhb dX12_errorsAt_60 (by decide) (fun zc9 => ?_) (fun zc9 => ?_)
              · replace zhs := br_T zhs zc9
                refine lv_iload zhx zhb dX12_errorsAt_67 (lv_at zhl 0 rfl) ?_
                refine lv_if_eq (tgt := 81) zhx zhb dX12_errorsAt_69 (by decide) (fun zc9 => ?_) (fun zc9 => ?_)
                · replace zhs := br_T zhs zc9
                  refine lv_bipush (v := 10) zhx zhb dX12_errorsAt_81 (by decide) ?_
                  refine lv_aload_n zhx zhb dX12_errorsAt_83 rfl (lv_at zhl 3 rfl) ?_
                  refine x_get C zhw inlX12 rfl 0 21 (by decide) kw_8_23 rfl (wR_c0 h cI M) rfl dX12_errorsAt_84 ?_
                  refine lv_iconst (v := 2) zhx zhb dX12_errorsAt_87 (by decide) ?_
                  obtain ⟨zv37, ze9, zhi, zhs⟩ := rdc_v zhs
                  refine x_iald C zhw 21 (wR_c21 h cI M) zhi dX12_errorsAt_88 ?_
                  refine lv_topi (fun zy9 ze8 => ?_)
                  obtain rfl : zv37 = zy9 := ze9.trans ze8.symm
                  clear ze9 ze8
                  refine lv_isub zhx zhb dX12_errorsAt_89 ?_
                  refine lv_iadd zhx zhb dX12_errorsAt_90 ?_
                  obtain ⟨zv38, ze9, zhs⟩ := ltI_e zhs
                  refine lv_topi (fun zy9 ze8 => ?_)
                  obtain rfl : zv38 = zy9 := ze9.trans ze8.symm
                  clear ze9 ze8
                  refine lv_istore_n (lv' := [(2, .int zv38), (4, .int zv30), (3, .int zx2), (0, .ref (h 0)), (1, .int a1)]) zhx zhb dX12_errorsAt_91 rfl zhl (by decide) rfl (fun zls zhl => ?_)
                  obtain ⟨zv39, ze9, zhs⟩ := ltI_e zhs
                  refine lv_iinc (v := zv39) (lv' := [(3, .int zv39), (2, .int zv38), (4, .int zv30), (0, .ref (h 0)), (1, .int a1)]) zhx zhb dX12_errorsAt_92 zhl (k := 2) rfl (by rw [ze9]; rfl) (by decide) rfl (fun zls zhl => ?_)
                  clear ze9
                  refine lv_goto (tgt := 4) zhx zhb dX12_errorsAt_95 (by decide) ?_
                  cases zhs
                  exact zih zv38 zv39 zq (itk_l zhq) k4_98 zH zlocs zls (lv_sub zhl [0, 1, 3, 4] rfl) zhw
                · replace zhs := br_F zhs zc9
                  refine lv_aload_n zhx zhb dX12_errorsAt_72 rfl (lv_at zhl 3 rfl) ?_
                  refine x_get C zhw inlX12 rfl 0 21 (by decide) kw_8_23 rfl (wR_c0 h cI M) rfl dX12_errorsAt_73 ?_
                  refine lv_iconst (v := 2) zhx zhb dX12_errorsAt_76 (by decide) ?_
                  obtain ⟨zv40, ze9, zhi, zhs⟩ := rdc_v zhs
                  refine x_iald C zhw 21 (wR_c21 h cI M) zhi dX12_errorsAt_77 ?_
                  refine lv_topi (fun zy9 ze8 => ?_)
                  obtain rfl : zv40 = zy9 := ze9.trans ze8.symm
                  clear ze9 ze8
                  refine lv_goto (tgt := 90) zhx zhb dX12_errorsAt_78 (by decide) ?_
                  refine lv_iadd zhx zhb dX12_errorsAt_90 ?_
                  obtain ⟨zv41, ze9, zhs⟩ := ltI_e zhs
                  refine lv_topi (fun zy9 ze8 => ?_)
                  obtain rfl : zv41 = zy9 := ze9.trans ze8.symm
                  clear ze9 ze8
                  refine lv_istore_n (lv' := [(2, .int zv41), (4, .int zv30), (3, .int zx2), (0, .ref (h 0)), (1, .int a1)]) zhx zhb dX12_errorsAt_91 rfl zhl (by decide) rfl (fun zls zhl => ?_)
                  obtain ⟨zv42, ze9, zhs⟩ := ltI_e zhs
                  refine lv_iinc (v := zv42) (lv' := [(3, .int zv42), (2, .int zv41), (4, .int zv30), (0, .ref (h 0)), (1, .int a1)]) zhx zhb dX12_errorsAt_92 zhl (k := 2) rfl (by rw [ze9]; rfl) (by decide) rfl (fun zls zhl => ?_)
                  clear ze9
                  refine lv_goto (tgt := 4) zhx zhb dX12_errorsAt_95 (by decide) ?_
                  cases zhs
                  exact zih zv41 zv42 zq (itk_l zhq) k4_98 zH zlocs zls (lv_sub zhl [0, 1, 3, 4] rfl) zhw
              · replace zhs := br_F zhs zc9
                refine lv_iconst (v := 0) zhx zhb dX12_errorsAt_63 (by decide) ?_
                refine lv_goto (tgt := 90) zhx zhb dX12_errorsAt_64 (by decide) ?_
                refine lv_iadd zhx zhb dX12_errorsAt_90 ?_
                obtain ⟨zv43, ze9, zhs⟩ := ltI_e zhs
                refine lv_topi (fun zy9 ze8 => ?_)
                obtain rfl : zv43 = zy9 := ze9.trans ze8.symm
                clear ze9 ze8
                refine lv_istore_n (lv' := [(2, .int zv43), (4, .int zv30), (3, .int zx2), (0, .ref (h 0)), (1, .int a1)]) zhx zhb dX12_errorsAt_91 rfl zhl (by decide) rfl (fun zls zhl => ?_)
                obtain ⟨zv44, ze9, zhs⟩ := ltI_e zhs
                refine lv_iinc (v := zv44) (lv' := [(3, .int zv44), (2, .int zv43), (4, .int zv30), (0, .ref (h 0)), (1, .int a1)]) zhx zhb dX12_errorsAt_92 zhl (k := 2) rfl (by rw [ze9]; rfl) (by decide) rfl (fun zls zhl => ?_)
                clear ze9
                refine lv_goto (tgt := 4) zhx zhb dX12_errorsAt_95 (by decide) ?_
                cases zhs
                exact zih zv43 zv44 zq (itk_l zhq) k4_98 zH zlocs zls (lv_sub zhl [0, 1, 3, 4] rfl) zhw
            replace zhs := zhq
            clear zhq
            refine lv_icmp_ne (tgt := 50) zhx zhb dX12_errorsAt_43 (by decide) (fun zc9 => ?_) (fun zc9 => ?_)
            · replace zhs := br_F zhs zc9
              refine lv_iconst (v := 0) zhx zhb dX12_errorsAt_50 (by decide) ?_
              cases zhs
              exact hJ31 zH zlocs zls zhl zhw
            · replace zhs := br_T zhs zc9
              refine lv_iconst (v := 1) zhx zhb dX12_errorsAt_46 (by decide) ?_
              refine lv_goto (tgt := 51) zhx zhb dX12_errorsAt_47 (by decide) ?_
              cases zhs
              exact hJ31 zH zlocs zls zhl zhw
          replace zhs := zhq
          clear zhq
          refine lv_icmp_lt (tgt := 37) zhx zhb dX12_errorsAt_30 (by decide) (fun zc9 => ?_) (fun zc9 => ?_)
          · replace zhs := br_T zhs zc9
            refine lv_iconst (v := 0) zhx zhb dX12_errorsAt_37 (by decide) ?_
            cases zhs
            exact hJ28 zH zlocs zls zhl zhw
          · replace zhs := br_F zhs zc9
            refine lv_iconst (v := 1) zhx zhb dX12_errorsAt_33 (by decide) ?_
            refine lv_goto (tgt := 38) zhx zhb dX12_errorsAt_34 (by decide) ?_
            cases zhs
            exact hJ28 zH zlocs zls zhl zhw
  refine hloop45 N 0 0 zq45 zhq45 (fun zv46 zhqe zH zlocs zls zhl zhw => ?_) zH zlocs zls zhl zhw
  · subst zhqe
    refine lv_iload_n zhx zhb dX12_errorsAt_98 rfl (lv_at zhl 0 rfl) ?_
    cases zhs
    exact zhret _ _ _ _ dX12_errorsAt_99 (by rfl) zhw

-- OffFirstModel.smell in (0, ())
def sRef_smell (N : Nat) (a1 : Int32) (M : Mm) : Option Int32 :=
  (sRef_in (Int32.toInt64 a1) 0 20).bind fun zv1 =>
  (if zv1 = 0 then some (-1)
  else (sRef_errorsAt N a1 M).bind fun zv3 =>
  some zv3)
set_option maxHeartbeats 4000000 in
set_option maxRecDepth 100000 in
theorem cRef_smell (l : Launch) (D : va_G) (cI : ClassId) (h : Nat → Nat) (N : Nat) (a1 : Int32) (M : Mm) (r : Int32) (zhs : sRef_smell N a1 M = some r) : CtI l yX12_smell cX12_smell 2 (some .int) 4 D cI (wR h cI M) (wR h cI M) [.ref (h 0), .int a1] r := by
  unfold sRef_smell at zhs
  refine CtI_of (by decide +kernel) (Nat.le_of_ble_eq_true rfl) ⟨_, rfl⟩ ?_
  intro p e s m args below meth c A Q zls zH zlocs C zhw zhl zhret
  have zhx := C.1
  have zhb := C.2.1
  have zhown := C.2.2.2.2.1
  have zhtB := C.2.2.2.2.2.2.1
  have zhl : lv_has zls 2 [(0, .ref (h 0)), (1, .int a1)] := zhl
  refine lv_iload_n zhx zhb dX12_smell_0 rfl (lv_at zhl 1 rfl) ?_
  refine lv_i2l zhx zhb dX12_smell_1 rfl ?_
  refine lv_lconst (v := 0) zhx zhb dX12_smell_2 (by decide) ?_
  refine lv_ldc2 zhx zhb zhown (zhtB _ kw_38_22) dX12_smell_3 ?_
  obtain ⟨zv1, zhp, zhs⟩ := bnd_e zhs
  refine x_cSI (As := [.long (Int32.toInt64 a1), .long 0, .long 20]) (rest := []) C zhw zhl (cRef_in l D cI h (Int32.toInt64 a1) 0 20 M zv1 zhp) (by decide) (by decide) kw_10_14 kw_10_15 kw_1_5 kw_10_16 md_X12_in rfl rfl (Nat.le_of_ble_eq_true rfl) dX12_smell_6 (fun zH zlocs zhw hzv1 => ?_)
  refine lv_if_eq (tgt := 20) zhx zhb dX12_smell_9 (by decide) (fun zc9 => ?_) (fun zc9 => ?_)
  · replace zhs := br_T zhs zc9
    refine lv_iconst (v := (-1)) zhx zhb dX12_smell_20 (by decide) ?_
    cases zhs
    exact zhret _ _ _ _ dX12_smell_21 (by rfl) zhw
  · replace zhs := br_F zhs zc9
    refine lv_aload_n zhx zhb dX12_smell_12 rfl (lv_at zhl 0 rfl) ?_
    refine lv_iload_n zhx zhb dX12_smell_13 rfl (lv_at zhl 1 rfl) ?_
    obtain ⟨zv3, zhp, zhs⟩ := bnd_e zhs
    refine x_cVI (As := [.int a1]) (rest := []) C zhw zhl (cRef_errorsAt l D cI h N a1 M zv3 zhp) (by decide) (by decide) kw_38_23 kw_39_0 kw_39_1 kw_1_5 kw_39_2 md_X12_errorsAt rfl 0 (wR_c0 h cI M) rfl rfl rfl rfl (Nat.le_of_ble_eq_true rfl) dX12_smell_14 (fun zH zlocs zhw hn9 => ?_)
    refine lv_goto (tgt := 21) zhx zhb dX12_smell_17 (by decide) ?_
    cases zhs
    exact zhret _ _ _ _ dX12_smell_21 (by rfl) zhw

-- OffFirstModel.line in (0, ())
def LRef_line_4_11 (N : Nat) (M : Mm) (zx1 : Int32) (zx2 : Int32) : Option ((Int32 × Int32) ⊕ ((Int32))) :=
  (if 21 ≤ zx2 then some (.inr zx1)
  else (sRef_errorsAt N zx2 M).bind fun zv7 =>
  (sRef_errorsAt N zx1 M).bind fun zv8 =>
  (if zv8 ≤ zv7 then ltI (zx2 + 1) fun zv9 =>
  some (.inl (zx1, zv9))
  else ltI (zx2 + 1) fun zv10 =>
  some (.inl (zx2, zv10))))
def sRef_line (N : Nat) (M : Mm) : Option Int32 :=
  (itr (fun z : Int32 × Int32 => LRef_line_4_11 N M z.1 z.2) N (0, 1)).bind fun zv12 =>
  (sRef_thereMany N M).bind fun zv13 =>
  (if zv13 = 0 then some (-4)
  else some zv12)
set_option maxHeartbeats 4000000 in
set_option maxRecDepth 100000 in
theorem cRef_line (l : Launch) (D : va_G) (cI : ClassId) (h : Nat → Nat) (N : Nat) (M : Mm) (r : Int32) (zhs : sRef_line N M = some r) : CtI l yX12_line cX12_line 3 (some .int) 4 D cI (wR h cI M) (wR h cI M) [.ref (h 0)] r := by
  unfold sRef_line at zhs
  refine CtI_of (by decide +kernel) (Nat.le_of_ble_eq_true rfl) ⟨_, rfl⟩ ?_
  intro p e s m args below meth c A Q zls zH zlocs C zhw zhl zhret
  have zhx := C.1
  have zhb := C.2.1
  have zhown := C.2.2.2.2.1
  have zhtB := C.2.2.2.2.2.2.1
  have zhl : lv_has zls 3 [(0, .ref (h 0))] := zhl
  refine lv_iconst (v := 0) zhx zhb dX12_line_0 (by decide) ?_
  refine lv_istore_n (lv' := [(1, .int 0), (0, .ref (h 0))]) zhx zhb dX12_line_1 rfl zhl (by decide) rfl (fun zls zhl => ?_)
  refine lv_iconst (v := 1) zhx zhb dX12_line_2 (by decide) ?_
  refine lv_istore_n (lv' := [(2, .int 1), (1, .int 0), (0, .ref (h 0))]) zhx zhb dX12_line_3 rfl zhl (by decide) rfl (fun zls zhl => ?_)
  obtain ⟨zq11, zhq11, zhs⟩ := bnd_e zhs
  have hloop11 : ∀ (zn : Nat) (zx1 : Int32) (zx2 : Int32) (zq : (Int32)), itr (fun z : Int32 × Int32 => LRef_line_4_11 N M z.1 z.2) zn (zx1, zx2) = some zq → (∀ (zy1 : Int32), zy1 = zq → ∀ (zH : Heap) (zlocs : List Loc) (zls : Array Slot), lv_has zls 3 [(1, .int zy1), (0, .ref (h 0))] → Hw D (wR h cI M) A s.heap zH zlocs → W p l e (RM 4) s m args below meth c zH zlocs 0 0 Q (F0 m 35 zls [])) → ∀ (zH : Heap) (zlocs : List Loc) (zls : Array Slot), lv_has zls 3 [(2, .int zx2), (1, .int zx1), (0, .ref (h 0))] → Hw D (wR h cI M) A s.heap zH zlocs → W p l e (RM 4) s m args below meth c zH zlocs 0 0 Q (F0 m 4 zls []) := by
    intro zn
    induction zn with
    | zero => intro zx1 zx2 zq zhq; exact absurd zhq (fun h9 => itr_0 h9)
    | succ zn zih =>
        intro zx1 zx2 zq zhq k4_35 zH zlocs zls zhl zhw
        obtain ⟨zy9, zhs, zhq⟩ := itr_s zhq
        replace zhs : LRef_line_4_11 N M zx1 zx2 = some zy9 := zhs
        unfold LRef_line_4_11 at zhs
        refine lv_iload_n zhx zhb dX12_line_4 rfl (lv_at zhl 0 rfl) ?_
        refine lv_bipush (v := 21) zhx zhb dX12_line_5 (by decide) ?_
        refine lv_icmp_ge (tgt := 35) zhx zhb dX12_line_7 (by decide) (fun zc9 => ?_) (fun zc9 => ?_)
        · replace zhs := br_T zhs zc9
          cases zhs
          exact k4_35 zx1 (itk_q zhq) zH zlocs zls (lv_sub zhl [1, 2] rfl) zhw
        · replace zhs := br_F zhs zc9
          refine lv_aload_n zhx zhb dX12_line_10 rfl (lv_at zhl 2 rfl) ?_
          refine lv_iload_n zhx zhb dX12_line_11 rfl (lv_at zhl 0 rfl) ?_
          obtain ⟨zv7, zhp, zhs⟩ := bnd_e zhs
          refine x_cVI (As := [.int zx2]) (rest := []) C zhw zhl (cRef_errorsAt l D cI h N zx2 M zv7 zhp) (by decide) (by decide) kw_38_23 kw_39_0 kw_39_1 kw_1_5 kw_39_2 md_X12_errorsAt rfl 0 (wR_c0 h cI M) rfl rfl rfl rfl (Nat.le_of_ble_eq_true rfl) dX12_line_12 (fun zH zlocs zhw hn9 => ?_)
          refine lv_aload_n zhx zhb dX12_line_15 rfl (lv_at zhl 2 rfl) ?_
          refine lv_iload_n zhx zhb dX12_line_16 rfl (lv_at zhl 1 rfl) ?_
          obtain ⟨zv8, zhp, zhs⟩ := bnd_e zhs
          refine x_cVI (As := [.int zx1]) (rest := [.int zv7]) C zhw zhl (cRef_errorsAt l D cI h N zx1 M zv8 zhp) (by decide) (by decide) kw_38_23 kw_39_0 kw_39_1 kw_1_5 kw_39_2 md_X12_errorsAt rfl 0 (wR_c0 h cI M) rfl rfl rfl rfl (Nat.le_of_ble_eq_true rfl) dX12_line_17 (fun zH zlocs zhw hn9 => ?_)
          refine lv_icmp_ge (tgt := 27) zhx zhb dX12_line_20 (by decide) (fun zc9 => ?_) (fun zc9 => ?_)
          · replace zhs := br_T zhs zc9
            refine lv_iload_n zhx zhb dX12_line_27 rfl (lv_at zhl 1 rfl) ?_
            refine lv_istore_n (lv' := [(1, .int zx1), (2, .int zx2), (0, .ref (h 0))]) zhx zhb dX12_line_28 rfl zhl (by decide) rfl (fun zls zhl => ?_)
            obtain ⟨zv9, ze9, zhs⟩ := ltI_e zhs
            refine lv_iinc (v := zv9) (lv' := [(2, .int zv9), (1, .int zx1), (0, .ref (h 0))]) zhx zhb dX12_line_29 zhl (k := 1) rfl (by rw [ze9]; rfl) (by decide) rfl (fun zls zhl => ?_)
            clear ze9
            refine lv_goto (tgt := 4) zhx zhb dX12_line_32 (by decide) ?_
            cases zhs
            exact zih zx1 zv9 zq (itk_l zhq) k4_35 zH zlocs zls zhl zhw
          · replace zhs := br_F zhs zc9
            refine lv_iload_n zhx zhb dX12_line_23 rfl (lv_at zhl 0 rfl) ?_
            refine lv_goto (tgt := 28) zhx zhb dX12_line_24 (by decide) ?_
            refine lv_istore_n (lv' := [(1, .int zx2), (2, .int zx2), (0, .ref (h 0))]) zhx zhb dX12_line_28 rfl zhl (by decide) rfl (fun zls zhl => ?_)
            obtain ⟨zv10, ze9, zhs⟩ := ltI_e zhs
            refine lv_iinc (v := zv10) (lv' := [(2, .int zv10), (1, .int zx2), (0, .ref (h 0))]) zhx zhb dX12_line_29 zhl (k := 1) rfl (by rw [ze9]; rfl) (by decide) rfl (fun zls zhl => ?_)
            clear ze9
            refine lv_goto (tgt := 4) zhx zhb dX12_line_32 (by decide) ?_
            cases zhs
            exact zih zx2 zv10 zq (itk_l zhq) k4_35 zH zlocs zls zhl zhw
  refine hloop11 N 0 1 zq11 zhq11 (fun zv12 zhqe zH zlocs zls zhl zhw => ?_) zH zlocs zls zhl zhw
  · subst zhqe
    refine lv_aload_n zhx zhb dX12_line_35 rfl (lv_at zhl 1 rfl) ?_
    obtain ⟨zv13, zhp, zhs⟩ := bnd_e zhs
    refine x_cVI (As := []) (rest := []) C zhw zhl (cRef_thereMany l D cI h N M zv13 zhp) (by decide) (by decide) kw_35_21 kw_35_22 kw_35_23 kw_1_5 kw_36_0 md_X12_thereMany rfl 0 (wR_c0 h cI M) rfl rfl rfl rfl (Nat.le_of_ble_eq_true rfl) dX12_line_36 (fun zH zlocs zhw hn9 => ?_)
    refine lv_if_ne (tgt := 47) zhx zhb dX12_line_39 (by decide) (fun zc9 => ?_) (fun zc9 => ?_)
    · replace zhs := br_F zhs zc9
      refine lv_iload_n zhx zhb dX12_line_47 rfl (lv_at zhl 0 rfl) ?_
      cases zhs
      exact zhret _ _ _ _ dX12_line_48 (by rfl) zhw
    · replace zhs := br_T zhs zc9
      refine lv_bipush (v := (-4)) zhx zhb dX12_line_42 (by decide) ?_
      refine lv_goto (tgt := 48) zhx zhb dX12_line_44 (by decide) ?_
      cases zhs
      exact zhret _ _ _ _ dX12_line_48 (by rfl) zhw

-- OffFirstModel.cut in (0, ())
def LRef_cut_43_79 (N : Nat) (a1 : Int32) (a2 : Int32) (zx4 : Int32) (zx49 : Int32) (zM50 : Mm) : Option ((Int32 × Mm) ⊕ ((Mm))) :=
  (if a1 < zx49 then some (.inr zM50)
  else rdc 40 (zM50 23) zx4 fun zv65 =>
  rdc 12 (zM50 3) zv65 fun zv66 =>
  (((if a2 = 0 then some 0
  else (if zx49 = 1 then rdc 40 (zM50 23) zx4 fun zv71 =>
  rdc 12 (zM50 4) zv71 fun zv72 =>
  some zv72
  else some 0)) : Option (Int32))).bind fun zv69 =>
  ltI ((zv66 + (3 * zx49)) + zv69) fun zv73 =>
  rdc 40 (zM50 24) zx4 fun zv74 =>
  rdc 40 (zM50 22) zx4 fun zv75 =>
  (sRef_agesBy zv75 zv73).bind fun zv76 =>
  inc 40 zx4 <| ltM (mset zM50 24 (Int32.toNatClampNeg zx4) (zv74 + zv76)) fun zM77 =>
  ltI (zx49 + 1) fun zv78 =>
  some (.inl (zv78, zM77)))
def LRef_cut_26_90 (N : Nat) (a1 : Int32) (a2 : Int32) (zx3 : Int32) (zx4 : Int32) (zM5 : Mm) : Option ((Int32 × Int32 × Mm) ⊕ ((Int32 × Mm))) :=
  rdc 2 (zM5 7) 0 fun zv48 =>
  (if (10 + zv48) ≤ zx4 then some (.inr (zx3, zM5))
  else (itr (fun z : Int32 × Mm => LRef_cut_43_79 N a1 a2 zx4 z.1 z.2) N (1, zM5)).bind fun zM80 =>
  rdc 40 (zM80 25) zx4 fun zv81 =>
  (if zv81 = 0 then (sRef_isOff zx4 zM80).bind fun zv85 =>
  (if zv85 = 0 then ltI (zx3 ||| 0) fun zv86 =>
  ltI (zx4 + 1) fun zv87 =>
  some (.inl (zv86, zv87, zM80))
  else ltI (zx3 ||| (1 <<< ((zx4 - 10) &&& 31))) fun zv88 =>
  ltI (zx4 + 1) fun zv89 =>
  some (.inl (zv88, zv89, zM80)))
  else ltI (zx3 ||| 0) fun zv83 =>
  ltI (zx4 + 1) fun zv84 =>
  some (.inl (zv83, zv84, zM80))))
def sRef_cut (N : Nat) (a1 : Int32) (a2 : Int32) (M : Mm) : Option (Int32 × Mm) :=
  (sRef_in (Int32.toInt64 a1) 1 48).bind fun zv1 =>
  (if zv1 = 0 then some ((-1), M)
  else (sRef_copy N 0 1 M).bind fun zM2 =>
  (itr (fun z : Int32 × Int32 × Mm => LRef_cut_26_90 N a1 a2 z.1 z.2.1 z.2.2) N (0, 10, zM2)).bind fun (zv91, zM92) =>
  some (zv91, zM92))
set_option maxHeartbeats 4000000 in
set_option maxRecDepth 100000 in
theorem cRef_cut (l : Launch) (D : va_G) (cI : ClassId) (h : Nat → Nat) (N : Nat) (a1 : Int32) (a2 : Int32) (M : Mm) (r : Int32) (M' : Mm) (zhs : sRef_cut N a1 a2 M = some (r, M')) : CtI l yX12_cut cX12_cut 7 (some .int) 3 D cI (wR h cI M) (wR h cI M') [.ref (h 0), .int a1, .int a2] r := by
  unfold sRef_cut at zhs
  refine CtI_of (by decide +kernel) (Nat.le_of_ble_eq_true rfl) ⟨_, rfl⟩ ?_
  intro p e s m args below meth c A Q zls zH zlocs C zhw zhl zhret
  have zhx := C.1
  have zhb := C.2.1
  have zhown := C.2.2.2.2.1
  have zhtB := C.2.2.2.2.2.2.1
  have zhl : lv_has zls 7 [(0, .ref (h 0)), (1, .int a1), (2, .int a2)] := zhl
  refine lv_iload_n zhx zhb dX12_cut_0 rfl (lv_at zhl 1 rfl) ?_
  refine lv_i2l zhx zhb dX12_cut_1 rfl ?_
  refine lv_lconst (v := 1) zhx zhb dX12_cut_2 (by decide) ?_
  refine lv_ldc2 zhx zhb zhown (zhtB _ kw_16_14) dX12_cut_3 ?_
  obtain ⟨zv1, zhp, zhs⟩ := bnd_e zhs
  refine x_cSI (As := [.long (Int32.toInt64 a1), .long 1, .long 48]) (rest := []) C zhw zhl (cRef_in l D cI h (Int32.toInt64 a1) 1 48 M zv1 zhp) (by decide) (by decide) kw_10_14 kw_10_15 kw_1_5 kw_10_16 md_X12_in rfl rfl (Nat.le_of_ble_eq_true rfl) dX12_cut_6 (fun zH zlocs zhw hzv1 => ?_)
  refine lv_if_ne (tgt := 14) zhx zhb dX12_cut_9 (by decide) (fun zc9 => ?_) (fun zc9 => ?_)
  · replace zhs := br_F zhs zc9
    refine lv_aload_n zhx zhb dX12_cut_14 rfl (lv_at zhl 0 rfl) ?_
    refine lv_iconst (v := 0) zhx zhb dX12_cut_15 (by decide) ?_
    refine lv_iconst (v := 1) zhx zhb dX12_cut_16 (by decide) ?_
    obtain ⟨zM2, zhp, zhs⟩ := bnd_e zhs
    refine x_cVV (As := [.int 0, .int 1]) (rest := []) C zhw zhl (cRef_copy l D cI h N 0 1 M zM2 zhp) (by decide) (by decide) kw_28_9 kw_28_10 kw_28_11 kw_1_5 kw_28_12 md_X12_copy rfl 0 (wR_c0 h cI M) rfl rfl rfl rfl (Nat.le_of_ble_eq_true rfl) dX12_cut_17 (fun zH zlocs zhw => ?_)
    refine lv_iconst (v := 0) zhx zhb dX12_cut_20 (by decide) ?_
    refine lv_istore_n (lv' := [(3, .int 0), (0, .ref (h 0)), (1, .int a1), (2, .int a2)]) zhx zhb dX12_cut_21 rfl zhl (by decide) rfl (fun zls zhl => ?_)
    refine lv_bipush (v := 10) zhx zhb dX12_cut_22 (by decide) ?_
    refine lv_istore (lv' := [(4, .int 10), (3, .int 0), (0, .ref (h 0)), (1, .int a1), (2, .int a2)]) zhx zhb dX12_cut_24 zhl (by decide) rfl (fun zls zhl => ?_)
    obtain ⟨zq90, zhq90, zhs⟩ := bnd_e zhs
    have hloop90 : ∀ (zn : Nat) (zx3 : Int32) (zx4 : Int32) (zM5 : Mm) (zq : (Int32 × Mm)), itr (fun z : Int32 × Int32 × Mm => LRef_cut_26_90 N a1 a2 z.1 z.2.1 z.2.2) zn (zx3, zx4, zM5) = some zq → (∀ (zy1 : Int32) (zy2 : Mm), (zy1, zy2) = zq → ∀ (zH : Heap) (zlocs : List Loc) (zls : Array Slot), lv_has zls 7 [(3, .int zy1)] → Hw D (wR h cI zy2) A s.heap zH zlocs → W p l e (RM 3) s m args below meth c zH zlocs 0 0 Q (F0 m 162 zls [])) → ∀ (zH : Heap) (zlocs : List Loc) (zls : Array Slot), lv_has zls 7 [(4, .int zx4), (3, .int zx3), (0, .ref (h 0)), (1, .int a1), (2, .int a2)] → Hw D (wR h cI zM5) A s.heap zH zlocs → W p l e (RM 3) s m args below meth c zH zlocs 0 0 Q (F0 m 26 zls []) := by
      intro zn
      induction zn with
      | zero => intro zx3 zx4 zM5 zq zhq; exact absurd zhq (fun h9 => itr_0 h9)
      | succ zn zih =>
          intro zx3 zx4 zM5 zq zhq k26_162 zH zlocs zls zhl zhw
          obtain ⟨zy9, zhs, zhq⟩ := itr_s zhq
          replace zhs : LRef_cut_26_90 N a1 a2 zx3 zx4 zM5 = some zy9 := zhs
          unfold LRef_cut_26_90 at zhs
          refine lv_iload zhx zhb dX12_cut_26 (lv_at zhl 0 rfl) ?_
          refine lv_bipush (v := 10) zhx zhb dX12_cut_28 (by decide) ?_
          refine lv_aload_n zhx zhb dX12_cut_30 rfl (lv_at zhl 2 rfl) ?_
          refine x_get C zhw inlX12 rfl 0 7 (by decide) kw_8_9 rfl (wR_c0 h cI zM5) rfl dX12_cut_31 ?_
          refine lv_iconst (v := 0) zhx zhb dX12_cut_34 (by decide) ?_
          obtain ⟨zv48, ze9, zhi, zhs⟩ := rdc_v zhs
          refine x_iald C zhw 7 (wR_c7 h cI zM5) zhi dX12_cut_35 ?_
          refine lv_topi (fun zy9 ze8 => ?_)
          obtain rfl : zv48 = zy9 := ze9.trans ze8.symm
          clear ze9 ze8
          refine lv_iadd zhx zhb dX12_cut_36 ?_
          refine lv_icmp_ge (tgt := 162) zhx zhb dX12_cut_37 (by decide) (fun zc9 => ?_) (fun zc9 => ?_)
          · replace zhs := br_T zhs zc9
            cases zhs
            exact k26_162 zx3 zM5 (itk_q zhq) zH zlocs zls (lv_sub zhl [1] rfl) zhw
          · replace zhs := br_F zhs zc9
            refine lv_iconst (v := 1) zhx zhb dX12_cut_40 (by decide) ?_
            refine lv_istore (lv' := [(5, .int 1), (4, .int zx4), (3, .int zx3), (0, .ref (h 0)), (1, .int a1), (2, .int a2)]) zhx zhb dX12_cut_41 zhl (by decide) rfl (fun zls zhl => ?_)
            obtain ⟨zq79, zhq79, zhs⟩ := bnd_e zhs
            have hloop79 : ∀ (zn : Nat) (zx49 : Int32) (zM50 : Mm) (zq : (Mm)), itr (fun z : Int32 × Mm => LRef_cut_43_79 N a1 a2 zx4 z.1 z.2) zn (zx49, zM50) = some zq → (∀ (zy1 : Mm), zy1 = zq → ∀ (zH : Heap) (zlocs : List Loc) (zls : Array Slot), lv_has zls 7 [(4, .int zx4), (3, .int zx3), (0, .ref (h 0)), (1, .int a1), (2, .int a2)] → Hw D (wR h cI zy1) A s.heap zH zlocs → W p l e (RM 3) s m args below meth c zH zlocs 0 0 Q (F0 m 123 zls [])) → ∀ (zH : Heap) (zlocs : List Loc) (zls : Array Slot), lv_has zls 7 [(5, .int zx49), (4, .int zx4), (3, .int zx3), (0, .ref (h 0)), (1, .int a1), (2, .int a2)] → Hw D (wR h cI zM50) A s.heap zH zlocs → W p l e (RM 3) s m args below meth c zH zlocs 0 0 Q (F0 m 43 zls []) := by
              intro zn
              induction zn with
              | zero => intro zx49 zM50 zq zhq; exact absurd zhq (fun h9 => itr_0 h9)
              | succ zn zih =>
                  intro zx49 zM50 zq zhq k43_123 zH zlocs zls zhl zhw
                  obtain ⟨zy9, zhs, zhq⟩ := itr_s zhq
                  replace zhs : LRef_cut_43_79 N a1 a2 zx4 zx49 zM50 = some zy9 := zhs
                  unfold LRef_cut_43_79 at zhs
                  refine lv_iload zhx zhb dX12_cut_43 (lv_at zhl 0 rfl) ?_
                  refine lv_iload_n zhx zhb dX12_cut_45 rfl (lv_at zhl 4 rfl) ?_
                  refine lv_icmp_gt (tgt := 123) zhx zhb dX12_cut_46 (by decide) (fun zc9 => ?_) (fun zc9 => ?_)
                  · replace zhs := br_T zhs zc9
                    cases zhs
                    exact k43_123 zM50 (itk_q zhq) zH zlocs zls (lv_sub zhl [1, 2, 3, 4, 5] rfl) zhw
                  · replace zhs := br_F zhs zc9
                    refine lv_aload_n zhx zhb dX12_cut_49 rfl (lv_at zhl 3 rfl) ?_
                    refine x_get C zhw inlX12 rfl 0 3 (by decide) kw_8_5 rfl (wR_c0 h cI zM50) rfl dX12_cut_50 ?_
                    refine lv_aload_n zhx zhb dX12_cut_53 rfl (lv_at zhl 3 rfl) ?_
                    refine x_get C zhw inlX12 rfl 0 23 (by decide) kw_9_1 rfl (wR_c0 h cI zM50) rfl dX12_cut_54 ?_
                    refine lv_iload zhx zhb dX12_cut_57 (lv_at zhl 1 rfl) ?_
                    obtain ⟨zv65, ze9, zhi, zhs⟩ := rdc_v zhs
                    refine x_iald C zhw 23 (wR_c23 h cI zM50) zhi dX12_cut_59 ?_
                    refine lv_topi (fun zy9 ze8 => ?_)
                    obtain rfl : zv65 = zy9 := ze9.trans ze8.symm
                    clear ze9 ze8
                    obtain ⟨zv66, ze9, zhi, zhs⟩ := rdc_v zhs
                    refine x_iald C zhw 3 (wR_c3 h cI zM50) zhi dX12_cut_60 ?_
                    refine lv_topi (fun zy9 ze8 => ?_)
                    obtain rfl : zv66 = zy9 := ze9.trans ze8.symm
                    clear ze9 ze8
                    refine lv_iconst (v := 3) zhx zhb dX12_cut_61 (by decide) ?_
                    refine lv_iload zhx zhb dX12_cut_62 (lv_at zhl 0 rfl) ?_
                    refine lv_imul zhx zhb dX12_cut_64 ?_
                    refine lv_iadd zhx zhb dX12_cut_65 ?_
                    refine lv_iload_n zhx zhb dX12_cut_66 rfl (lv_at zhl 5 rfl) ?_
                    obtain ⟨zv69, zhq, zhs⟩ := bnd_e zhs
                    have hJ70 : ∀ (zH : Heap) (zlocs : List Loc) (zls : Array Slot), lv_has zls 7 [(5, .int zx49), (4, .int zx4), (3, .int zx3), (0, .ref (h 0)), (1, .int a1), (2, .int a2)] → Hw D (wR h cI zM50) A s.heap zH zlocs → W p l e (RM 3) s m args below meth c zH zlocs 0 0 Q (F0 m 92 zls [.int zv69, .int (zv66 + (3 * zx49))]) := by
                      intro zH zlocs zls zhl zhw
                      refine lv_iadd zhx zhb dX12_cut_92 ?_
                      obtain ⟨zv73, ze9, zhs⟩ := ltI_e zhs
                      refine lv_topi (fun zy9 ze8 => ?_)
                      obtain rfl : zv73 = zy9 := ze9.trans ze8.symm
                      clear ze9 ze8
                      refine lv_istore (lv' := [(6, .int zv73), (5, .int zx49), (4, .int zx4), (3, .int zx3), (0, .ref (h 0)), (1, .int a1), (2, .int a2)]) zhx zhb dX12_cut_93 zhl (by decide) rfl (fun zls zhl => ?_)
                      refine lv_aload_n zhx zhb dX12_cut_95 rfl (lv_at zhl 4 rfl) ?_
                      refine x_get C zhw inlX12 rfl 0 24 (by decide) kw_9_2 rfl (wR_c0 h cI zM50) rfl dX12_cut_96 ?_
                      refine lv_iload zhx zhb dX12_cut_99 (lv_at zhl 2 rfl) ?_
                      refine lv_dup2_11 zhx zhb dX12_cut_101 rfl rfl ?_
                      obtain ⟨zv74, ze9, zhi, zhs⟩ := rdc_v zhs
                      refine x_iald C zhw 24 (wR_c24 h cI zM50) zhi dX12_cut_102 ?_
                      refine lv_topi (fun zy9 ze8 => ?_)
                      obtain rfl : zv74 = zy9 := ze9.trans ze8.symm
                      clear ze9 ze8
                      refine lv_aload_n zhx zhb dX12_cut_103 rfl (lv_at zhl 4 rfl) ?_
                      refine x_get C zhw inlX12 rfl 0 22 (by decide) kw_9_0 rfl (wR_c0 h cI zM50) rfl dX12_cut_104 ?_
                      refine lv_iload zhx zhb dX12_cut_107 (lv_at zhl 2 rfl) ?_
                      obtain ⟨zv75, ze9, zhi, zhs⟩ := rdc_v zhs
                      refine x_iald C zhw 22 (wR_c22 h cI zM50) zhi dX12_cut_109 ?_
                      refine lv_topi (fun zy9 ze8 => ?_)
                      obtain rfl : zv75 = zy9 := ze9.trans ze8.symm
                      clear ze9 ze8
                      refine lv_iload zhx zhb dX12_cut_110 (lv_at zhl 0 rfl) ?_
                      obtain ⟨zv76, zhp, zhs⟩ := bnd_e zhs
                      refine x_cSI (As := [.int zv75, .int zv73]) (rest := [.int zv74, .int zx4, .ref (h 24)]) C zhw zhl (cRef_agesBy l D cI h zv75 zv73 zM50 zv76 zhp) (by decide) (by decide) kw_23_23 kw_24_0 kw_1_5 kw_24_1 md_X12_agesBy rfl rfl (Nat.le_of_ble_eq_true rfl) dX12_cut_112 (fun zH zlocs zhw hn9 => ?_)
                      refine lv_iadd zhx zhb dX12_cut_115 ?_
                      obtain ⟨zhi, zhs⟩ := inc_e zhs
                      refine x_iast C zhw 24 (wR_c24 h cI zM50) zhi (wR_a24 h cI zM50 _ _) dX12_cut_116 (fun zH zlocs zhw => ?_)
                      obtain ⟨zM77, ze9, zhs⟩ := ltM_e zhs
                      rw [← ze9] at zhw; clear ze9
                      obtain ⟨zv78, ze9, zhs⟩ := ltI_e zhs
                      refine lv_iinc (v := zv78) (lv' := [(5, .int zv78), (6, .int zv73), (4, .int zx4), (3, .int zx3), (0, .ref (h 0)), (1, .int a1), (2, .int a2)]) zhx zhb dX12_cut_117 zhl (k := 1) rfl (by rw [ze9]; rfl) (by decide) rfl (fun zls zhl => ?_)
                      clear ze9
                      refine lv_goto (tgt := 43) zhx zhb dX12_cut_120 (by decide) ?_
                      cases zhs
                      exact zih zv78 zM77 zq (itk_l zhq) k43_123 zH zlocs zls (lv_sub zhl [0, 2, 3, 4, 5, 6] rfl) zhw
                    replace zhs := zhq
                    clear zhq
                    refine lv_if_eq (tgt := 91) zhx zhb dX12_cut_67 (by decide) (fun zc9 => ?_) (fun zc9 => ?_)
                    · replace zhs := br_T zhs zc9
                      refine lv_iconst (v := 0) zhx zhb dX12_cut_91 (by decide) ?_
                      cases zhs
                      exact hJ70 zH zlocs zls zhl zhw
                    · replace zhs := br_F zhs zc9
                      refine lv_iload zhx zhb dX12_cut_70 (lv_at zhl 0 rfl) ?_
                      refine lv_iconst (v := 1) zhx zhb dX12_cut_72 (by decide) ?_
                      refine lv_icmp_ne (tgt := 91) zhx zhb dX12_cut_73 (by decide) (fun zc9 => ?_) (fun zc9 => ?_)
                      · replace zhs := br_F zhs zc9
                        refine lv_iconst (v := 0) zhx zhb dX12_cut_91 (by decide) ?_
                        cases zhs
                        exact hJ70 zH zlocs zls zhl zhw
                      · replace zhs := br_T zhs zc9
                        refine lv_aload_n zhx zhb dX12_cut_76 rfl (lv_at zhl 3 rfl) ?_
                        refine x_get C zhw inlX12 rfl 0 4 (by decide) kw_8_6 rfl (wR_c0 h cI zM50) rfl dX12_cut_77 ?_
                        refine lv_aload_n zhx zhb dX12_cut_80 rfl (lv_at zhl 3 rfl) ?_
                        refine x_get C zhw inlX12 rfl 0 23 (by decide) kw_9_1 rfl (wR_c0 h cI zM50) rfl dX12_cut_81 ?_
                        refine lv_iload zhx zhb dX12_cut_84 (lv_at zhl 1 rfl) ?_
                        obtain ⟨zv71, ze9, zhi, zhs⟩ := rdc_v zhs
                        refine x_iald C zhw 23 (wR_c23 h cI zM50) zhi dX12_cut_86 ?_
                        refine lv_topi (fun zy9 ze8 => ?_)
                        obtain rfl : zv71 = zy9 := ze9.trans ze8.symm
                        clear ze9 ze8
                        obtain ⟨zv72, ze9, zhi, zhs⟩ := rdc_v zhs
                        refine x_iald C zhw 4 (wR_c4 h cI zM50) zhi dX12_cut_87 ?_
                        refine lv_topi (fun zy9 ze8 => ?_)
                        obtain rfl : zv72 = zy9 := ze9.trans ze8.symm
                        clear ze9 ze8
                        refine lv_goto (tgt := 92) zhx zhb dX12_cut_88 (by decide) ?_
                        cases zhs
                        exact hJ70 zH zlocs zls zhl zhw
            refine hloop79 N 1 zM5 zq79 zhq79 (fun zM80 zhqe zH zlocs zls zhl zhw => ?_) zH zlocs zls zhl zhw
            · subst zhqe
              refine lv_iload_n zhx zhb dX12_cut_123 rfl (lv_at zhl 1 rfl) ?_
              refine lv_aload_n zhx zhb dX12_cut_124 rfl (lv_at zhl 2 rfl) ?_
              refine x_get C zhw inlX12 rfl 0 25 (by decide) kw_9_3 rfl (wR_c0 h cI zM80) rfl dX12_cut_125 ?_
              refine lv_iload zhx zhb dX12_cut_128 (lv_at zhl 0 rfl) ?_
              obtain ⟨zv81, ze9, zhi, zhs⟩ := rdc_v zhs
              refine x_iald C zhw 25 (wR_c25 h cI zM80) zhi dX12_cut_130 ?_
              refine lv_topi (fun zy9 ze8 => ?_)
              obtain rfl : zv81 = zy9 := ze9.trans ze8.symm
              clear ze9 ze8
              refine lv_if_ne (tgt := 153) zhx zhb dX12_cut_131 (by decide) (fun zc9 => ?_) (fun zc9 => ?_)
              · replace zhs := br_F zhs zc9
                refine lv_iconst (v := 0) zhx zhb dX12_cut_153 (by decide) ?_
                refine lv_ior zhx zhb dX12_cut_154 ?_
                obtain ⟨zv83, ze9, zhs⟩ := ltI_e zhs
                refine lv_topi (fun zy9 ze8 => ?_)
                obtain rfl : zv83 = zy9 := ze9.trans ze8.symm
                clear ze9 ze8
                refine lv_istore_n (lv' := [(3, .int zv83), (4, .int zx4), (0, .ref (h 0)), (1, .int a1), (2, .int a2)]) zhx zhb dX12_cut_155 rfl zhl (by decide) rfl (fun zls zhl => ?_)
                obtain ⟨zv84, ze9, zhs⟩ := ltI_e zhs
                refine lv_iinc (v := zv84) (lv' := [(4, .int zv84), (3, .int zv83), (0, .ref (h 0)), (1, .int a1), (2, .int a2)]) zhx zhb dX12_cut_156 zhl (k := 1) rfl (by rw [ze9]; rfl) (by decide) rfl (fun zls zhl => ?_)
                clear ze9
                refine lv_goto (tgt := 26) zhx zhb dX12_cut_159 (by decide) ?_
                cases zhs
                exact zih zv83 zv84 zM80 zq (itk_l zhq) k26_162 zH zlocs zls zhl zhw
              · replace zhs := br_T zhs zc9
                refine lv_aload_n zhx zhb dX12_cut_134 rfl (lv_at zhl 2 rfl) ?_
                refine lv_iload zhx zhb dX12_cut_135 (lv_at zhl 0 rfl) ?_
                obtain ⟨zv85, zhp, zhs⟩ := bnd_e zhs
                refine x_cVI (As := [.int zx4]) (rest := [.int zx3]) C zhw zhl (cRef_isOff l D cI h zx4 zM80 zv85 zhp) (by decide) (by decide) kw_20_7 kw_20_8 kw_20_9 kw_1_5 kw_20_10 md_X12_isOff rfl 0 (wR_c0 h cI zM80) rfl rfl rfl rfl (Nat.le_of_ble_eq_true rfl) dX12_cut_137 (fun zH zlocs zhw hzv85 => ?_)
                refine lv_if_eq (tgt := 153) zhx zhb dX12_cut_140 (by decide) (fun zc9 => ?_) (fun zc9 => ?_)
                · replace zhs := br_T zhs zc9
                  refine lv_iconst (v := 0) zhx zhb dX12_cut_153 (by decide) ?_
                  refine lv_ior zhx zhb dX12_cut_154 ?_
                  obtain ⟨zv86, ze9, zhs⟩ := ltI_e zhs
                  refine lv_topi (fun zy9 ze8 => ?_)
                  obtain rfl : zv86 = zy9 := ze9.trans ze8.symm
                  clear ze9 ze8
                  refine lv_istore_n (lv' := [(3, .int zv86), (4, .int zx4), (0, .ref (h 0)), (1, .int a1), (2, .int a2)]) zhx zhb dX12_cut_155 rfl zhl (by decide) rfl (fun zls zhl => ?_)
                  obtain ⟨zv87, ze9, zhs⟩ := ltI_e zhs
                  refine lv_iinc (v := zv87) (lv' := [(4, .int zv87), (3, .int zv86), (0, .ref (h 0)), (1, .int a1), (2, .int a2)]) zhx zhb dX12_cut_156 zhl (k := 1) rfl (by rw [ze9]; rfl) (by decide) rfl (fun zls zhl => ?_)
                  clear ze9
                  refine lv_goto (tgt := 26) zhx zhb dX12_cut_159 (by decide) ?_
                  cases zhs
                  exact zih zv86 zv87 zM80 zq (itk_l zhq) k26_162 zH zlocs zls zhl zhw
                · replace zhs := br_F zhs zc9
                  refine lv_iconst (v := 1) zhx zhb dX12_cut_143 (by decide) ?_
                  refine lv_iload zhx zhb dX12_cut_144 (lv_at zhl 0 rfl) ?_
                  refine lv_bipush (v := 10) zhx zhb dX12_cut_146 (by decide) ?_
                  refine lv_isub zhx zhb dX12_cut_148 ?_
                  refine lv_ishl zhx zhb dX12_cut_149 ?_
                  refine lv_goto (tgt := 154) zhx zhb dX12_cut_150 (by decide) ?_
                  refine lv_ior zhx zhb dX12_cut_154 ?_
                  obtain ⟨zv88, ze9, zhs⟩ := ltI_e zhs
                  refine lv_topi (fun zy9 ze8 => ?_)
                  obtain rfl : zv88 = zy9 := ze9.trans ze8.symm
                  clear ze9 ze8
                  refine lv_istore_n (lv' := [(3, .int zv88), (4, .int zx4), (0, .ref (h 0)), (1, .int a1), (2, .int a2)]) zhx zhb dX12_cut_155 rfl zhl (by decide) rfl (fun zls zhl => ?_)
                  obtain ⟨zv89, ze9, zhs⟩ := ltI_e zhs
                  refine lv_iinc (v := zv89) (lv' := [(4, .int zv89), (3, .int zv88), (0, .ref (h 0)), (1, .int a1), (2, .int a2)]) zhx zhb dX12_cut_156 zhl (k := 1) rfl (by rw [ze9]; rfl) (by decide) rfl (fun zls zhl => ?_)
                  clear ze9
                  refine lv_goto (tgt := 26) zhx zhb dX12_cut_159 (by decide) ?_
                  cases zhs
                  exact zih zv88 zv89 zM80 zq (itk_l zhq) k26_162 zH zlocs zls zhl zhw
    refine hloop90 N 0 10 zM2 zq90 zhq90 (fun zv91 zM92 zhqe zH zlocs zls zhl zhw => ?_) zH zlocs zls zhl zhw
    · subst zhqe
      try dsimp only at zhs
      refine lv_iload_n zhx zhb dX12_cut_162 rfl (lv_at zhl 0 rfl) ?_
      cases zhs
      exact zhret _ _ _ _ dX12_cut_163 (by rfl) zhw
  · replace zhs := br_T zhs zc9
    refine lv_iconst (v := (-1)) zhx zhb dX12_cut_12 (by decide) ?_
    cases zhs
    exact zhret _ _ _ _ dX12_cut_13 (by rfl) zhw

