-- OffFirstModel.isOff in (0, ())
def sRef_isOff (a1 : Int32) (M : Mm) : Option Int32 :=
  rdc 40 (M 24) a1 fun zv1 =>
  (sRef_limitOf a1 M).bind fun zv2 =>
  (if zv1 < zv2 then some 0
  else some 1)
set_option maxHeartbeats 4000000 in
set_option maxRecDepth 100000 in
theorem cRef_isOff (l : Launch) (D : va_G) (cI : ClassId) (h : Nat → Nat) (a1 : Int32) (M : Mm) (r : Int32) (zhs : sRef_isOff a1 M = some r) : CtI l yX12_isOff cX12_isOff 2 (some .boolean) 2 D cI (wR h cI M) (wR h cI M) [.ref (h 0), .int a1] r := by
  unfold sRef_isOff at zhs
  refine CtI_of (by decide +kernel) (Nat.le_of_ble_eq_true rfl) ⟨_, rfl⟩ ?_
  intro p e s m args below meth c A Q zls zH zlocs C zhw zhl zhret
  have zhx := C.1
  have zhb := C.2.1
  have zhown := C.2.2.2.2.1
  have zhtB := C.2.2.2.2.2.2.1
  have zhl : lv_has zls 2 [(0, .ref (h 0)), (1, .int a1)] := zhl
  refine lv_aload_n zhx zhb dX12_isOff_0 rfl (lv_at zhl 0 rfl) ?_
  refine x_get C zhw inlX12 rfl 0 24 (by decide) kw_9_2 rfl (wR_c0 h cI M) rfl dX12_isOff_1 ?_
  refine lv_iload_n zhx zhb dX12_isOff_4 rfl (lv_at zhl 1 rfl) ?_
  obtain ⟨zv1, ze9, zhi, zhs⟩ := rdc_v zhs
  refine x_iald C zhw 24 (wR_c24 h cI M) zhi dX12_isOff_5 ?_
  refine lv_topi (fun zy9 ze8 => ?_)
  obtain rfl : zv1 = zy9 := ze9.trans ze8.symm
  clear ze9 ze8
  refine lv_aload_n zhx zhb dX12_isOff_6 rfl (lv_at zhl 0 rfl) ?_
  refine lv_iload_n zhx zhb dX12_isOff_7 rfl (lv_at zhl 1 rfl) ?_
  obtain ⟨zv2, zhp, zhs⟩ := bnd_e zhs
  refine x_cVI (As := [.int a1]) (rest := [.int zv1]) C zhw zhl (cRef_limitOf l D cI h a1 M zv2 zhp) (by decide) (by decide) kw_20_3 kw_20_4 kw_20_5 kw_1_5 kw_20_6 md_X12_limitOf rfl 0 (wR_c0 h cI M) rfl rfl rfl rfl (Nat.le_of_ble_eq_true rfl) dX12_isOff_8 (fun zH zlocs zhw hn9 => ?_)
  refine lv_icmp_lt (tgt := 18) zhx zhb dX12_isOff_11 (by decide) (fun zc9 => ?_) (fun zc9 => ?_)
  · replace zhs := br_T zhs zc9
    refine lv_iconst (v := 0) zhx zhb dX12_isOff_18 (by decide) ?_
    cases zhs
    exact zhret _ _ _ _ dX12_isOff_19 (by rfl) zhw
  · replace zhs := br_F zhs zc9
    refine lv_iconst (v := 1) zhx zhb dX12_isOff_14 (by decide) ?_
    refine lv_goto (tgt := 19) zhx zhb dX12_isOff_15 (by decide) ?_
    cases zhs
    exact zhret _ _ _ _ dX12_isOff_19 (by rfl) zhw

-- OffFirstModel.food in (0, ())
def sRef_food (a1 : Int32) (a2 : Int32) (M : Mm) : Option Int32 :=
  (sRef_isFood a1 M).bind fun zv1 =>
  (if zv1 = 0 then some (-1)
  else (sRef_in (Int32.toInt64 a2) 0 6).bind fun zv2 =>
  (if zv2 = 0 then some (-1)
  else (if a2 = 0 then rdc 40 (M 22) a1 fun zv3 =>
  some zv3
  else (if a2 = 1 then rdc 40 (M 23) a1 fun zv4 =>
  some zv4
  else (if a2 = 2 then rdc 40 (M 24) a1 fun zv5 =>
  some zv5
  else (if a2 = 3 then (sRef_limitOf a1 M).bind fun zv6 =>
  some zv6
  else (if a2 = 4 then rdc 40 (M 25) a1 fun zv7 =>
  some zv7
  else (if a2 = 5 then (sRef_isOff a1 M).bind fun zv8 =>
  (if zv8 = 0 then some 0
  else some 1)
  else rdc 20 (M 13) a1 fun zv9 =>
  some zv9))))))))
set_option maxHeartbeats 4000000 in
set_option maxRecDepth 100000 in
theorem cRef_food (l : Launch) (D : va_G) (cI : ClassId) (h : Nat → Nat) (a1 : Int32) (a2 : Int32) (M : Mm) (r : Int32) (zhs : sRef_food a1 a2 M = some r) : CtI l yX12_food cX12_food 3 (some .int) 3 D cI (wR h cI M) (wR h cI M) [.ref (h 0), .int a1, .int a2] r := by
  unfold sRef_food at zhs
  refine CtI_of (by decide +kernel) (Nat.le_of_ble_eq_true rfl) ⟨_, rfl⟩ ?_
  intro p e s m args below meth c A Q zls zH zlocs C zhw zhl zhret
  have zhx := C.1
  have zhb := C.2.1
  have zhown := C.2.2.2.2.1
  have zhtB := C.2.2.2.2.2.2.1
  have zhl : lv_has zls 3 [(0, .ref (h 0)), (1, .int a1), (2, .int a2)] := zhl
  refine lv_aload_n zhx zhb dX12_food_0 rfl (lv_at zhl 0 rfl) ?_
  refine lv_iload_n zhx zhb dX12_food_1 rfl (lv_at zhl 1 rfl) ?_
  obtain ⟨zv1, zhp, zhs⟩ := bnd_e zhs
  refine x_cVI (As := [.int a1]) (rest := []) C zhw zhl (cRef_isFood l D cI h a1 M zv1 zhp) (by decide) (by decide) kw_19_23 kw_20_0 kw_20_1 kw_1_5 kw_20_2 md_X12_isFood rfl 0 (wR_c0 h cI M) rfl rfl rfl rfl (Nat.le_of_ble_eq_true rfl) dX12_food_2 (fun zH zlocs zhw hzv1 => ?_)
  refine lv_if_eq (tgt := 20) zhx zhb dX12_food_5 (by decide) (fun zc9 => ?_) (fun zc9 => ?_)
  · replace zhs := br_T zhs zc9
    refine lv_iconst (v := (-1)) zhx zhb dX12_food_20 (by decide) ?_
    cases zhs
    exact zhret _ _ _ _ dX12_food_21 (by rfl) zhw
  · replace zhs := br_F zhs zc9
    refine lv_iload_n zhx zhb dX12_food_8 rfl (lv_at zhl 2 rfl) ?_
    refine lv_i2l zhx zhb dX12_food_9 rfl ?_
    refine lv_lconst (v := 0) zhx zhb dX12_food_10 (by decide) ?_
    refine lv_ldc2 zhx zhb zhown (zhtB _ kw_19_22) dX12_food_11 ?_
    obtain ⟨zv2, zhp, zhs⟩ := bnd_e zhs
    refine x_cSI (As := [.long (Int32.toInt64 a2), .long 0, .long 6]) (rest := []) C zhw zhl (cRef_in l D cI h (Int32.toInt64 a2) 0 6 M zv2 zhp) (by decide) (by decide) kw_10_14 kw_10_15 kw_1_5 kw_10_16 md_X12_in rfl rfl (Nat.le_of_ble_eq_true rfl) dX12_food_14 (fun zH zlocs zhw hzv2 => ?_)
    refine lv_if_ne (tgt := 22) zhx zhb dX12_food_17 (by decide) (fun zc9 => ?_) (fun zc9 => ?_)
    · replace zhs := br_F zhs zc9
      refine lv_iload_n zhx zhb dX12_food_22 rfl (lv_at zhl 2 rfl) ?_
      rcases Decidable.em (a2 = 0) with zc9 | c1000
      · replace zhs := br_T zhs zc9
        refine lv_tableIn (tgt := 60) (off := 37) zhx zhb dX12_food_23 (by rw [zc9]; decide) (by rw [zc9]; decide) (by rw [zc9]; decide) (by decide) ?_
        refine lv_aload_n zhx zhb dX12_food_60 rfl (lv_at zhl 0 rfl) ?_
        refine x_get C zhw inlX12 rfl 0 22 (by decide) kw_9_0 rfl (wR_c0 h cI M) rfl dX12_food_61 ?_
        refine lv_iload_n zhx zhb dX12_food_64 rfl (lv_at zhl 1 rfl) ?_
        obtain ⟨zv3, ze9, zhi, zhs⟩ := rdc_v zhs
        refine x_iald C zhw 22 (wR_c22 h cI M) zhi dX12_food_65 ?_
        refine lv_topi (fun zy9 ze8 => ?_)
        obtain rfl : zv3 = zy9 := ze9.trans ze8.symm
        clear ze9 ze8
        cases zhs
        exact zhret _ _ _ _ dX12_food_66 (by rfl) zhw
      replace zhs := br_F zhs c1000
      rcases Decidable.em (a2 = 1) with zc9 | c1001
      · replace zhs := br_T zhs zc9
        refine lv_tableIn (tgt := 67) (off := 44) zhx zhb dX12_food_23 (by rw [zc9]; decide) (by rw [zc9]; decide) (by rw [zc9]; decide) (by decide) ?_
        refine lv_aload_n zhx zhb dX12_food_67 rfl (lv_at zhl 0 rfl) ?_
        refine x_get C zhw inlX12 rfl 0 23 (by decide) kw_9_1 rfl (wR_c0 h cI M) rfl dX12_food_68 ?_
        refine lv_iload_n zhx zhb dX12_food_71 rfl (lv_at zhl 1 rfl) ?_
        obtain ⟨zv4, ze9, zhi, zhs⟩ := rdc_v zhs
        refine x_iald C zhw 23 (wR_c23 h cI M) zhi dX12_food_72 ?_
        refine lv_topi (fun zy9 ze8 => ?_)
        obtain rfl : zv4 = zy9 := ze9.trans ze8.symm
        clear ze9 ze8
        cases zhs
        exact zhret _ _ _ _ dX12_food_73 (by rfl) zhw
      replace zhs := br_F zhs c1001
      rcases Decidable.em (a2 = 2) with zc9 | c1002
      · replace zhs := br_T zhs zc9
        refine lv_tableIn (tgt := 74) (off := 51) zhx zhb dX12_food_23 (by rw [zc9]; decide) (by rw [zc9]; decide) (by rw [zc9]; decide) (by decide) ?_
        refine lv_aload_n zhx zhb dX12_food_74 rfl (lv_at zhl 0 rfl) ?_
        refine x_get C zhw inlX12 rfl 0 24 (by decide) kw_9_2 rfl (wR_c0 h cI M) rfl dX12_food_75 ?_
        refine lv_iload_n zhx zhb dX12_food_78 rfl (lv_at zhl 1 rfl) ?_
        obtain ⟨zv5, ze9, zhi, zhs⟩ := rdc_v zhs
        refine x_iald C zhw 24 (wR_c24 h cI M) zhi dX12_food_79 ?_
        refine lv_topi (fun zy9 ze8 => ?_)
        obtain rfl : zv5 = zy9 := ze9.trans ze8.symm
        clear ze9 ze8
        cases zhs
        exact zhret _ _ _ _ dX12_food_80 (by rfl) zhw
      replace zhs := br_F zhs c1002
      rcases Decidable.em (a2 = 3) with zc9 | c1003
      · replace zhs := br_T zhs zc9
        refine lv_tableIn (tgt := 81) (off := 58) zhx zhb dX12_food_23 (by rw [zc9]; decide) (by rw [zc9]; decide) (by rw [zc9]; decide) (by decide) ?_
        refine lv_aload_n zhx zhb dX12_food_81 rfl (lv_at zhl 0 rfl) ?_
        refine lv_iload_n zhx zhb dX12_food_82 rfl (lv_at zhl 1 rfl) ?_
        obtain ⟨zv6, zhp, zhs⟩ := bnd_e zhs
        refine x_cVI (As := [.int a1]) (rest := []) C zhw zhl (cRef_limitOf l D cI h a1 M zv6 zhp) (by decide) (by decide) kw_20_3 kw_20_4 kw_20_5 kw_1_5 kw_20_6 md_X12_limitOf rfl 0 (wR_c0 h cI M) rfl rfl rfl rfl (Nat.le_of_ble_eq_true rfl) dX12_food_83 (fun zH zlocs zhw hn9 => ?_)
        cases zhs
        exact zhret _ _ _ _ dX12_food_86 (by rfl) zhw
      replace zhs := br_F zhs c1003
      rcases Decidable.em (a2 = 4) with zc9 | c1004
      · replace zhs := br_T zhs zc9
        refine lv_tableIn (tgt := 87) (off := 64) zhx zhb dX12_food_23 (by rw [zc9]; decide) (by rw [zc9]; decide) (by rw [zc9]; decide) (by decide) ?_
        refine lv_aload_n zhx zhb dX12_food_87 rfl (lv_at zhl 0 rfl) ?_
        refine x_get C zhw inlX12 rfl 0 25 (by decide) kw_9_3 rfl (wR_c0 h cI M) rfl dX12_food_88 ?_
        refine lv_iload_n zhx zhb dX12_food_91 rfl (lv_at zhl 1 rfl) ?_
        obtain ⟨zv7, ze9, zhi, zhs⟩ := rdc_v zhs
        refine x_iald C zhw 25 (wR_c25 h cI M) zhi dX12_food_92 ?_
        refine lv_topi (fun zy9 ze8 => ?_)
        obtain rfl : zv7 = zy9 := ze9.trans ze8.symm
        clear ze9 ze8
        cases zhs
        exact zhret _ _ _ _ dX12_food_93 (by rfl) zhw
      replace zhs := br_F zhs c1004
      rcases Decidable.em (a2 = 5) with zc9 | c1005
      · replace zhs := br_T zhs zc9
        refine lv_tableIn (tgt := 94) (off := 71) zhx zhb dX12_food_23 (by rw [zc9]; decide) (by rw [zc9]; decide) (by rw [zc9]; decide) (by decide) ?_
        refine lv_aload_n zhx zhb dX12_food_94 rfl (lv_at zhl 0 rfl) ?_
        refine lv_iload_n zhx zhb dX12_food_95 rfl (lv_at zhl 1 rfl) ?_
        obtain ⟨zv8, zhp, zhs⟩ := bnd_e zhs
        refine x_cVI (As := [.int a1]) (rest := []) C zhw zhl (cRef_isOff l D cI h a1 M zv8 zhp) (by decide) (by decide) kw_20_7 kw_20_8 kw_20_9 kw_1_5 kw_20_10 md_X12_isOff rfl 0 (wR_c0 h cI M) rfl rfl rfl rfl (Nat.le_of_ble_eq_true rfl) dX12_food_96 (fun zH zlocs zhw hzv8 => ?_)
        refine lv_if_eq (tgt := 106) zhx zhb dX12_food_99 (by decide) (fun zc9 => ?_) (fun zc9 => ?_)
        · replace zhs := br_T zhs zc9
          refine lv_iconst (v := 0) zhx zhb dX12_food_106 (by decide) ?_
          cases zhs
          exact zhret _ _ _ _ dX12_food_107 (by rfl) zhw
        · replace zhs := br_F zhs zc9
          refine lv_iconst (v := 1) zhx zhb dX12_food_102 (by decide) ?_
          refine lv_goto (tgt := 107) zhx zhb dX12_food_103 (by decide) ?_
          cases zhs
          exact zhret _ _ _ _ dX12_food_107 (by rfl) zhw
      replace zhs := br_F zhs c1005
      have zhout : a2.toInt < 0 ∨ 5 < a2.toInt := by
        have f0 : ¬ a2.toInt = 0 := fun zq9 => c1000 (Int32.toInt_inj.mp (zq9.trans rfl))
        have f1 : ¬ a2.toInt = 1 := fun zq9 => c1001 (Int32.toInt_inj.mp (zq9.trans rfl))
        have f2 : ¬ a2.toInt = 2 := fun zq9 => c1002 (Int32.toInt_inj.mp (zq9.trans rfl))
        have f3 : ¬ a2.toInt = 3 := fun zq9 => c1003 (Int32.toInt_inj.mp (zq9.trans rfl))
        have f4 : ¬ a2.toInt = 4 := fun zq9 => c1004 (Int32.toInt_inj.mp (zq9.trans rfl))
        have f5 : ¬ a2.toInt = 5 := fun zq9 => c1005 (Int32.toInt_inj.mp (zq9.trans rfl))
        omega
      refine lv_tableOut (tgt := 108) zhx zhb dX12_food_23 zhout (by decide) ?_
      refine lv_aload_n zhx zhb dX12_food_108 rfl (lv_at zhl 0 rfl) ?_
      refine x_get C zhw inlX12 rfl 0 13 (by decide) kw_8_15 rfl (wR_c0 h cI M) rfl dX12_food_109 ?_
      refine lv_iload_n zhx zhb dX12_food_112 rfl (lv_at zhl 1 rfl) ?_
      obtain ⟨zv9, ze9, zhi, zhs⟩ := rdc_v zhs
      refine x_iald C zhw 13 (wR_c13 h cI M) zhi dX12_food_113 ?_
      refine lv_topi (fun zy9 ze8 => ?_)
      obtain rfl : zv9 = zy9 := ze9.trans ze8.symm
      clear ze9 ze8
      cases zhs
      exact zhret _ _ _ _ dX12_food_114 (by rfl) zhw
    · replace zhs := br_T zhs zc9
      refine lv_iconst (v := (-1)) zhx zhb dX12_food_20 (by decide) ?_
      cases zhs
      exact zhret _ _ _ _ dX12_food_21 (by rfl) zhw

-- OffFirstModel.isCell in (0, ())
def sRef_isCell (a1 : Int32) (M : Mm) : Option Int32 :=
  rdc 2 (M 2) 0 fun zv1 =>
  (sRef_in (Int32.toInt64 a1) 0 (Int32.toInt64 (zv1 - 1))).bind fun zv2 =>
  some zv2
set_option maxHeartbeats 4000000 in
set_option maxRecDepth 100000 in
theorem cRef_isCell (l : Launch) (D : va_G) (cI : ClassId) (h : Nat → Nat) (a1 : Int32) (M : Mm) (r : Int32) (zhs : sRef_isCell a1 M = some r) : CtI l yX12_isCell cX12_isCell 2 (some .boolean) 2 D cI (wR h cI M) (wR h cI M) [.ref (h 0), .int a1] r := by
  unfold sRef_isCell at zhs
  refine CtI_of (by decide +kernel) (Nat.le_of_ble_eq_true rfl) ⟨_, rfl⟩ ?_
  intro p e s m args below meth c A Q zls zH zlocs C zhw zhl zhret
  have zhx := C.1
  have zhb := C.2.1
  have zhown := C.2.2.2.2.1
  have zhtB := C.2.2.2.2.2.2.1
  have zhl : lv_has zls 2 [(0, .ref (h 0)), (1, .int a1)] := zhl
  refine lv_iload_n zhx zhb dX12_isCell_0 rfl (lv_at zhl 1 rfl) ?_
  refine lv_i2l zhx zhb dX12_isCell_1 rfl ?_
  refine lv_lconst (v := 0) zhx zhb dX12_isCell_2 (by decide) ?_
  refine lv_aload_n zhx zhb dX12_isCell_3 rfl (lv_at zhl 0 rfl) ?_
  refine x_get C zhw inlX12 rfl 0 2 (by decide) kw_8_4 rfl (wR_c0 h cI M) rfl dX12_isCell_4 ?_
  refine lv_iconst (v := 0) zhx zhb dX12_isCell_7 (by decide) ?_
  obtain ⟨zv1, ze9, zhi, zhs⟩ := rdc_v zhs
  refine x_iald C zhw 2 (wR_c2 h cI M) zhi dX12_isCell_8 ?_
  refine lv_topi (fun zy9 ze8 => ?_)
  obtain rfl : zv1 = zy9 := ze9.trans ze8.symm
  clear ze9 ze8
  refine lv_iconst (v := 1) zhx zhb dX12_isCell_9 (by decide) ?_
  refine lv_isub zhx zhb dX12_isCell_10 ?_
  refine lv_i2l zhx zhb dX12_isCell_11 rfl ?_
  obtain ⟨zv2, zhp, zhs⟩ := bnd_e zhs
  refine x_cSI (As := [.long (Int32.toInt64 a1), .long 0, .long (Int32.toInt64 (zv1 - 1))]) (rest := []) C zhw zhl (cRef_in l D cI h (Int32.toInt64 a1) 0 (Int32.toInt64 (zv1 - 1)) M zv2 zhp) (by decide) (by decide) kw_10_14 kw_10_15 kw_1_5 kw_10_16 md_X12_in rfl rfl (Nat.le_of_ble_eq_true rfl) dX12_isCell_12 (fun zH zlocs zhw hzv2 => ?_)
  cases zhs
  exact zhret _ _ _ _ dX12_isCell_15 hzv2 zhw

-- OffFirstModel.has in (None, ())
def sRef_has (a1 : Int32) (a2 : Int32) : Option Int32 :=
  (if ((a1 >>> (a2 &&& 31)) &&& 1) = 1 then some 1
  else some 0)
set_option maxHeartbeats 4000000 in
set_option maxRecDepth 100000 in
theorem cRef_has (l : Launch) (D : va_G) (cI : ClassId) (h : Nat → Nat) (a1 : Int32) (a2 : Int32) (M : Mm) (r : Int32) (zhs : sRef_has a1 a2 = some r) : CtI l yX12_has cX12_has 2 (some .boolean) 1 D cI (wR h cI M) (wR h cI M) [.int a1, .int a2] r := by
  unfold sRef_has at zhs
  refine CtI_of (by decide +kernel) (Nat.le_of_ble_eq_true rfl) ⟨_, rfl⟩ ?_
  intro p e s m args below meth c A Q zls zH zlocs C zhw zhl zhret
  have zhx := C.1
  have zhb := C.2.1
  have zhown := C.2.2.2.2.1
  have zhtB := C.2.2.2.2.2.2.1
  have zhl : lv_has zls 2 [(0, .int a1), (1, .int a2)] := zhl
  refine lv_iload_n zhx zhb dX12_has_0 rfl (lv_at zhl 0 rfl) ?_
  refine lv_iload_n zhx zhb dX12_has_1 rfl (lv_at zhl 1 rfl) ?_
  refine lv_ishr zhx zhb dX12_has_2 ?_
  refine lv_iconst (v := 1) zhx zhb dX12_has_3 (by decide) ?_
  refine lv_iand zhx zhb dX12_has_4 ?_
  refine lv_iconst (v := 1) zhx zhb dX12_has_5 (by decide) ?_
  refine lv_icmp_ne (tgt := 13) zhx zhb dX12_has_6 (by decide) (fun zc9 => ?_) (fun zc9 => ?_)
  · replace zhs := br_F zhs zc9
    refine lv_iconst (v := 0) zhx zhb dX12_has_13 (by decide) ?_
    cases zhs
    exact zhret _ _ _ _ dX12_has_14 (by rfl) zhw
  · replace zhs := br_T zhs zc9
    refine lv_iconst (v := 1) zhx zhb dX12_has_9 (by decide) ?_
    refine lv_goto (tgt := 14) zhx zhb dX12_has_10 (by decide) ?_
    cases zhs
    exact zhret _ _ _ _ dX12_has_14 (by rfl) zhw

-- OffFirstModel.warmthOf in (0, ())
def sRef_warmthOf (a1 : Int32) (a2 : Int32) (M : Mm) : Option Int32 :=
  rdc 12 (M 3) a1 fun zv1 =>
  rdc 2 (M 6) 0 fun zv2 =>
  (sRef_has zv2 (remI a2 24)).bind fun zv3 =>
  (if zv3 = 0 then some (zv1 + 0)
  else rdc 12 (M 4) a1 fun zv5 =>
  some (zv1 + zv5))
set_option maxHeartbeats 4000000 in
set_option maxRecDepth 100000 in
theorem cRef_warmthOf (l : Launch) (D : va_G) (cI : ClassId) (h : Nat → Nat) (a1 : Int32) (a2 : Int32) (M : Mm) (r : Int32) (zhs : sRef_warmthOf a1 a2 M = some r) : CtI l yX12_warmthOf cX12_warmthOf 3 (some .int) 2 D cI (wR h cI M) (wR h cI M) [.ref (h 0), .int a1, .int a2] r := by
  unfold sRef_warmthOf at zhs
  refine CtI_of (by decide +kernel) (Nat.le_of_ble_eq_true rfl) ⟨_, rfl⟩ ?_
  intro p e s m args below meth c A Q zls zH zlocs C zhw zhl zhret
  have zhx := C.1
  have zhb := C.2.1
  have zhown := C.2.2.2.2.1
  have zhtB := C.2.2.2.2.2.2.1
  have zhl : lv_has zls 3 [(0, .ref (h 0)), (1, .int a1), (2, .int a2)] := zhl
  refine lv_aload_n zhx zhb dX12_warmthOf_0 rfl (lv_at zhl 0 rfl) ?_
  refine x_get C zhw inlX12 rfl 0 3 (by decide) kw_8_5 rfl (wR_c0 h cI M) rfl dX12_warmthOf_1 ?_
  refine lv_iload_n zhx zhb dX12_warmthOf_4 rfl (lv_at zhl 1 rfl) ?_
  obtain ⟨zv1, ze9, zhi, zhs⟩ := rdc_v zhs
  refine x_iald C zhw 3 (wR_c3 h cI M) zhi dX12_warmthOf_5 ?_
  refine lv_topi (fun zy9 ze8 => ?_)
  obtain rfl : zv1 = zy9 := ze9.trans ze8.symm
  clear ze9 ze8
  refine lv_aload_n zhx zhb dX12_warmthOf_6 rfl (lv_at zhl 0 rfl) ?_
  refine x_get C zhw inlX12 rfl 0 6 (by decide) kw_8_8 rfl (wR_c0 h cI M) rfl dX12_warmthOf_7 ?_
  refine lv_iconst (v := 0) zhx zhb dX12_warmthOf_10 (by decide) ?_
  obtain ⟨zv2, ze9, zhi, zhs⟩ := rdc_v zhs
  refine x_iald C zhw 6 (wR_c6 h cI M) zhi dX12_warmthOf_11 ?_
  refine lv_topi (fun zy9 ze8 => ?_)
  obtain rfl : zv2 = zy9 := ze9.trans ze8.symm
  clear ze9 ze8
  refine lv_iload_n zhx zhb dX12_warmthOf_12 rfl (lv_at zhl 2 rfl) ?_
  refine lv_bipush (v := 24) zhx zhb dX12_warmthOf_13 (by decide) ?_
  refine lv_irem zhx zhb dX12_warmthOf_15 (by decide) ?_
  obtain ⟨zv3, zhp, zhs⟩ := bnd_e zhs
  refine x_cSI (As := [.int zv2, .int (remI a2 24)]) (rest := [.int zv1]) C zhw zhl (cRef_has l D cI h zv2 (remI a2 24) M zv3 zhp) (by decide) (by decide) kw_21_14 kw_21_15 kw_1_5 kw_21_16 md_X12_has rfl rfl (Nat.le_of_ble_eq_true rfl) dX12_warmthOf_16 (fun zH zlocs zhw hzv3 => ?_)
  refine lv_if_eq (tgt := 31) zhx zhb dX12_warmthOf_19 (by decide) (fun zc9 => ?_) (fun zc9 => ?_)
  · replace zhs := br_T zhs zc9
    refine lv_iconst (v := 0) zhx zhb dX12_warmthOf_31 (by decide) ?_
    refine lv_iadd zhx zhb dX12_warmthOf_32 ?_
    cases zhs
    exact zhret _ _ _ _ dX12_warmthOf_33 (by rfl) zhw
  · replace zhs := br_F zhs zc9
    refine lv_aload_n zhx zhb dX12_warmthOf_22 rfl (lv_at zhl 0 rfl) ?_
    refine x_get C zhw inlX12 rfl 0 4 (by decide) kw_8_6 rfl (wR_c0 h cI M) rfl dX12_warmthOf_23 ?_
    refine lv_iload_n zhx zhb dX12_warmthOf_26 rfl (lv_at zhl 1 rfl) ?_
    obtain ⟨zv5, ze9, zhi, zhs⟩ := rdc_v zhs
    refine x_iald C zhw 4 (wR_c4 h cI M) zhi dX12_warmthOf_27 ?_
    refine lv_topi (fun zy9 ze8 => ?_)
    obtain rfl : zv5 = zy9 := ze9.trans ze8.symm
    clear ze9 ze8
    refine lv_goto (tgt := 32) zhx zhb dX12_warmthOf_28 (by decide) ?_
    refine lv_iadd zhx zhb dX12_warmthOf_32 ?_
    cases zhs
    exact zhret _ _ _ _ dX12_warmthOf_33 (by rfl) zhw

-- OffFirstModel.warmth in (0, ())
def sRef_warmth (a1 : Int32) (a2 : Int32) (M : Mm) : Option Int32 :=
  (sRef_isCell a1 M).bind fun zv1 =>
  (if zv1 = 0 then some (-1)
  else (sRef_in (Int32.toInt64 a2) 0 99999).bind fun zv4 =>
  (if zv4 = 0 then some (-1)
  else (sRef_warmthOf a1 a2 M).bind fun zv6 =>
  some zv6))
set_option maxHeartbeats 4000000 in
set_option maxRecDepth 100000 in
theorem cRef_warmth (l : Launch) (D : va_G) (cI : ClassId) (h : Nat → Nat) (a1 : Int32) (a2 : Int32) (M : Mm) (r : Int32) (zhs : sRef_warmth a1 a2 M = some r) : CtI l yX12_warmth cX12_warmth 3 (some .int) 3 D cI (wR h cI M) (wR h cI M) [.ref (h 0), .int a1, .int a2] r := by
  unfold sRef_warmth at zhs
  refine CtI_of (by decide +kernel) (Nat.le_of_ble_eq_true rfl) ⟨_, rfl⟩ ?_
  intro p e s m args below meth c A Q zls zH zlocs C zhw zhl zhret
  have zhx := C.1
  have zhb := C.2.1
  have zhown := C.2.2.2.2.1
  have zhtB := C.2.2.2.2.2.2.1
  have zhl : lv_has zls 3 [(0, .ref (h 0)), (1, .int a1), (2, .int a2)] := zhl
  refine lv_aload_n zhx zhb dX12_warmth_0 rfl (lv_at zhl 0 rfl) ?_
  refine lv_iload_n zhx zhb dX12_warmth_1 rfl (lv_at zhl 1 rfl) ?_
  obtain ⟨zv1, zhp, zhs⟩ := bnd_e zhs
  refine x_cVI (As := [.int a1]) (rest := []) C zhw zhl (cRef_isCell l D cI h a1 M zv1 zhp) (by decide) (by decide) kw_21_6 kw_21_7 kw_21_8 kw_1_5 kw_21_9 md_X12_isCell rfl 0 (wR_c0 h cI M) rfl rfl rfl rfl (Nat.le_of_ble_eq_true rfl) dX12_warmth_2 (fun zH zlocs zhw hzv1 => ?_)
  refine lv_if_eq (tgt := 29) zhx zhb dX12_warmth_5 (by decide) (fun zc9 => ?_) (fun zc9 => ?_)
  · replace zhs := br_T zhs zc9
    refine lv_iconst (v := (-1)) zhx zhb dX12_warmth_29 (by decide) ?_
    cases zhs
    exact zhret _ _ _ _ dX12_warmth_30 (by rfl) zhw
  · replace zhs := br_F zhs zc9
    refine lv_iload_n zhx zhb dX12_warmth_8 rfl (lv_at zhl 2 rfl) ?_
    refine lv_i2l zhx zhb dX12_warmth_9 rfl ?_
    refine lv_lconst (v := 0) zhx zhb dX12_warmth_10 (by decide) ?_
    refine lv_ldc2 zhx zhb zhown (zhtB _ kw_21_5) dX12_warmth_11 ?_
    obtain ⟨zv4, zhp, zhs⟩ := bnd_e zhs
    refine x_cSI (As := [.long (Int32.toInt64 a2), .long 0, .long 99999]) (rest := []) C zhw zhl (cRef_in l D cI h (Int32.toInt64 a2) 0 99999 M zv4 zhp) (by decide) (by decide) kw_10_14 kw_10_15 kw_1_5 kw_10_16 md_X12_in rfl rfl (Nat.le_of_ble_eq_true rfl) dX12_warmth_14 (fun zH zlocs zhw hzv4 => ?_)
    refine lv_if_eq (tgt := 29) zhx zhb dX12_warmth_17 (by decide) (fun zc9 => ?_) (fun zc9 => ?_)
    · replace zhs := br_T zhs zc9
      refine lv_iconst (v := (-1)) zhx zhb dX12_warmth_29 (by decide) ?_
      cases zhs
      exact zhret _ _ _ _ dX12_warmth_30 (by rfl) zhw
    · replace zhs := br_F zhs zc9
      refine lv_aload_n zhx zhb dX12_warmth_20 rfl (lv_at zhl 0 rfl) ?_
      refine lv_iload_n zhx zhb dX12_warmth_21 rfl (lv_at zhl 1 rfl) ?_
      refine lv_iload_n zhx zhb dX12_warmth_22 rfl (lv_at zhl 2 rfl) ?_
      obtain ⟨zv6, zhp, zhs⟩ := bnd_e zhs
      refine x_cVI (As := [.int a1, .int a2]) (rest := []) C zhw zhl (cRef_warmthOf l D cI h a1 a2 M zv6 zhp) (by decide) (by decide) kw_21_10 kw_21_11 kw_21_12 kw_1_5 kw_21_13 md_X12_warmthOf rfl 0 (wR_c0 h cI M) rfl rfl rfl rfl (Nat.le_of_ble_eq_true rfl) dX12_warmth_23 (fun zH zlocs zhw hn9 => ?_)
      refine lv_goto (tgt := 30) zhx zhb dX12_warmth_26 (by decide) ?_
      cases zhs
      exact zhret _ _ _ _ dX12_warmth_30 (by rfl) zhw

-- OffFirstModel.agesBy in (None, ())
def sRef_agesBy (a1 : Int32) (a2 : Int32) : Option Int32 :=
  (if a1 = 3 then some 1
  else (if a1 = 1 then some ((10 + a2) * 2)
  else some ((10 + a2) * 1)))
set_option maxHeartbeats 4000000 in
set_option maxRecDepth 100000 in
theorem cRef_agesBy (l : Launch) (D : va_G) (cI : ClassId) (h : Nat → Nat) (a1 : Int32) (a2 : Int32) (M : Mm) (r : Int32) (zhs : sRef_agesBy a1 a2 = some r) : CtI l yX12_agesBy cX12_agesBy 2 (some .int) 1 D cI (wR h cI M) (wR h cI M) [.int a1, .int a2] r := by
  unfold sRef_agesBy at zhs
  refine CtI_of (by decide +kernel) (Nat.le_of_ble_eq_true rfl) ⟨_, rfl⟩ ?_
  intro p e s m args below meth c A Q zls zH zlocs C zhw zhl zhret
  have zhx := C.1
  have zhb := C.2.1
  have zhown := C.2.2.2.2.1
  have zhtB := C.2.2.2.2.2.2.1
  have zhl : lv_has zls 2 [(0, .int a1), (1, .int a2)] := zhl
  refine lv_iload_n zhx zhb dX12_agesBy_0 rfl (lv_at zhl 0 rfl) ?_
  refine lv_iconst (v := 3) zhx zhb dX12_agesBy_1 (by decide) ?_
  refine lv_icmp_ne (tgt := 9) zhx zhb dX12_agesBy_2 (by decide) (fun zc9 => ?_) (fun zc9 => ?_)
  · replace zhs := br_F zhs zc9
    refine lv_bipush (v := 10) zhx zhb dX12_agesBy_9 (by decide) ?_
    refine lv_iload_n zhx zhb dX12_agesBy_11 rfl (lv_at zhl 1 rfl) ?_
    refine lv_iadd zhx zhb dX12_agesBy_12 ?_
    refine lv_iload_n zhx zhb dX12_agesBy_13 rfl (lv_at zhl 0 rfl) ?_
    refine lv_iconst (v := 1) zhx zhb dX12_agesBy_14 (by decide) ?_
    refine lv_icmp_ne (tgt := 22) zhx zhb dX12_agesBy_15 (by decide) (fun zc9 => ?_) (fun zc9 => ?_)
    · replace zhs := br_F zhs zc9
      refine lv_iconst (v := 1) zhx zhb dX12_agesBy_22 (by decide) ?_
      refine lv_imul zhx zhb dX12_agesBy_23 ?_
      cases zhs
      exact zhret _ _ _ _ dX12_agesBy_24 (by rfl) zhw
    · replace zhs := br_T zhs zc9
      refine lv_iconst (v := 2) zhx zhb dX12_agesBy_18 (by decide) ?_
      refine lv_goto (tgt := 23) zhx zhb dX12_agesBy_19 (by decide) ?_
      refine lv_imul zhx zhb dX12_agesBy_23 ?_
      cases zhs
      exact zhret _ _ _ _ dX12_agesBy_24 (by rfl) zhw
  · replace zhs := br_T zhs zc9
    refine lv_iconst (v := 1) zhx zhb dX12_agesBy_5 (by decide) ?_
    refine lv_goto (tgt := 24) zhx zhb dX12_agesBy_6 (by decide) ?_
    cases zhs
    exact zhret _ _ _ _ dX12_agesBy_24 (by rfl) zhw

-- OffFirstModel.goHour in (0, ())
def LRef_goHour_2_39 (N : Nat) (a1 : Int32) (zx1 : Int32) (zM2 : Mm) : Option ((Int32 × Mm) ⊕ ((Mm))) :=
  rdc 2 (zM2 7) 0 fun zv21 =>
  (if zv21 ≤ zx1 then some (.inr zM2)
  else ltI ((10 * a1) + zx1) fun zv22 =>
  rdc 40 (zM2 24) zv22 fun zv23 =>
  rdc 40 (zM2 25) zv22 fun zv24 =>
  (if zv24 = 0 then rdc 40 (zM2 22) zv22 fun zv32 =>
  rdc 40 (zM2 23) zv22 fun zv33 =>
  rdc 4 (zM2 27) a1 fun zv34 =>
  (sRef_warmthOf zv33 zv34 zM2).bind fun zv35 =>
  (sRef_agesBy zv32 zv35).bind fun zv36 =>
  inc 40 zv22 <| ltM (mset zM2 24 (Int32.toNatClampNeg zv22) (zv23 + zv36)) fun zM37 =>
  ltI (zx1 + 1) fun zv38 =>
  some (.inl (zv38, zM37))
  else inc 40 zv22 <| ltM (mset zM2 24 (Int32.toNatClampNeg zv22) (zv23 + 0)) fun zM30 =>
  ltI (zx1 + 1) fun zv31 =>
  some (.inl (zv31, zM30))))
def sRef_goHour (N : Nat) (a1 : Int32) (M : Mm) : Option Mm :=
  (itr (fun z : Int32 × Mm => LRef_goHour_2_39 N a1 z.1 z.2) N (0, M)).bind fun zM40 =>
  rdc 4 (zM40 27) a1 fun zv41 =>
  inc 4 a1 <| ltM (mset zM40 27 (Int32.toNatClampNeg a1) (zv41 + 1)) fun zM42 =>
  some zM42
set_option maxHeartbeats 4000000 in
set_option maxRecDepth 100000 in
theorem cRef_goHour (l : Launch) (D : va_G) (cI : ClassId) (h : Nat → Nat) (N : Nat) (a1 : Int32) (M : Mm) (M' : Mm) (zhs : sRef_goHour N a1 M = some M') : CtV l yX12_goHour cX12_goHour 4 3 D cI (wR h cI M) (wR h cI M') [.ref (h 0), .int a1] := by
  unfold sRef_goHour at zhs
  refine CtV_of (by decide +kernel) (Nat.le_of_ble_eq_true rfl) ?_
  intro p e s m args below meth c A Q zls zH zlocs C zhw zhl zhret
  have zhx := C.1
  have zhb := C.2.1
  have zhown := C.2.2.2.2.1
  have zhtB := C.2.2.2.2.2.2.1
  have zhl : lv_has zls 4 [(0, .ref (h 0)), (1, .int a1)] := zhl
  refine lv_iconst (v := 0) zhx zhb dX12_goHour_0 (by decide) ?_
  refine lv_istore_n (lv' := [(2, .int 0), (0, .ref (h 0)), (1, .int a1)]) zhx zhb dX12_goHour_1 rfl zhl (by decide) rfl (fun zls zhl => ?_)
  obtain ⟨zq39, zhq39, zhs⟩ := bnd_e zhs
  have hloop39 : ∀ (zn : Nat) (zx1 : Int32) (zM2 : Mm) (zq : (Mm)), itr (fun z : Int32 × Mm => LRef_goHour_2_39 N a1 z.1 z.2) zn (zx1, zM2) = some zq → (∀ (zy1 : Mm), zy1 = zq → ∀ (zH : Heap) (zlocs : List Loc) (zls : Array Slot), lv_has zls 4 [(0, .ref (h 0)), (1, .int a1)] → Hw D (wR h cI zy1) A s.heap zH zlocs → W p l e (RM 3) s m args below meth c zH zlocs 0 0 Q (F0 m 72 zls [])) → ∀ (zH : Heap) (zlocs : List Loc) (zls : Array Slot), lv_has zls 4 [(2, .int zx1), (0, .ref (h 0)), (1, .int a1)] → Hw D (wR h cI zM2) A s.heap zH zlocs → W p l e (RM 3) s m args below meth c zH zlocs 0 0 Q (F0 m 2 zls []) := by
    intro zn
    induction zn with
    | zero => intro zx1 zM2 zq zhq; exact absurd zhq (fun h9 => itr_0 h9)
    | succ zn zih =>
        intro zx1 zM2 zq zhq k2_72 zH zlocs zls zhl zhw
        obtain ⟨zy9, zhs, zhq⟩ := itr_s zhq
        replace zhs : LRef_goHour_2_39 N a1 zx1 zM2 = some zy9 := zhs
        unfold LRef_goHour_2_39 at zhs
        refine lv_iload_n zhx zhb dX12_goHour_2 rfl (lv_at zhl 0 rfl) ?_
        refine lv_aload_n zhx zhb dX12_goHour_3 rfl (lv_at zhl 1 rfl) ?_
        refine x_get C zhw inlX12 rfl 0 7 (by decide) kw_8_9 rfl (wR_c0 h cI zM2) rfl dX12_goHour_4 ?_
        refine lv_iconst (v := 0) zhx zhb dX12_goHour_7 (by decide) ?_
        obtain ⟨zv21, ze9, zhi, zhs⟩ := rdc_v zhs
        refine x_iald C zhw 7 (wR_c7 h cI zM2) zhi dX12_goHour_8 ?_
        refine lv_topi (fun zy9 ze8 => ?_)
        obtain rfl : zv21 = zy9 := ze9.trans ze8.symm
        clear ze9 ze8
        refine lv_icmp_ge (tgt := 72) zhx zhb dX12_goHour_9 (by decide) (fun zc9 => ?_) (fun zc9 => ?_)
        · replace zhs := br_T zhs zc9
          cases zhs
          exact k2_72 zM2 (itk_q zhq) zH zlocs zls (lv_sub zhl [1, 2] rfl) zhw
        · replace zhs := br_F zhs zc9
          refine lv_bipush (v := 10) zhx zhb dX12_goHour_12 (by decide) ?_
          refine lv_iload_n zhx zhb dX12_goHour_14 rfl (lv_at zhl 2 rfl) ?_
          refine lv_imul zhx zhb dX12_goHour_15 ?_
          refine lv_iload_n zhx zhb dX12_goHour_16 rfl (lv_at zhl 0 rfl) ?_
          refine lv_iadd zhx zhb dX12_goHour_17 ?_
          obtain ⟨zv22, ze9, zhs⟩ := ltI_e zhs
          refine lv_topi (fun zy9 ze8 => ?_)
          obtain rfl : zv22 = zy9 := ze9.trans ze8.symm
          clear ze9 ze8
          refine lv_istore_n (lv' := [(3, .int zv22), (2, .int zx1), (0, .ref (h 0)), (1, .int a1)]) zhx zhb dX12_goHour_18 rfl zhl (by decide) rfl (fun zls zhl => ?_)
          refine lv_aload_n zhx zhb dX12_goHour_19 rfl (lv_at zhl 2 rfl) ?_
          refine x_get C zhw inlX12 rfl 0 24 (by decide) kw_9_2 rfl (wR_c0 h cI zM2) rfl dX12_goHour_20 ?_
          refine lv_iload_n zhx zhb dX12_goHour_23 rfl (lv_at zhl 0 rfl) ?_
          refine lv_dup2_11 zhx zhb dX12_goHour_24 rfl rfl ?_
          obtain ⟨zv23, ze9, zhi, zhs⟩ := rdc_v zhs
          refine x_iald C zhw 24 (wR_c24 h cI zM2) zhi dX12_goHour_25 ?_
          refine lv_topi (fun zy9 ze8 => ?_)
          obtain rfl : zv23 = zy9 := ze9.trans ze8.symm
          clear ze9 ze8
          refine lv_aload_n zhx zhb dX12_goHour_26 rfl (lv_at zhl 2 rfl) ?_
          refine x_get C zhw inlX12 rfl 0 25 (by decide) kw_9_3 rfl (wR_c0 h cI zM2) rfl dX12_goHour_27 ?_
          refine lv_iload_n zhx zhb dX12_goHour_30 rfl (lv_at zhl 0 rfl) ?_
          obtain ⟨zv24, ze9, zhi, zhs⟩ := rdc_v zhs
          refine x_iald C zhw 25 (wR_c25 h cI zM2) zhi dX12_goHour_31 ?_
          refine lv_topi (fun zy9 ze8 => ?_)
          obtain rfl : zv24 = zy9 := ze9.trans ze8.symm
          clear ze9 ze8
          refine lv_if_ne (tgt := 63) zhx zhb dX12_goHour_32 (by decide) (fun zc9 => ?_) (fun zc9 => ?_)
          · replace zhs := br_F zhs zc9
            refine lv_iconst (v := 0) zhx zhb dX12_goHour_63 (by decide) ?_
            refine lv_iadd zhx zhb dX12_goHour_64 ?_
            obtain ⟨zhi, zhs⟩ := inc_e zhs
            refine x_iast C zhw 24 (wR_c24 h cI zM2) zhi (wR_a24 h cI zM2 _ _) dX12_goHour_65 (fun zH zlocs zhw => ?_)
            obtain ⟨zM30, ze9, zhs⟩ := ltM_e zhs
            rw [← ze9] at zhw; clear ze9
            obtain ⟨zv31, ze9, zhs⟩ := ltI_e zhs
            refine lv_iinc (v := zv31) (lv' := [(2, .int zv31), (3, .int zv22), (0, .ref (h 0)), (1, .int a1)]) zhx zhb dX12_goHour_66 zhl (k := 1) rfl (by rw [ze9]; rfl) (by decide) rfl (fun zls zhl => ?_)
            clear ze9
            refine lv_goto (tgt := 2) zhx zhb dX12_goHour_69 (by decide) ?_
            cases zhs
            exact zih zv31 zM30 zq (itk_l zhq) k2_72 zH zlocs zls (lv_sub zhl [0, 2, 3] rfl) zhw
          · replace zhs := br_T zhs zc9
            refine lv_aload_n zhx zhb dX12_goHour_35 rfl (lv_at zhl 2 rfl) ?_
            refine x_get C zhw inlX12 rfl 0 22 (by decide) kw_9_0 rfl (wR_c0 h cI zM2) rfl dX12_goHour_36 ?_
            refine lv_iload_n zhx zhb dX12_goHour_39 rfl (lv_at zhl 0 rfl) ?_
            obtain ⟨zv32, ze9, zhi, zhs⟩ := rdc_v zhs
            refine x_iald C zhw 22 (wR_c22 h cI zM2) zhi dX12_goHour_40 ?_
            refine lv_topi (fun zy9 ze8 => ?_)
            obtain rfl : zv32 = zy9 := ze9.trans ze8.symm
            clear ze9 ze8
            refine lv_aload_n zhx zhb dX12_goHour_41 rfl (lv_at zhl 2 rfl) ?_
            refine lv_aload_n zhx zhb dX12_goHour_42 rfl (lv_at zhl 2 rfl) ?_
            refine x_get C zhw inlX12 rfl 0 23 (by decide) kw_9_1 rfl (wR_c0 h cI zM2) rfl dX12_goHour_43 ?_
            refine lv_iload_n zhx zhb dX12_goHour_46 rfl (lv_at zhl 0 rfl) ?_
            obtain ⟨zv33, ze9, zhi, zhs⟩ := rdc_v zhs
            refine x_iald C zhw 23 (wR_c23 h cI zM2) zhi dX12_goHour_47 ?_
            refine lv_topi (fun zy9 ze8 => ?_)
            obtain rfl : zv33 = zy9 := ze9.trans ze8.symm
            clear ze9 ze8
            refine lv_aload_n zhx zhb dX12_goHour_48 rfl (lv_at zhl 2 rfl) ?_
            refine x_get C zhw inlX12 rfl 0 27 (by decide) kw_9_5 rfl (wR_c0 h cI zM2) rfl dX12_goHour_49 ?_
            refine lv_iload_n zhx zhb dX12_goHour_52 rfl (lv_at zhl 3 rfl) ?_
            obtain ⟨zv34, ze9, zhi, zhs⟩ := rdc_v zhs
            refine x_iald C zhw 27 (wR_c27 h cI zM2) zhi dX12_goHour_53 ?_
            refine lv_topi (fun zy9 ze8 => ?_)
            obtain rfl : zv34 = zy9 := ze9.trans ze8.symm
            clear ze9 ze8
            obtain ⟨zv35, zhp, zhs⟩ := bnd_e zhs
            refine x_cVI (As := [.int zv33, .int zv34]) (rest := [.int zv32, .int zv23, .int zv22, .ref (h 24)]) C zhw zhl (cRef_warmthOf l D cI h zv33 zv34 zM2 zv35 zhp) (by decide) (by decide) kw_21_10 kw_21_11 kw_21_12 kw_1_5 kw_21_13 md_X12_warmthOf rfl 0 (wR_c0 h cI zM2) rfl rfl rfl rfl (Nat.le_of_ble_eq_true rfl) dX12_goHour_54 (fun zH zlocs zhw hn9 => ?_)
            obtain ⟨zv36, zhp, zhs⟩ := bnd_e zhs
            refine x_cSI (As := [.int zv32, .int zv35]) (rest := [.int zv23, .int zv22, .ref (h 24)]) C zhw zhl (cRef_agesBy l D cI h zv32 zv35 zM2 zv36 zhp) (by decide) (by decide) kw_23_23 kw_24_0 kw_1_5 kw_24_1 md_X12_agesBy rfl rfl (Nat.le_of_ble_eq_true rfl) dX12_goHour_57 (fun zH zlocs zhw hn9 => ?_)
            refine lv_goto (tgt := 64) zhx zhb dX12_goHour_60 (by decide) ?_
            refine lv_iadd zhx zhb dX12_goHour_64 ?_
            obtain ⟨zhi, zhs⟩ := inc_e zhs
            refine x_iast C zhw 24 (wR_c24 h cI zM2) zhi (wR_a24 h cI zM2 _ _) dX12_goHour_65 (fun zH zlocs zhw => ?_)
            obtain ⟨zM37, ze9, zhs⟩ := ltM_e zhs
            rw [← ze9] at zhw; clear ze9
            obtain ⟨zv38, ze9, zhs⟩ := ltI_e zhs
            refine lv_iinc (v := zv38) (lv' := [(2, .int zv38), (3, .int zv22), (0, .ref (h 0)), (1, .int a1)]) zhx zhb dX12_goHour_66 zhl (k := 1) rfl (by rw [ze9]; rfl) (by decide) rfl (fun zls zhl => ?_)
            clear ze9
            refine lv_goto (tgt := 2) zhx zhb dX12_goHour_69 (by decide) ?_
            cases zhs
            exact zih zv38 zM37 zq (itk_l zhq) k2_72 zH zlocs zls (lv_sub zhl [0, 2, 3] rfl) zhw
  refine hloop39 N 0 M zq39 zhq39 (fun zM40 zhqe zH zlocs zls zhl zhw => ?_) zH zlocs zls zhl zhw
  · subst zhqe
    refine lv_aload_n zhx zhb dX12_goHour_72 rfl (lv_at zhl 0 rfl) ?_
    refine x_get C zhw inlX12 rfl 0 27 (by decide) kw_9_5 rfl (wR_c0 h cI zM40) rfl dX12_goHour_73 ?_
    refine lv_iload_n zhx zhb dX12_goHour_76 rfl (lv_at zhl 1 rfl) ?_
    refine lv_dup2_11 zhx zhb dX12_goHour_77 rfl rfl ?_
    obtain ⟨zv41, ze9, zhi, zhs⟩ := rdc_v zhs
    refine x_iald C zhw 27 (wR_c27 h cI zM40) zhi dX12_goHour_78 ?_
    refine lv_topi (fun zy9 ze8 => ?_)
    obtain rfl : zv41 = zy9 := ze9.trans ze8.symm
    clear ze9 ze8
    refine lv_iconst (v := 1) zhx zhb dX12_goHour_79 (by decide) ?_
    refine lv_iadd zhx zhb dX12_goHour_80 ?_
    obtain ⟨zhi, zhs⟩ := inc_e zhs
    refine x_iast C zhw 27 (wR_c27 h cI zM40) zhi (wR_a27 h cI zM40 _ _) dX12_goHour_81 (fun zH zlocs zhw => ?_)
    obtain ⟨zM42, ze9, zhs⟩ := ltM_e zhs
    rw [← ze9] at zhw; clear ze9
    cases zhs
    exact zhret _ _ _ _ dX12_goHour_82 zhw

-- OffFirstModel.hours in (0, ())
def LRef_hours_32_9 (N : Nat) (a1 : Int32) (zx3 : Int32) (zM4 : Mm) : Option ((Int32 × Mm) ⊕ ((Mm))) :=
  (if a1 ≤ zx3 then some (.inr zM4)
  else (sRef_goHour N 0 zM4).bind fun zM7 =>
  ltI (zx3 + 1) fun zv8 =>
  some (.inl (zv8, zM7)))
def LRef_hours_52_33 (N : Nat) (zM10 : Mm) (zx11 : Int32) (zx12 : Int32) : Option ((Int32 × Int32) ⊕ ((Int32))) :=
  rdc 2 (zM10 7) 0 fun zv23 =>
  (if zv23 ≤ zx12 then some (.inr zx11)
  else rdc 40 (zM10 25) zx12 fun zv24 =>
  (if zv24 = 0 then (sRef_isOff zx12 zM10).bind fun zv28 =>
  (if zv28 = 0 then ltI (zx11 + 0) fun zv29 =>
  ltI (zx12 + 1) fun zv30 =>
  some (.inl (zv29, zv30))
  else ltI (zx11 + 1) fun zv31 =>
  ltI (zx12 + 1) fun zv32 =>
  some (.inl (zv31, zv32)))
  else ltI (zx11 + 0) fun zv26 =>
  ltI (zx12 + 1) fun zv27 =>
  some (.inl (zv26, zv27))))
def sRef_hours (N : Nat) (a1 : Int32) (M : Mm) : Option (Int32 × Mm) :=
  (sRef_in (Int32.toInt64 a1) 1 999).bind fun zv1 =>
  (if zv1 = 0 then some ((-1), M)
  else rdc 4 (M 27) 0 fun zv2 =>
  (if (zv2 + a1) ≤ 99999 then (itr (fun z : Int32 × Mm => LRef_hours_32_9 N a1 z.1 z.2) N (0, M)).bind fun zM10 =>
  (itr (fun z : Int32 × Int32 => LRef_hours_52_33 N zM10 z.1 z.2) N (0, 0)).bind fun zv34 =>
  some (zv34, zM10)
  else some ((-2), M)))
set_option maxHeartbeats 4000000 in
set_option maxRecDepth 100000 in
theorem cRef_hours (l : Launch) (D : va_G) (cI : ClassId) (h : Nat → Nat) (N : Nat) (a1 : Int32) (M : Mm) (r : Int32) (M' : Mm) (zhs : sRef_hours N a1 M = some (r, M')) : CtI l yX12_hours cX12_hours 4 (some .int) 4 D cI (wR h cI M) (wR h cI M') [.ref (h 0), .int a1] r := by
  unfold sRef_hours at zhs
  refine CtI_of (by decide +kernel) (Nat.le_of_ble_eq_true rfl) ⟨_, rfl⟩ ?_
  intro p e s m args below meth c A Q zls zH zlocs C zhw zhl zhret
  have zhx := C.1
  have zhb := C.2.1
  have zhown := C.2.2.2.2.1
  have zhtB := C.2.2.2.2.2.2.1
  have zhl : lv_has zls 4 [(0, .ref (h 0)), (1, .int a1)] := zhl
  refine lv_iload_n zhx zhb dX12_hours_0 rfl (lv_at zhl 1 rfl) ?_
  refine lv_i2l zhx zhb dX12_hours_1 rfl ?_
  refine lv_lconst (v := 1) zhx zhb dX12_hours_2 (by decide) ?_
  refine lv_ldc2 zhx zhb zhown (zhtB _ kw_23_17) dX12_hours_3 ?_
  obtain ⟨zv1, zhp, zhs⟩ := bnd_e zhs
  refine x_cSI (As := [.long (Int32.toInt64 a1), .long 1, .long 999]) (rest := []) C zhw zhl (cRef_in l D cI h (Int32.toInt64 a1) 1 999 M zv1 zhp) (by decide) (by decide) kw_10_14 kw_10_15 kw_1_5 kw_10_16 md_X12_in rfl rfl (Nat.le_of_ble_eq_true rfl) dX12_hours_6 (fun zH zlocs zhw hzv1 => ?_)
  refine lv_if_ne (tgt := 14) zhx zhb dX12_hours_9 (by decide) (fun zc9 => ?_) (fun zc9 => ?_)
  · replace zhs := br_F zhs zc9
    refine lv_aload_n zhx zhb dX12_hours_14 rfl (lv_at zhl 0 rfl) ?_
    refine x_get C zhw inlX12 rfl 0 27 (by decide) kw_9_5 rfl (wR_c0 h cI M) rfl dX12_hours_15 ?_
    refine lv_iconst (v := 0) zhx zhb dX12_hours_18 (by decide) ?_
    obtain ⟨zv2, ze9, zhi, zhs⟩ := rdc_v zhs
    refine x_iald C zhw 27 (wR_c27 h cI M) zhi dX12_hours_19 ?_
    refine lv_topi (fun zy9 ze8 => ?_)
    obtain rfl : zv2 = zy9 := ze9.trans ze8.symm
    clear ze9 ze8
    refine lv_iload_n zhx zhb dX12_hours_20 rfl (lv_at zhl 1 rfl) ?_
    refine lv_iadd zhx zhb dX12_hours_21 ?_
    refine lv_ldc zhx zhb zhown (zhtB _ kw_23_18) dX12_hours_22 ?_
    refine lv_icmp_le (tgt := 30) zhx zhb dX12_hours_24 (by decide) (fun zc9 => ?_) (fun zc9 => ?_)
    · replace zhs := br_T zhs zc9
      refine lv_iconst (v := 0) zhx zhb dX12_hours_30 (by decide) ?_
      refine lv_istore_n (lv' := [(2, .int 0), (0, .ref (h 0)), (1, .int a1)]) zhx zhb dX12_hours_31 rfl zhl (by decide) rfl (fun zls zhl => ?_)
      obtain ⟨zq9, zhq9, zhs⟩ := bnd_e zhs
      have hloop9 : ∀ (zn : Nat) (zx3 : Int32) (zM4 : Mm) (zq : (Mm)), itr (fun z : Int32 × Mm => LRef_hours_32_9 N a1 z.1 z.2) zn (zx3, zM4) = some zq → (∀ (zy1 : Mm), zy1 = zq → ∀ (zH : Heap) (zlocs : List Loc) (zls : Array Slot), lv_has zls 4 [(0, .ref (h 0))] → Hw D (wR h cI zy1) A s.heap zH zlocs → W p l e (RM 4) s m args below meth c zH zlocs 0 0 Q (F0 m 48 zls [])) → ∀ (zH : Heap) (zlocs : List Loc) (zls : Array Slot), lv_has zls 4 [(2, .int zx3), (0, .ref (h 0)), (1, .int a1)] → Hw D (wR h cI zM4) A s.heap zH zlocs → W p l e (RM 4) s m args below meth c zH zlocs 0 0 Q (F0 m 32 zls []) := by
        intro zn
        induction zn with
        | zero => intro zx3 zM4 zq zhq; exact absurd zhq (fun h9 => itr_0 h9)
        | succ zn zih =>
            intro zx3 zM4 zq zhq k32_48 zH zlocs zls zhl zhw
            obtain ⟨zy9, zhs, zhq⟩ := itr_s zhq
            replace zhs : LRef_hours_32_9 N a1 zx3 zM4 = some zy9 := zhs
            unfold LRef_hours_32_9 at zhs
            refine lv_iload_n zhx zhb dX12_hours_32 rfl (lv_at zhl 0 rfl) ?_
            refine lv_iload_n zhx zhb dX12_hours_33 rfl (lv_at zhl 2 rfl) ?_
            refine lv_icmp_ge (tgt := 48) zhx zhb dX12_hours_34 (by decide) (fun zc9 => ?_) (fun zc9 => ?_)
            · replace zhs := br_T zhs zc9
              cases zhs
              exact k32_48 zM4 (itk_q zhq) zH zlocs zls (lv_sub zhl [1] rfl) zhw
            · replace zhs := br_F zhs zc9
              refine lv_aload_n zhx zhb dX12_hours_37 rfl (lv_at zhl 1 rfl) ?_
              refine lv_iconst (v := 0) zhx zhb dX12_hours_38 (by decide) ?_
              obtain ⟨zM7, zhp, zhs⟩ := bnd_e zhs
              refine x_cVV (As := [.int 0]) (rest := []) C zhw zhl (cRef_goHour l D cI h N 0 zM4 zM7 zhp) (by decide) (by decide) kw_23_19 kw_23_20 kw_23_21 kw_1_5 kw_23_22 md_X12_goHour rfl 0 (wR_c0 h cI zM4) rfl rfl rfl rfl (Nat.le_of_ble_eq_true rfl) dX12_hours_39 (fun zH zlocs zhw => ?_)
              obtain ⟨zv8, ze9, zhs⟩ := ltI_e zhs
              refine lv_iinc (v := zv8) (lv' := [(2, .int zv8), (0, .ref (h 0)), (1, .int a1)]) zhx zhb dX12_hours_42 zhl (k := 0) rfl (by rw [ze9]; rfl) (by decide) rfl (fun zls zhl => ?_)
              clear ze9
              refine lv_goto (tgt := 32) zhx zhb dX12_hours_45 (by decide) ?_
              cases zhs
              exact zih zv8 zM7 zq (itk_l zhq) k32_48 zH zlocs zls zhl zhw
      refine hloop9 N 0 M zq9 zhq9 (fun zM10 zhqe zH zlocs zls zhl zhw => ?_) zH zlocs zls zhl zhw
      · subst zhqe
        refine lv_iconst (v := 0) zhx zhb dX12_hours_48 (by decide) ?_
        refine lv_istore_n (lv' := [(2, .int 0), (0, .ref (h 0))]) zhx zhb dX12_hours_49 rfl zhl (by decide) rfl (fun zls zhl => ?_)
        refine lv_iconst (v := 0) zhx zhb dX12_hours_50 (by decide) ?_
        refine lv_istore_n (lv' := [(3, .int 0), (2, .int 0), (0, .ref (h 0))]) zhx zhb dX12_hours_51 rfl zhl (by decide) rfl (fun zls zhl => ?_)
        obtain ⟨zq33, zhq33, zhs⟩ := bnd_e zhs
        have hloop33 : ∀ (zn : Nat) (zx11 : Int32) (zx12 : Int32) (zq : (Int32)), itr (fun z : Int32 × Int32 => LRef_hours_52_33 N zM10 z.1 z.2) zn (zx11, zx12) = some zq → (∀ (zy1 : Int32), zy1 = zq → ∀ (zH : Heap) (zlocs : List Loc) (zls : Array Slot), lv_has zls 4 [(2, .int zy1)] → Hw D (wR h cI zM10) A s.heap zH zlocs → W p l e (RM 4) s m args below meth c zH zlocs 0 0 Q (F0 m 93 zls [])) → ∀ (zH : Heap) (zlocs : List Loc) (zls : Array Slot), lv_has zls 4 [(3, .int zx12), (2, .int zx11), (0, .ref (h 0))] → Hw D (wR h cI zM10) A s.heap zH zlocs → W p l e (RM 4) s m args below meth c zH zlocs 0 0 Q (F0 m 52 zls []) := by
          intro zn
          induction zn with
          | zero => intro zx11 zx12 zq zhq; exact absurd zhq (fun h9 => itr_0 h9)
          | succ zn zih =>
              intro zx11 zx12 zq zhq k52_93 zH zlocs zls zhl zhw
              obtain ⟨zy9, zhs, zhq⟩ := itr_s zhq
              replace zhs : LRef_hours_52_33 N zM10 zx11 zx12 = some zy9 := zhs
              unfold LRef_hours_52_33 at zhs
              refine lv_iload_n zhx zhb dX12_hours_52 rfl (lv_at zhl 0 rfl) ?_
              refine lv_aload_n zhx zhb dX12_hours_53 rfl (lv_at zhl 2 rfl) ?_
              refine x_get C zhw inlX12 rfl 0 7 (by decide) kw_8_9 rfl (wR_c0 h cI zM10) rfl dX12_hours_54 ?_
              refine lv_iconst (v := 0) zhx zhb dX12_hours_57 (by decide) ?_
              obtain ⟨zv23, ze9, zhi, zhs⟩ := rdc_v zhs
              refine x_iald C zhw 7 (wR_c7 h cI zM10) zhi dX12_hours_58 ?_
              refine lv_topi (fun zy9 ze8 => ?_)
              obtain rfl : zv23 = zy9 := ze9.trans ze8.symm
              clear ze9 ze8
              refine lv_icmp_ge (tgt := 93) zhx zhb dX12_hours_59 (by decide) (fun zc9 => ?_) (fun zc9 => ?_)
              · replace zhs := br_T zhs zc9
                cases zhs
                exact k52_93 zx11 (itk_q zhq) zH zlocs zls (lv_sub zhl [1] rfl) zhw
              · replace zhs := br_F zhs zc9
                refine lv_iload_n zhx zhb dX12_hours_62 rfl (lv_at zhl 1 rfl) ?_
                refine lv_aload_n zhx zhb dX12_hours_63 rfl (lv_at zhl 2 rfl) ?_
                refine x_get C zhw inlX12 rfl 0 25 (by decide) kw_9_3 rfl (wR_c0 h cI zM10) rfl dX12_hours_64 ?_
                refine lv_iload_n zhx zhb dX12_hours_67 rfl (lv_at zhl 0 rfl) ?_
                obtain ⟨zv24, ze9, zhi, zhs⟩ := rdc_v zhs
                refine x_iald C zhw 25 (wR_c25 h cI zM10) zhi dX12_hours_68 ?_
                refine lv_topi (fun zy9 ze8 => ?_)
                obtain rfl : zv24 = zy9 := ze9.trans ze8.symm
                clear ze9 ze8
                refine lv_if_ne (tgt := 84) zhx zhb dX12_hours_69 (by decide) (fun zc9 => ?_) (fun zc9 => ?_)
                · replace zhs := br_F zhs zc9
                  refine lv_iconst (v := 0) zhx zhb dX12_hours_84 (by decide) ?_
                  refine lv_iadd zhx zhb dX12_hours_85 ?_
                  obtain ⟨zv26, ze9, zhs⟩ := ltI_e zhs
                  refine lv_topi (fun zy9 ze8 => ?_)
                  obtain rfl : zv26 = zy9 := ze9.trans ze8.symm
                  clear ze9 ze8
                  refine lv_istore_n (lv' := [(2, .int zv26), (3, .int zx12), (0, .ref (h 0))]) zhx zhb dX12_hours_86 rfl zhl (by decide) rfl (fun zls zhl => ?_)
                  obtain ⟨zv27, ze9, zhs⟩ := ltI_e zhs
                  refine lv_iinc (v := zv27) (lv' := [(3, .int zv27), (2, .int zv26), (0, .ref (h 0))]) zhx zhb dX12_hours_87 zhl (k := 1) rfl (by rw [ze9]; rfl) (by decide) rfl (fun zls zhl => ?_)
                  clear ze9
                  refine lv_goto (tgt := 52) zhx zhb dX12_hours_90 (by decide) ?_
                  cases zhs
                  exact zih zv26 zv27 zq (itk_l zhq) k52_93 zH zlocs zls zhl zhw
                · replace zhs := br_T zhs zc9
                  refine lv_aload_n zhx zhb dX12_hours_72 rfl (lv_at zhl 2 rfl) ?_
                  refine lv_iload_n zhx zhb dX12_hours_73 rfl (lv_at zhl 0 rfl) ?_
                  obtain ⟨zv28, zhp, zhs⟩ := bnd_e zhs
                  refine x_cVI (As := [.int zx12]) (rest := [.int zx11]) C zhw zhl (cRef_isOff l D cI h zx12 zM10 zv28 zhp) (by decide) (by decide) kw_20_7 kw_20_8 kw_20_9 kw_1_5 kw_20_10 md_X12_isOff rfl 0 (wR_c0 h cI zM10) rfl rfl rfl rfl (Nat.le_of_ble_eq_true rfl) dX12_hours_74 (fun zH zlocs zhw hzv28 => ?_)
                  refine lv_if_eq (tgt := 84) zhx zhb dX12_hours_77 (by decide) (fun zc9 => ?_) (fun zc9 => ?_)
                  · replace zhs := br_T zhs zc9
                    refine lv_iconst (v := 0) zhx zhb dX12_hours_84 (by decide) ?_
                    refine lv_iadd zhx zhb dX12_hours_85 ?_
                    obtain ⟨zv29, ze9, zhs⟩ := ltI_e zhs
                    refine lv_topi (fun zy9 ze8 => ?_)
                    obtain rfl : zv29 = zy9 := ze9.trans ze8.symm
                    clear ze9 ze8
                    refine lv_istore_n (lv' := [(2, .int zv29), (3, .int zx12), (0, .ref (h 0))]) zhx zhb dX12_hours_86 rfl zhl (by decide) rfl (fun zls zhl => ?_)
                    obtain ⟨zv30, ze9, zhs⟩ := ltI_e zhs
                    refine lv_iinc (v := zv30) (lv' := [(3, .int zv30), (2, .int zv29), (0, .ref (h 0))]) zhx zhb dX12_hours_87 zhl (k := 1) rfl (by rw [ze9]; rfl) (by decide) rfl (fun zls zhl => ?_)
                    clear ze9
                    refine lv_goto (tgt := 52) zhx zhb dX12_hours_90 (by decide) ?_
                    cases zhs
                    exact zih zv29 zv30 zq (itk_l zhq) k52_93 zH zlocs zls zhl zhw
                  · replace zhs := br_F zhs zc9
                    refine lv_iconst (v := 1) zhx zhb dX12_hours_80 (by decide) ?_
                    refine lv_goto (tgt := 85) zhx zhb dX12_hours_81 (by decide) ?_
                    refine lv_iadd zhx zhb dX12_hours_85 ?_
                    obtain ⟨zv31, ze9, zhs⟩ := ltI_e zhs
                    refine lv_topi (fun zy9 ze8 => ?_)
                    obtain rfl : zv31 = zy9 := ze9.trans ze8.symm
                    clear ze9 ze8
                    refine lv_istore_n (lv' := [(2, .int zv31), (3, .int zx12), (0, .ref (h 0))]) zhx zhb dX12_hours_86 rfl zhl (by decide) rfl (fun zls zhl => ?_)
                    obtain ⟨zv32, ze9, zhs⟩ := ltI_e zhs
                    refine lv_iinc (v := zv32) (lv' := [(3, .int zv32), (2, .int zv31), (0, .ref (h 0))]) zhx zhb dX12_hours_87 zhl (k := 1) rfl (by rw [ze9]; rfl) (by decide) rfl (fun zls zhl => ?_)
                    clear ze9
                    refine lv_goto (tgt := 52) zhx zhb dX12_hours_90 (by decide) ?_
                    cases zhs
                    exact zih zv31 zv32 zq (itk_l zhq) k52_93 zH zlocs zls zhl zhw
        refine hloop33 N 0 0 zq33 zhq33 (fun zv34 zhqe zH zlocs zls zhl zhw => ?_) zH zlocs zls zhl zhw
        · subst zhqe
          refine lv_iload_n zhx zhb dX12_hours_93 rfl (lv_at zhl 0 rfl) ?_
          cases zhs
          exact zhret _ _ _ _ dX12_hours_94 (by rfl) zhw
    · replace zhs := br_F zhs zc9
      refine lv_bipush (v := (-2)) zhx zhb dX12_hours_27 (by decide) ?_
      cases zhs
      exact zhret _ _ _ _ dX12_hours_29 (by rfl) zhw
  · replace zhs := br_T zhs zc9
    refine lv_iconst (v := (-1)) zhx zhb dX12_hours_12 (by decide) ?_
    cases zhs
    exact zhret _ _ _ _ dX12_hours_13 (by rfl) zhw

-- OffFirstModel.inCell in (0, ())
def LRef_inCell_4_23 (N : Nat) (a1 : Int32) (M : Mm) (zx1 : Int32) (zx2 : Int32) : Option ((Int32 × Int32) ⊕ ((Int32))) :=
  rdc 2 (M 7) 0 fun zv13 =>
  (if zv13 ≤ zx2 then some (.inr zx1)
  else rdc 40 (M 25) zx2 fun zv14 =>
  (if zv14 = 0 then rdc 40 (M 23) zx2 fun zv18 =>
  (if zv18 = a1 then ltI (zx1 + 1) fun zv21 =>
  ltI (zx2 + 1) fun zv22 =>
  some (.inl (zv21, zv22))
  else ltI (zx1 + 0) fun zv19 =>
  ltI (zx2 + 1) fun zv20 =>
  some (.inl (zv19, zv20)))
  else ltI (zx1 + 0) fun zv16 =>
  ltI (zx2 + 1) fun zv17 =>
  some (.inl (zv16, zv17))))
def sRef_inCell (N : Nat) (a1 : Int32) (M : Mm) : Option Int32 :=
  (itr (fun z : Int32 × Int32 => LRef_inCell_4_23 N a1 M z.1 z.2) N (0, 0)).bind fun zv24 =>
  some zv24
set_option maxHeartbeats 4000000 in
set_option maxRecDepth 100000 in
theorem cRef_inCell (l : Launch) (D : va_G) (cI : ClassId) (h : Nat → Nat) (N : Nat) (a1 : Int32) (M : Mm) (r : Int32) (zhs : sRef_inCell N a1 M = some r) : CtI l yX12_inCell cX12_inCell 4 (some .int) 1 D cI (wR h cI M) (wR h cI M) [.ref (h 0), .int a1] r := by
  unfold sRef_inCell at zhs
  refine CtI_of (by decide +kernel) (Nat.le_of_ble_eq_true rfl) ⟨_, rfl⟩ ?_
  intro p e s m args below meth c A Q zls zH zlocs C zhw zhl zhret
  have zhx := C.1
  have zhb := C.2.1
  have zhown := C.2.2.2.2.1
  have zhtB := C.2.2.2.2.2.2.1
  have zhl : lv_has zls 4 [(0, .ref (h 0)), (1, .int a1)] := zhl
  refine lv_iconst (v := 0) zhx zhb dX12_inCell_0 (by decide) ?_
  refine lv_istore_n (lv' := [(2, .int 0), (0, .ref (h 0)), (1, .int a1)]) zhx zhb dX12_inCell_1 rfl zhl (by decide) rfl (fun zls zhl => ?_)
  refine lv_iconst (v := 0) zhx zhb dX12_inCell_2 (by decide) ?_
  refine lv_istore_n (lv' := [(3, .int 0), (2, .int 0), (0, .ref (h 0)), (1, .int a1)]) zhx zhb dX12_inCell_3 rfl zhl (by decide) rfl (fun zls zhl => ?_)
  obtain ⟨zq23, zhq23, zhs⟩ := bnd_e zhs
  have hloop23 : ∀ (zn : Nat) (zx1 : Int32) (zx2 : Int32) (zq : (Int32)), itr (fun z : Int32 × Int32 => LRef_inCell_4_23 N a1 M z.1 z.2) zn (zx1, zx2) = some zq → (∀ (zy1 : Int32), zy1 = zq → ∀ (zH : Heap) (zlocs : List Loc) (zls : Array Slot), lv_has zls 4 [(2, .int zy1)] → Hw D (wR h cI M) A s.heap zH zlocs → W p l e (RM 1) s m args below meth c zH zlocs 0 0 Q (F0 m 47 zls [])) → ∀ (zH : Heap) (zlocs : List Loc) (zls : Array Slot), lv_has zls 4 [(3, .int zx2), (2, .int zx1), (0, .ref (h 0)), (1, .int a1)] → Hw D (wR h cI M) A s.heap zH zlocs → W p l e (RM 1) s m args below meth c zH zlocs 0 0 Q (F0 m 4 zls []) := by
    intro zn
    induction zn with
    | zero => intro zx1 zx2 zq zhq; exact absurd zhq (fun h9 => itr_0 h9)
    | succ zn zih =>
        intro zx1 zx2 zq zhq k4_47 zH zlocs zls zhl zhw
        obtain ⟨zy9, zhs, zhq⟩ := itr_s zhq
        replace zhs : LRef_inCell_4_23 N a1 M zx1 zx2 = some zy9 := zhs
        unfold LRef_inCell_4_23 at zhs
        refine lv_iload_n zhx zhb dX12_inCell_4 rfl (lv_at zhl 0 rfl) ?_
        refine lv_aload_n zhx zhb dX12_inCell_5 rfl (lv_at zhl 2 rfl) ?_
        refine x_get C zhw inlX12 rfl 0 7 (by decide) kw_8_9 rfl (wR_c0 h cI M) rfl dX12_inCell_6 ?_
        refine lv_iconst (v := 0) zhx zhb dX12_inCell_9 (by decide) ?_
        obtain ⟨zv13, ze9, zhi, zhs⟩ := rdc_v zhs
        refine x_iald C zhw 7 (wR_c7 h cI M) zhi dX12_inCell_10 ?_
        refine lv_topi (fun zy9 ze8 => ?_)
        obtain rfl : zv13 = zy9 := ze9.trans ze8.symm
        clear ze9 ze8
        refine lv_icmp_ge (tgt := 47) zhx zhb dX12_inCell_11 (by decide) (fun zc9 => ?_) (fun zc9 => ?_)
        · replace zhs := br_T zhs zc9
          cases zhs
          exact k4_47 zx1 (itk_q zhq) zH zlocs zls (lv_sub zhl [1] rfl) zhw
        · replace zhs := br_F zhs zc9
          refine lv_iload_n zhx zhb dX12_inCell_14 rfl (lv_at zhl 1 rfl) ?_
          refine lv_aload_n zhx zhb dX12_inCell_15 rfl (lv_at zhl 2 rfl) ?_
          refine x_get C zhw inlX12 rfl 0 25 (by decide) kw_9_3 rfl (wR_c0 h cI M) rfl dX12_inCell_16 ?_
          refine lv_iload_n zhx zhb dX12_inCell_19 rfl (lv_at zhl 0 rfl) ?_
          obtain ⟨zv14, ze9, zhi, zhs⟩ := rdc_v zhs
          refine x_iald C zhw 25 (wR_c25 h cI M) zhi dX12_inCell_20 ?_
          refine lv_topi (fun zy9 ze8 => ?_)
          obtain rfl : zv14 = zy9 := ze9.trans ze8.symm
          clear ze9 ze8
          refine lv_if_ne (tgt := 38) zhx zhb dX12_inCell_21 (by decide) (fun zc9 => ?_) (fun zc9 => ?_)
          · replace zhs := br_F zhs zc9
            refine lv_iconst (v := 0) zhx zhb dX12_inCell_38 (by decide) ?_
            refine lv_iadd zhx zhb dX12_inCell_39 ?_
            obtain ⟨zv16, ze9, zhs⟩ := ltI_e zhs
            refine lv_topi (fun zy9 ze8 => ?_)
            obtain rfl : zv16 = zy9 := ze9.trans ze8.symm
            clear ze9 ze8
            refine lv_istore_n (lv' := [(2, .int zv16), (3, .int zx2), (0, .ref (h 0)), (1, .int a1)]) zhx zhb dX12_inCell_40 rfl zhl (by decide) rfl (fun zls zhl => ?_)
            obtain ⟨zv17, ze9, zhs⟩ := ltI_e zhs
            refine lv_iinc (v := zv17) (lv' := [(3, .int zv17), (2, .int zv16), (0, .ref (h 0)), (1, .int a1)]) zhx zhb dX12_inCell_41 zhl (k := 1) rfl (by rw [ze9]; rfl) (by decide) rfl (fun zls zhl => ?_)
            clear ze9
            refine lv_goto (tgt := 4) zhx zhb dX12_inCell_44 (by decide) ?_
            cases zhs
            exact zih zv16 zv17 zq (itk_l zhq) k4_47 zH zlocs zls zhl zhw
          · replace zhs := br_T zhs zc9
            refine lv_aload_n zhx zhb dX12_inCell_24 rfl (lv_at zhl 2 rfl) ?_
            refine x_get C zhw inlX12 rfl 0 23 (by decide) kw_9_1 rfl (wR_c0 h cI M) rfl dX12_inCell_25 ?_
            refine lv_iload_n zhx zhb dX12_inCell_28 rfl (lv_at zhl 0 rfl) ?_
            obtain ⟨zv18, ze9, zhi, zhs⟩ := rdc_v zhs
            refine x_iald C zhw 23 (wR_c23 h cI M) zhi dX12_inCell_29 ?_
            refine lv_topi (fun zy9 ze8 => ?_)
            obtain rfl : zv18 = zy9 := ze9.trans ze8.symm
            clear ze9 ze8
            refine lv_iload_n zhx zhb dX12_inCell_30 rfl (lv_at zhl 3 rfl) ?_
            refine lv_icmp_ne (tgt := 38) zhx zhb dX12_inCell_31 (by decide) (fun zc9 => ?_) (fun zc9 => ?_)
            · replace zhs := br_F zhs zc9
              refine lv_iconst (v := 0) zhx zhb dX12_inCell_38 (by decide) ?_
              refine lv_iadd zhx zhb dX12_inCell_39 ?_
              obtain ⟨zv19, ze9, zhs⟩ := ltI_e zhs
              refine lv_topi (fun zy9 ze8 => ?_)
              obtain rfl : zv19 = zy9 := ze9.trans ze8.symm
              clear ze9 ze8
              refine lv_istore_n (lv' := [(2, .int zv19), (3, .int zx2), (0, .ref (h 0)), (1, .int a1)]) zhx zhb dX12_inCell_40 rfl zhl (by decide) rfl (fun zls zhl => ?_)
              obtain ⟨zv20, ze9, zhs⟩ := ltI_e zhs
              refine lv_iinc (v := zv20) (lv' := [(3, .int zv20), (2, .int zv19), (0, .ref (h 0)), (1, .int a1)]) zhx zhb dX12_inCell_41 zhl (k := 1) rfl (by rw [ze9]; rfl) (by decide) rfl (fun zls zhl => ?_)
              clear ze9
              refine lv_goto (tgt := 4) zhx zhb dX12_inCell_44 (by decide) ?_
              cases zhs
              exact zih zv19 zv20 zq (itk_l zhq) k4_47 zH zlocs zls zhl zhw
            · replace zhs := br_T zhs zc9
              refine lv_iconst (v := 1) zhx zhb dX12_inCell_34 (by decide) ?_
              refine lv_goto (tgt := 39) zhx zhb dX12_inCell_35 (by decide) ?_
              refine lv_iadd zhx zhb dX12_inCell_39 ?_
              obtain ⟨zv21, ze9, zhs⟩ := ltI_e zhs
              refine lv_topi (fun zy9 ze8 => ?_)
              obtain rfl : zv21 = zy9 := ze9.trans ze8.symm
              clear ze9 ze8
              refine lv_istore_n (lv' := [(2, .int zv21), (3, .int zx2), (0, .ref (h 0)), (1, .int a1)]) zhx zhb dX12_inCell_40 rfl zhl (by decide) rfl (fun zls zhl => ?_)
              obtain ⟨zv22, ze9, zhs⟩ := ltI_e zhs
              refine lv_iinc (v := zv22) (lv' := [(3, .int zv22), (2, .int zv21), (0, .ref (h 0)), (1, .int a1)]) zhx zhb dX12_inCell_41 zhl (k := 1) rfl (by rw [ze9]; rfl) (by decide) rfl (fun zls zhl => ?_)
              clear ze9
              refine lv_goto (tgt := 4) zhx zhb dX12_inCell_44 (by decide) ?_
              cases zhs
              exact zih zv21 zv22 zq (itk_l zhq) k4_47 zH zlocs zls zhl zhw
  refine hloop23 N 0 0 zq23 zhq23 (fun zv24 zhqe zH zlocs zls zhl zhw => ?_) zH zlocs zls zhl zhw
  · subst zhqe
    refine lv_iload_n zhx zhb dX12_inCell_47 rfl (lv_at zhl 0 rfl) ?_
    cases zhs
    exact zhret _ _ _ _ dX12_inCell_48 (by rfl) zhw

-- OffFirstModel.move in (0, ())
def sRef_move (N : Nat) (a1 : Int32) (a2 : Int32) (M : Mm) : Option (Int32 × Mm) :=
  (sRef_isFood a1 M).bind fun zv1 =>
  (if zv1 = 0 then some ((-1), M)
  else (sRef_isCell a2 M).bind fun zv2 =>
  (if zv2 = 0 then some ((-1), M)
  else rdc 40 (M 25) a1 fun zv3 =>
  (if zv3 = 0 then rdc 40 (M 23) a1 fun zv4 =>
  (if zv4 = a2 then some ((-2), M)
  else (sRef_inCell N a2 M).bind fun zv5 =>
  rdc 12 (M 5) a2 fun zv6 =>
  (if zv5 = zv6 then some ((-2), M)
  else inc 40 a1 <| ltM (mset M 23 (Int32.toNatClampNeg a1) a2) fun zM7 =>
  (sRef_inCell N a2 zM7).bind fun zv8 =>
  some (zv8, zM7)))
  else some ((-2), M))))
set_option maxHeartbeats 4000000 in
set_option maxRecDepth 100000 in
theorem cRef_move (l : Launch) (D : va_G) (cI : ClassId) (h : Nat → Nat) (N : Nat) (a1 : Int32) (a2 : Int32) (M : Mm) (r : Int32) (M' : Mm) (zhs : sRef_move N a1 a2 M = some (r, M')) : CtI l yX12_move cX12_move 3 (some .int) 3 D cI (wR h cI M) (wR h cI M') [.ref (h 0), .int a1, .int a2] r := by
  unfold sRef_move at zhs
  refine CtI_of (by decide +kernel) (Nat.le_of_ble_eq_true rfl) ⟨_, rfl⟩ ?_
  intro p e s m args below meth c A Q zls zH zlocs C zhw zhl zhret
  have zhx := C.1
  have zhb := C.2.1
  have zhown := C.2.2.2.2.1
  have zhtB := C.2.2.2.2.2.2.1
  have zhl : lv_has zls 3 [(0, .ref (h 0)), (1, .int a1), (2, .int a2)] := zhl
  refine lv_aload_n zhx zhb dX12_move_0 rfl (lv_at zhl 0 rfl) ?_
  refine lv_iload_n zhx zhb dX12_move_1 rfl (lv_at zhl 1 rfl) ?_
  obtain ⟨zv1, zhp, zhs⟩ := bnd_e zhs
  refine x_cVI (As := [.int a1]) (rest := []) C zhw zhl (cRef_isFood l D cI h a1 M zv1 zhp) (by decide) (by decide) kw_19_23 kw_20_0 kw_20_1 kw_1_5 kw_20_2 md_X12_isFood rfl 0 (wR_c0 h cI M) rfl rfl rfl rfl (Nat.le_of_ble_eq_true rfl) dX12_move_2 (fun zH zlocs zhw hzv1 => ?_)
  refine lv_if_eq (tgt := 16) zhx zhb dX12_move_5 (by decide) (fun zc9 => ?_) (fun zc9 => ?_)
  · replace zhs := br_T zhs zc9
    refine lv_iconst (v := (-1)) zhx zhb dX12_move_16 (by decide) ?_
    cases zhs
    exact zhret _ _ _ _ dX12_move_17 (by rfl) zhw
  · replace zhs := br_F zhs zc9
    refine lv_aload_n zhx zhb dX12_move_8 rfl (lv_at zhl 0 rfl) ?_
    refine lv_iload_n zhx zhb dX12_move_9 rfl (lv_at zhl 2 rfl) ?_
    obtain ⟨zv2, zhp, zhs⟩ := bnd_e zhs
    refine x_cVI (As := [.int a2]) (rest := []) C zhw zhl (cRef_isCell l D cI h a2 M zv2 zhp) (by decide) (by decide) kw_21_6 kw_21_7 kw_21_8 kw_1_5 kw_21_9 md_X12_isCell rfl 0 (wR_c0 h cI M) rfl rfl rfl rfl (Nat.le_of_ble_eq_true rfl) dX12_move_10 (fun zH zlocs zhw hzv2 => ?_)
    refine lv_if_ne (tgt := 18) zhx zhb dX12_move_13 (by decide) (fun zc9 => ?_) (fun zc9 => ?_)
    · replace zhs := br_F zhs zc9
      refine lv_aload_n zhx zhb dX12_move_18 rfl (lv_at zhl 0 rfl) ?_
      refine x_get C zhw inlX12 rfl 0 25 (by decide) kw_9_3 rfl (wR_c0 h cI M) rfl dX12_move_19 ?_
      refine lv_iload_n zhx zhb dX12_move_22 rfl (lv_at zhl 1 rfl) ?_
      obtain ⟨zv3, ze9, zhi, zhs⟩ := rdc_v zhs
      refine x_iald C zhw 25 (wR_c25 h cI M) zhi dX12_move_23 ?_
      refine lv_topi (fun zy9 ze8 => ?_)
      obtain rfl : zv3 = zy9 := ze9.trans ze8.symm
      clear ze9 ze8
      refine lv_if_ne (tgt := 51) zhx zhb dX12_move_24 (by decide) (fun zc9 => ?_) (fun zc9 => ?_)
      · replace zhs := br_F zhs zc9
        refine lv_bipush (v := (-2)) zhx zhb dX12_move_51 (by decide) ?_
        cases zhs
        exact zhret _ _ _ _ dX12_move_53 (by rfl) zhw
      · replace zhs := br_T zhs zc9
        refine lv_aload_n zhx zhb dX12_move_27 rfl (lv_at zhl 0 rfl) ?_
        refine x_get C zhw inlX12 rfl 0 23 (by decide) kw_9_1 rfl (wR_c0 h cI M) rfl dX12_move_28 ?_
        refine lv_iload_n zhx zhb dX12_move_31 rfl (lv_at zhl 1 rfl) ?_
        obtain ⟨zv4, ze9, zhi, zhs⟩ := rdc_v zhs
        refine x_iald C zhw 23 (wR_c23 h cI M) zhi dX12_move_32 ?_
        refine lv_topi (fun zy9 ze8 => ?_)
        obtain rfl : zv4 = zy9 := ze9.trans ze8.symm
        clear ze9 ze8
        refine lv_iload_n zhx zhb dX12_move_33 rfl (lv_at zhl 2 rfl) ?_
        refine lv_icmp_eq (tgt := 51) zhx zhb dX12_move_34 (by decide) (fun zc9 => ?_) (fun zc9 => ?_)
        · replace zhs := br_T zhs zc9
          refine lv_bipush (v := (-2)) zhx zhb dX12_move_51 (by decide) ?_
          cases zhs
          exact zhret _ _ _ _ dX12_move_53 (by rfl) zhw
        · replace zhs := br_F zhs zc9
          refine lv_aload_n zhx zhb dX12_move_37 rfl (lv_at zhl 0 rfl) ?_
          refine lv_iload_n zhx zhb dX12_move_38 rfl (lv_at zhl 2 rfl) ?_
          obtain ⟨zv5, zhp, zhs⟩ := bnd_e zhs
          refine x_cVI (As := [.int a2]) (rest := []) C zhw zhl (cRef_inCell l D cI h N a2 M zv5 zhp) (by decide) (by decide) kw_24_21 kw_24_22 kw_24_23 kw_1_5 kw_25_0 md_X12_inCell rfl 0 (wR_c0 h cI M) rfl rfl rfl rfl (Nat.le_of_ble_eq_true rfl) dX12_move_39 (fun zH zlocs zhw hn9 => ?_)
          refine lv_aload_n zhx zhb dX12_move_42 rfl (lv_at zhl 0 rfl) ?_
          refine x_get C zhw inlX12 rfl 0 5 (by decide) kw_8_7 rfl (wR_c0 h cI M) rfl dX12_move_43 ?_
          refine lv_iload_n zhx zhb dX12_move_46 rfl (lv_at zhl 2 rfl) ?_
          obtain ⟨zv6, ze9, zhi, zhs⟩ := rdc_v zhs
          refine x_iald C zhw 5 (wR_c5 h cI M) zhi dX12_move_47 ?_
          refine lv_topi (fun zy9 ze8 => ?_)
          obtain rfl : zv6 = zy9 := ze9.trans ze8.symm
          clear ze9 ze8
          refine lv_icmp_ne (tgt := 54) zhx zhb dX12_move_48 (by decide) (fun zc9 => ?_) (fun zc9 => ?_)
          · replace zhs := br_F zhs zc9
            refine lv_aload_n zhx zhb dX12_move_54 rfl (lv_at zhl 0 rfl) ?_
            refine x_get C zhw inlX12 rfl 0 23 (by decide) kw_9_1 rfl (wR_c0 h cI M) rfl dX12_move_55 ?_
            refine lv_iload_n zhx zhb dX12_move_58 rfl (lv_at zhl 1 rfl) ?_
            refine lv_iload_n zhx zhb dX12_move_59 rfl (lv_at zhl 2 rfl) ?_
            obtain ⟨zhi, zhs⟩ := inc_e zhs
            refine x_iast C zhw 23 (wR_c23 h cI M) zhi (wR_a23 h cI M _ _) dX12_move_60 (fun zH zlocs zhw => ?_)
            obtain ⟨zM7, ze9, zhs⟩ := ltM_e zhs
            rw [← ze9] at zhw; clear ze9
            refine lv_aload_n zhx zhb dX12_move_61 rfl (lv_at zhl 0 rfl) ?_
            refine lv_iload_n zhx zhb dX12_move_62 rfl (lv_at zhl 2 rfl) ?_
            obtain ⟨zv8, zhp, zhs⟩ := bnd_e zhs
            refine x_cVI (As := [.int a2]) (rest := []) C zhw zhl (cRef_inCell l D cI h N a2 zM7 zv8 zhp) (by decide) (by decide) kw_24_21 kw_24_22 kw_24_23 kw_1_5 kw_25_0 md_X12_inCell rfl 0 (wR_c0 h cI zM7) rfl rfl rfl rfl (Nat.le_of_ble_eq_true rfl) dX12_move_63 (fun zH zlocs zhw hn9 => ?_)
            cases zhs
            exact zhret _ _ _ _ dX12_move_66 (by rfl) zhw
          · replace zhs := br_T zhs zc9
            refine lv_bipush (v := (-2)) zhx zhb dX12_move_51 (by decide) ?_
            cases zhs
            exact zhret _ _ _ _ dX12_move_53 (by rfl) zhw
    · replace zhs := br_T zhs zc9
      refine lv_iconst (v := (-1)) zhx zhb dX12_move_16 (by decide) ?_
      cases zhs
      exact zhret _ _ _ _ dX12_move_17 (by rfl) zhw

