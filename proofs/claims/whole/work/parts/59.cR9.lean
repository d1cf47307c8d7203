-- OffFirstModel.keep in (0, ())
def sRef_keep (N : Nat) (M : Mm) : Option (Int32 × Mm) :=
  (if (M 0 28) = 2 then some ((-3), M)
  else ltM (mset M 0 28 ((M 0 28) + 1)) fun zM1 =>
  (sRef_copy N 0 (1 + (zM1 0 28)) zM1).bind fun zM2 =>
  some ((zM2 0 28), zM2))
set_option maxHeartbeats 4000000 in
set_option maxRecDepth 100000 in
theorem cRef_keep (l : Launch) (D : va_G) (cI : ClassId) (h : Nat → Nat) (N : Nat) (M : Mm) (r : Int32) (M' : Mm) (zhs : sRef_keep N M = some (r, M')) : CtI l yX12_keep cX12_keep 1 (some .int) 2 D cI (wR h cI M) (wR h cI M') [.ref (h 0)] r := by
  unfold sRef_keep at zhs
  refine CtI_of (by decide +kernel) (Nat.le_of_ble_eq_true rfl) ⟨_, rfl⟩ ?_
  intro p e s m args below meth c A Q zls zH zlocs C zhw zhl zhret
  have zhx := C.1
  have zhb := C.2.1
  have zhown := C.2.2.2.2.1
  have zhtB := C.2.2.2.2.2.2.1
  have zhl : lv_has zls 1 [(0, .ref (h 0))] := zhl
  refine lv_aload_n zhx zhb dX12_keep_0 rfl (lv_at zhl 0 rfl) ?_
  refine x_get C zhw inlX12 rfl 0 28 (by decide) kw_9_16 rfl (wR_c0 h cI M) rfl dX12_keep_1 ?_
  refine lv_iconst (v := 2) zhx zhb dX12_keep_4 (by decide) ?_
  refine lv_icmp_ne (tgt := 11) zhx zhb dX12_keep_5 (by decide) (fun zc9 => ?_) (fun zc9 => ?_)
  · replace zhs := br_F zhs zc9
    refine lv_aload_n zhx zhb dX12_keep_11 rfl (lv_at zhl 0 rfl) ?_
    refine lv_dup zhx zhb dX12_keep_12 rfl ?_
    refine x_get C zhw inlX12 rfl 0 28 (by decide) kw_9_16 rfl (wR_c0 h cI M) rfl dX12_keep_13 ?_
    refine lv_iconst (v := 1) zhx zhb dX12_keep_16 (by decide) ?_
    refine lv_iadd zhx zhb dX12_keep_17 ?_
    refine x_put C zhw inlX12 rfl tyX12_ok nmX12 0 28 (by decide) kw_9_16 rfl rfl rfl (wR_c0 h cI M) (Nat.le_of_ble_eq_true rfl) (wR_s0_28 h cI M _) dX12_keep_18 (fun zH zlocs zhw => ?_)
    obtain ⟨zM1, ze9, zhs⟩ := ltM_e zhs
    rw [← ze9] at zhw; clear ze9
    refine lv_aload_n zhx zhb dX12_keep_21 rfl (lv_at zhl 0 rfl) ?_
    refine lv_iconst (v := 0) zhx zhb dX12_keep_22 (by decide) ?_
    refine lv_iconst (v := 1) zhx zhb dX12_keep_23 (by decide) ?_
    refine lv_aload_n zhx zhb dX12_keep_24 rfl (lv_at zhl 0 rfl) ?_
    refine x_get C zhw inlX12 rfl 0 28 (by decide) kw_9_16 rfl (wR_c0 h cI zM1) rfl dX12_keep_25 ?_
    refine lv_iadd zhx zhb dX12_keep_28 ?_
    obtain ⟨zM2, zhp, zhs⟩ := bnd_e zhs
    refine x_cVV (As := [.int 0, .int (1 + (zM1 0 28))]) (rest := []) C zhw zhl (cRef_copy l D cI h N 0 (1 + (zM1 0 28)) zM1 zM2 zhp) (by decide) (by decide) kw_28_9 kw_28_10 kw_28_11 kw_1_5 kw_28_12 md_X12_copy rfl 0 (wR_c0 h cI zM1) rfl rfl rfl rfl (Nat.le_of_ble_eq_true rfl) dX12_keep_29 (fun zH zlocs zhw => ?_)
    refine lv_aload_n zhx zhb dX12_keep_32 rfl (lv_at zhl 0 rfl) ?_
    refine x_get C zhw inlX12 rfl 0 28 (by decide) kw_9_16 rfl (wR_c0 h cI zM2) rfl dX12_keep_33 ?_
    cases zhs
    exact zhret _ _ _ _ dX12_keep_36 (by rfl) zhw
  · replace zhs := br_T zhs zc9
    refine lv_bipush (v := (-3)) zhx zhb dX12_keep_8 (by decide) ?_
    cases zhs
    exact zhret _ _ _ _ dX12_keep_10 (by rfl) zhw

-- OffFirstModel.back in (0, ())
def sRef_back (N : Nat) (M : Mm) : Option (Int32 × Mm) :=
  (if (M 0 28) = 0 then some ((-2), M)
  else (sRef_copy N (1 + (M 0 28)) 0 M).bind fun zM1 =>
  ltM (mset zM1 0 28 ((zM1 0 28) - 1)) fun zM2 =>
  some ((zM2 0 28), zM2))
set_option maxHeartbeats 4000000 in
set_option maxRecDepth 100000 in
theorem cRef_back (l : Launch) (D : va_G) (cI : ClassId) (h : Nat → Nat) (N : Nat) (M : Mm) (r : Int32) (M' : Mm) (zhs : sRef_back N M = some (r, M')) : CtI l yX12_back cX12_back 1 (some .int) 2 D cI (wR h cI M) (wR h cI M') [.ref (h 0)] r := by
  unfold sRef_back at zhs
  refine CtI_of (by decide +kernel) (Nat.le_of_ble_eq_true rfl) ⟨_, rfl⟩ ?_
  intro p e s m args below meth c A Q zls zH zlocs C zhw zhl zhret
  have zhx := C.1
  have zhb := C.2.1
  have zhown := C.2.2.2.2.1
  have zhtB := C.2.2.2.2.2.2.1
  have zhl : lv_has zls 1 [(0, .ref (h 0))] := zhl
  refine lv_aload_n zhx zhb dX12_back_0 rfl (lv_at zhl 0 rfl) ?_
  refine x_get C zhw inlX12 rfl 0 28 (by decide) kw_9_16 rfl (wR_c0 h cI M) rfl dX12_back_1 ?_
  refine lv_if_ne (tgt := 10) zhx zhb dX12_back_4 (by decide) (fun zc9 => ?_) (fun zc9 => ?_)
  · replace zhs := br_F zhs zc9
    refine lv_aload_n zhx zhb dX12_back_10 rfl (lv_at zhl 0 rfl) ?_
    refine lv_iconst (v := 1) zhx zhb dX12_back_11 (by decide) ?_
    refine lv_aload_n zhx zhb dX12_back_12 rfl (lv_at zhl 0 rfl) ?_
    refine x_get C zhw inlX12 rfl 0 28 (by decide) kw_9_16 rfl (wR_c0 h cI M) rfl dX12_back_13 ?_
    refine lv_iadd zhx zhb dX12_back_16 ?_
    refine lv_iconst (v := 0) zhx zhb dX12_back_17 (by decide) ?_
    obtain ⟨zM1, zhp, zhs⟩ := bnd_e zhs
    refine x_cVV (As := [.int (1 + (M 0 28)), .int 0]) (rest := []) C zhw zhl (cRef_copy l D cI h N (1 + (M 0 28)) 0 M zM1 zhp) (by decide) (by decide) kw_28_9 kw_28_10 kw_28_11 kw_1_5 kw_28_12 md_X12_copy rfl 0 (wR_c0 h cI M) rfl rfl rfl rfl (Nat.le_of_ble_eq_true rfl) dX12_back_18 (fun zH zlocs zhw => ?_)
    refine lv_aload_n zhx zhb dX12_back_21 rfl (lv_at zhl 0 rfl) ?_
    refine lv_dup zhx zhb dX12_back_22 rfl ?_
    refine x_get C zhw inlX12 rfl 0 28 (by decide) kw_9_16 rfl (wR_c0 h cI zM1) rfl dX12_back_23 ?_
    refine lv_iconst (v := 1) zhx zhb dX12_back_26 (by decide) ?_
    refine lv_isub zhx zhb dX12_back_27 ?_
    refine x_put C zhw inlX12 rfl tyX12_ok nmX12 0 28 (by decide) kw_9_16 rfl rfl rfl (wR_c0 h cI zM1) (Nat.le_of_ble_eq_true rfl) (wR_s0_28 h cI zM1 _) dX12_back_28 (fun zH zlocs zhw => ?_)
    obtain ⟨zM2, ze9, zhs⟩ := ltM_e zhs
    rw [← ze9] at zhw; clear ze9
    refine lv_aload_n zhx zhb dX12_back_31 rfl (lv_at zhl 0 rfl) ?_
    refine x_get C zhw inlX12 rfl 0 28 (by decide) kw_9_16 rfl (wR_c0 h cI zM2) rfl dX12_back_32 ?_
    cases zhs
    exact zhret _ _ _ _ dX12_back_35 (by rfl) zhw
  · replace zhs := br_T zhs zc9
    refine lv_bipush (v := (-2)) zhx zhb dX12_back_7 (by decide) ?_
    cases zhs
    exact zhret _ _ _ _ dX12_back_9 (by rfl) zhw

-- OffFirstModel.count in (0, ())
def sRef_count (N : Nat) (a1 : Int32) (M : Mm) : Option Int32 :=
  (if a1 = 0 then rdc 2 (M 7) 0 fun zv1 =>
  some zv1
  else (if a1 = 1 then rdc 2 (M 2) 0 fun zv2 =>
  some zv2
  else (if a1 = 2 then rdc 2 (M 14) 0 fun zv3 =>
  some zv3
  else (if a1 = 3 then rdc 2 (M 16) 0 fun zv4 =>
  some zv4
  else (if a1 = 4 then rdc 2 (M 18) 0 fun zv5 =>
  some zv5
  else (if a1 = 5 then some (M 0 29)
  else (if a1 = 6 then rdc 4 (M 27) 0 fun zv6 =>
  some zv6
  else (if a1 = 7 then (sRef_thereMany N M).bind fun zv7 =>
  some zv7
  else (if a1 = 8 then some (M 0 0)
  else (if a1 = 9 then some (M 0 28)
  else some (-1)))))))))))
set_option maxHeartbeats 4000000 in
set_option maxRecDepth 100000 in
theorem cRef_count (l : Launch) (D : va_G) (cI : ClassId) (h : Nat → Nat) (N : Nat) (a1 : Int32) (M : Mm) (r : Int32) (zhs : sRef_count N a1 M = some r) : CtI l yX12_count cX12_count 2 (some .int) 2 D cI (wR h cI M) (wR h cI M) [.ref (h 0), .int a1] r := by
  unfold sRef_count at zhs
  refine CtI_of (by decide +kernel) (Nat.le_of_ble_eq_true rfl) ⟨_, rfl⟩ ?_
  intro p e s m args below meth c A Q zls zH zlocs C zhw zhl zhret
  have zhx := C.1
  have zhb := C.2.1
  have zhown := C.2.2.2.2.1
  have zhtB := C.2.2.2.2.2.2.1
  have zhl : lv_has zls 2 [(0, .ref (h 0)), (1, .int a1)] := zhl
  refine lv_iload_n zhx zhb dX12_count_0 rfl (lv_at zhl 1 rfl) ?_
  rcases Decidable.em (a1 = 0) with zc9 | c1000
  · replace zhs := br_T zhs zc9
    refine lv_tableIn (tgt := 56) (off := 55) zhx zhb dX12_count_1 (by rw [zc9]; decide) (by rw [zc9]; decide) (by rw [zc9]; decide) (by decide) ?_
    refine lv_aload_n zhx zhb dX12_count_56 rfl (lv_at zhl 0 rfl) ?_
    refine x_get C zhw inlX12 rfl 0 7 (by decide) kw_8_9 rfl (wR_c0 h cI M) rfl dX12_count_57 ?_
    refine lv_iconst (v := 0) zhx zhb dX12_count_60 (by decide) ?_
    obtain ⟨zv1, ze9, zhi, zhs⟩ := rdc_v zhs
    refine x_iald C zhw 7 (wR_c7 h cI M) zhi dX12_count_61 ?_
    refine lv_topi (fun zy9 ze8 => ?_)
    obtain rfl : zv1 = zy9 := ze9.trans ze8.symm
    clear ze9 ze8
    cases zhs
    exact zhret _ _ _ _ dX12_count_62 (by rfl) zhw
  replace zhs := br_F zhs c1000
  rcases Decidable.em (a1 = 1) with zc9 | c1001
  · replace zhs := br_T zhs zc9
    refine lv_tableIn (tgt := 63) (off := 62) zhx zhb dX12_count_1 (by rw [zc9]; decide) (by rw [zc9]; decide) (by rw [zc9]; decide) (by decide) ?_
    refine lv_aload_n zhx zhb dX12_count_63 rfl (lv_at zhl 0 rfl) ?_
    refine x_get C zhw inlX12 rfl 0 2 (by decide) kw_8_4 rfl (wR_c0 h cI M) rfl dX12_count_64 ?_
    refine lv_iconst (v := 0) zhx zhb dX12_count_67 (by decide) ?_
    obtain ⟨zv2, ze9, zhi, zhs⟩ := rdc_v zhs
    refine x_iald C zhw 2 (wR_c2 h cI M) zhi dX12_count_68 ?_
    refine lv_topi (fun zy9 ze8 => ?_)
    obtain rfl : zv2 = zy9 := ze9.trans ze8.symm
    clear ze9 ze8
    cases zhs
    exact zhret _ _ _ _ dX12_count_69 (by rfl) zhw
  replace zhs := br_F zhs c1001
  rcases Decidable.em (a1 = 2) with zc9 | c1002
  · replace zhs := br_T zhs zc9
    refine lv_tableIn (tgt := 70) (off := 69) zhx zhb dX12_count_1 (by rw [zc9]; decide) (by rw [zc9]; decide) (by rw [zc9]; decide) (by decide) ?_
    refine lv_aload_n zhx zhb dX12_count_70 rfl (lv_at zhl 0 rfl) ?_
    refine x_get C zhw inlX12 rfl 0 14 (by decide) kw_8_16 rfl (wR_c0 h cI M) rfl dX12_count_71 ?_
    refine lv_iconst (v := 0) zhx zhb dX12_count_74 (by decide) ?_
    obtain ⟨zv3, ze9, zhi, zhs⟩ := rdc_v zhs
    refine x_iald C zhw 14 (wR_c14 h cI M) zhi dX12_count_75 ?_
    refine lv_topi (fun zy9 ze8 => ?_)
    obtain rfl : zv3 = zy9 := ze9.trans ze8.symm
    clear ze9 ze8
    cases zhs
    exact zhret _ _ _ _ dX12_count_76 (by rfl) zhw
  replace zhs := br_F zhs c1002
  rcases Decidable.em (a1 = 3) with zc9 | c1003
  · replace zhs := br_T zhs zc9
    refine lv_tableIn (tgt := 77) (off := 76) zhx zhb dX12_count_1 (by rw [zc9]; decide) (by rw [zc9]; decide) (by rw [zc9]; decide) (by decide) ?_
    refine lv_aload_n zhx zhb dX12_count_77 rfl (lv_at zhl 0 rfl) ?_
    refine x_get C zhw inlX12 rfl 0 16 (by decide) kw_8_18 rfl (wR_c0 h cI M) rfl dX12_count_78 ?_
    refine lv_iconst (v := 0) zhx zhb dX12_count_81 (by decide) ?_
    obtain ⟨zv4, ze9, zhi, zhs⟩ := rdc_v zhs
    refine x_iald C zhw 16 (wR_c16 h cI M) zhi dX12_count_82 ?_
    refine lv_topi (fun zy9 ze8 => ?_)
    obtain rfl : zv4 = zy9 := ze9.trans ze8.symm
    clear ze9 ze8
    cases zhs
    exact zhret _ _ _ _ dX12_count_83 (by rfl) zhw
  replace zhs := br_F zhs c1003
  rcases Decidable.em (a1 = 4) with zc9 | c1004
  · replace zhs := br_T zhs zc9
    refine lv_tableIn (tgt := 84) (off := 83) zhx zhb dX12_count_1 (by rw [zc9]; decide) (by rw [zc9]; decide) (by rw [zc9]; decide) (by decide) ?_
    refine lv_aload_n zhx zhb dX12_count_84 rfl (lv_at zhl 0 rfl) ?_
    refine x_get C zhw inlX12 rfl 0 18 (by decide) kw_8_20 rfl (wR_c0 h cI M) rfl dX12_count_85 ?_
    refine lv_iconst (v := 0) zhx zhb dX12_count_88 (by decide) ?_
    obtain ⟨zv5, ze9, zhi, zhs⟩ := rdc_v zhs
    refine x_iald C zhw 18 (wR_c18 h cI M) zhi dX12_count_89 ?_
    refine lv_topi (fun zy9 ze8 => ?_)
    obtain rfl : zv5 = zy9 := ze9.trans ze8.symm
    clear ze9 ze8
    cases zhs
    exact zhret _ _ _ _ dX12_count_90 (by rfl) zhw
  replace zhs := br_F zhs c1004
  rcases Decidable.em (a1 = 5) with zc9 | c1005
  · replace zhs := br_T zhs zc9
    refine lv_tableIn (tgt := 91) (off := 90) zhx zhb dX12_count_1 (by rw [zc9]; decide) (by rw [zc9]; decide) (by rw [zc9]; decide) (by decide) ?_
    refine lv_aload_n zhx zhb dX12_count_91 rfl (lv_at zhl 0 rfl) ?_
    refine x_get C zhw inlX12 rfl 0 29 (by decide) kw_9_17 rfl (wR_c0 h cI M) rfl dX12_count_92 ?_
    cases zhs
    exact zhret _ _ _ _ dX12_count_95 (by rfl) zhw
  replace zhs := br_F zhs c1005
  rcases Decidable.em (a1 = 6) with zc9 | c1006
  · replace zhs := br_T zhs zc9
    refine lv_tableIn (tgt := 96) (off := 95) zhx zhb dX12_count_1 (by rw [zc9]; decide) (by rw [zc9]; decide) (by rw [zc9]; decide) (by decide) ?_
    refine lv_aload_n zhx zhb dX12_count_96 rfl (lv_at zhl 0 rfl) ?_
    refine x_get C zhw inlX12 rfl 0 27 (by decide) kw_9_5 rfl (wR_c0 h cI M) rfl dX12_count_97 ?_
    refine lv_iconst (v := 0) zhx zhb dX12_count_100 (by decide) ?_
    obtain ⟨zv6, ze9, zhi, zhs⟩ := rdc_v zhs
    refine x_iald C zhw 27 (wR_c27 h cI M) zhi dX12_count_101 ?_
    refine lv_topi (fun zy9 ze8 => ?_)
    obtain rfl : zv6 = zy9 := ze9.trans ze8.symm
    clear ze9 ze8
    cases zhs
    exact zhret _ _ _ _ dX12_count_102 (by rfl) zhw
  replace zhs := br_F zhs c1006
  rcases Decidable.em (a1 = 7) with zc9 | c1007
  · replace zhs := br_T zhs zc9
    refine lv_tableIn (tgt := 103) (off := 102) zhx zhb dX12_count_1 (by rw [zc9]; decide) (by rw [zc9]; decide) (by rw [zc9]; decide) (by decide) ?_
    refine lv_aload_n zhx zhb dX12_count_103 rfl (lv_at zhl 0 rfl) ?_
    obtain ⟨zv7, zhp, zhs⟩ := bnd_e zhs
    refine x_cVI (As := []) (rest := []) C zhw zhl (cRef_thereMany l D cI h N M zv7 zhp) (by decide) (by decide) kw_35_21 kw_35_22 kw_35_23 kw_1_5 kw_36_0 md_X12_thereMany rfl 0 (wR_c0 h cI M) rfl rfl rfl rfl (Nat.le_of_ble_eq_true rfl) dX12_count_104 (fun zH zlocs zhw hn9 => ?_)
    cases zhs
    exact zhret _ _ _ _ dX12_count_107 (by rfl) zhw
  replace zhs := br_F zhs c1007
  rcases Decidable.em (a1 = 8) with zc9 | c1008
  · replace zhs := br_T zhs zc9
    refine lv_tableIn (tgt := 108) (off := 107) zhx zhb dX12_count_1 (by rw [zc9]; decide) (by rw [zc9]; decide) (by rw [zc9]; decide) (by decide) ?_
    refine lv_aload_n zhx zhb dX12_count_108 rfl (lv_at zhl 0 rfl) ?_
    refine x_get C zhw inlX12 rfl 0 0 (by decide) kw_10_12 rfl (wR_c0 h cI M) rfl dX12_count_109 ?_
    cases zhs
    exact zhret _ _ _ _ dX12_count_112 (by rfl) zhw
  replace zhs := br_F zhs c1008
  rcases Decidable.em (a1 = 9) with zc9 | c1009
  · replace zhs := br_T zhs zc9
    refine lv_tableIn (tgt := 113) (off := 112) zhx zhb dX12_count_1 (by rw [zc9]; decide) (by rw [zc9]; decide) (by rw [zc9]; decide) (by decide) ?_
    refine lv_aload_n zhx zhb dX12_count_113 rfl (lv_at zhl 0 rfl) ?_
    refine x_get C zhw inlX12 rfl 0 28 (by decide) kw_9_16 rfl (wR_c0 h cI M) rfl dX12_count_114 ?_
    cases zhs
    exact zhret _ _ _ _ dX12_count_117 (by rfl) zhw
  replace zhs := br_F zhs c1009
  have zhout : a1.toInt < 0 ∨ 9 < a1.toInt := by
    have f0 : ¬ a1.toInt = 0 := fun zq9 => c1000 (Int32.toInt_inj.mp (zq9.trans rfl))
    have f1 : ¬ a1.toInt = 1 := fun zq9 => c1001 (Int32.toInt_inj.mp (zq9.trans rfl))
    have f2 : ¬ a1.toInt = 2 := fun zq9 => c1002 (Int32.toInt_inj.mp (zq9.trans rfl))
    have f3 : ¬ a1.toInt = 3 := fun zq9 => c1003 (Int32.toInt_inj.mp (zq9.trans rfl))
    have f4 : ¬ a1.toInt = 4 := fun zq9 => c1004 (Int32.toInt_inj.mp (zq9.trans rfl))
    have f5 : ¬ a1.toInt = 5 := fun zq9 => c1005 (Int32.toInt_inj.mp (zq9.trans rfl))
    have f6 : ¬ a1.toInt = 6 := fun zq9 => c1006 (Int32.toInt_inj.mp (zq9.trans rfl))
    have f7 : ¬ a1.toInt = 7 := fun zq9 => c1007 (Int32.toInt_inj.mp (zq9.trans rfl))
    have f8 : ¬ a1.toInt = 8 := fun zq9 => c1008 (Int32.toInt_inj.mp (zq9.trans rfl))
    have f9 : ¬ a1.toInt = 9 := fun zq9 => c1009 (Int32.toInt_inj.mp (zq9.trans rfl))
    omega
  refine lv_tableOut (tgt := 118) zhx zhb dX12_count_1 zhout (by decide) ?_
  refine lv_iconst (v := (-1)) zhx zhb dX12_count_118 (by decide) ?_
  cases zhs
  exact zhret _ _ _ _ dX12_count_119 (by rfl) zhw

