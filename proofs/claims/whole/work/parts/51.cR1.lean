-- OffFirstModel.item in (0, ())
def sRef_item (N : Nat) (M : Mm) : Option (Int32 × Mm) :=
  (sRef_byteAt (M 0 31) M).bind fun zv1 =>
  ltM (mset M 0 31 ((M 0 31) + 1)) fun zM2 =>
  (if zv1 = 98 then (sRef_figures N 2 zM2).bind fun (zv3, zM4) =>
  (if zv3 = 0 then some (0, zM4)
  else rdc 6 (zM4 29) 0 fun zv5 =>
  (sRef_in (Int32.toInt64 zv5) 1 99).bind fun zv6 =>
  (if zv6 = 0 then some (0, zM4)
  else rdc 6 (zM4 29) 1 fun zv7 =>
  (sRef_in (Int32.toInt64 zv7) 1 198).bind fun zv8 =>
  (if zv8 = 0 then some (0, zM4)
  else rdc 6 (zM4 29) 0 fun zv9 =>
  inc 6 3 <| ltM (mset zM4 21 (Int32.toNatClampNeg 3) zv9) fun zM10 =>
  rdc 6 (zM10 29) 1 fun zv11 =>
  inc 6 4 <| ltM (mset zM10 21 (Int32.toNatClampNeg 4) zv11) fun zM12 =>
  some (1, zM12))))
  else (if zv1 = 99 then (sRef_cellItem N zM2).bind fun (zv13, zM14) =>
  some (zv13, zM14)
  else (if zv1 = 100 then (sRef_figures N 1 zM2).bind fun (zv15, zM16) =>
  (if zv15 = 0 then some (0, zM16)
  else rdc 2 (zM16 14) 1 fun zv17 =>
  (if zv17 = 5 then some (0, zM16)
  else rdc 6 (zM16 29) 0 fun zv18 =>
  (sRef_in (Int32.toInt64 zv18) 1 15).bind fun zv19 =>
  (if zv19 = 0 then some (0, zM16)
  else rdc 2 (zM16 14) 1 fun zv20 =>
  rdc 6 (zM16 29) 0 fun zv21 =>
  inc 10 (5 + zv20) <| ltM (mset zM16 15 (Int32.toNatClampNeg (5 + zv20)) zv21) fun zM22 =>
  rdc 2 (zM22 14) 1 fun zv23 =>
  inc 2 1 <| ltM (mset zM22 14 (Int32.toNatClampNeg 1) (zv23 + 1)) fun zM24 =>
  some (1, zM24))))
  else (if zv1 = 101 then (sRef_figures N 1 zM2).bind fun (zv25, zM26) =>
  (if zv25 = 0 then some (0, zM26)
  else rdc 2 (zM26 16) 1 fun zv27 =>
  (if zv27 = 4 then some (0, zM26)
  else rdc 6 (zM26 29) 0 fun zv28 =>
  (if zv28 ≤ 15 then rdc 2 (zM26 16) 1 fun zv29 =>
  rdc 6 (zM26 29) 0 fun zv30 =>
  inc 8 (4 + zv29) <| ltM (mset zM26 17 (Int32.toNatClampNeg (4 + zv29)) zv30) fun zM31 =>
  rdc 2 (zM31 16) 1 fun zv32 =>
  inc 2 1 <| ltM (mset zM31 16 (Int32.toNatClampNeg 1) (zv32 + 1)) fun zM33 =>
  some (1, zM33)
  else some (0, zM26))))
  else (if zv1 = 102 then (sRef_foodItem N zM2).bind fun (zv34, zM35) =>
  some (zv34, zM35)
  else (if zv1 = 103 then (sRef_figures N 2 zM2).bind fun (zv36, zM37) =>
  (if zv36 = 0 then some (0, zM37)
  else rdc 2 (zM37 18) 1 fun zv38 =>
  (if zv38 = 6 then some (0, zM37)
  else rdc 6 (zM37 29) 0 fun zv39 =>
  (if 9 < zv39 then some (0, zM37)
  else rdc 6 (zM37 29) 1 fun zv40 =>
  (sRef_in (Int32.toInt64 zv40) 1 99).bind fun zv41 =>
  (if zv41 = 0 then some (0, zM37)
  else rdc 2 (zM37 18) 1 fun zv42 =>
  rdc 6 (zM37 29) 0 fun zv43 =>
  inc 12 (6 + zv42) <| ltM (mset zM37 19 (Int32.toNatClampNeg (6 + zv42)) zv43) fun zM44 =>
  rdc 2 (zM44 18) 1 fun zv45 =>
  rdc 6 (zM44 29) 1 fun zv46 =>
  inc 12 (6 + zv45) <| ltM (mset zM44 20 (Int32.toNatClampNeg (6 + zv45)) zv46) fun zM47 =>
  rdc 2 (zM47 18) 1 fun zv48 =>
  inc 2 1 <| ltM (mset zM47 18 (Int32.toNatClampNeg 1) (zv48 + 1)) fun zM49 =>
  some (1, zM49)))))
  else (if zv1 = 111 then (sRef_figures N 1 zM2).bind fun (zv50, zM51) =>
  (if zv50 = 0 then some (0, zM51)
  else rdc 6 (zM51 29) 0 fun zv52 =>
  (if zv52 ≤ 23 then rdc 2 (zM51 6) 1 fun zv53 =>
  rdc 6 (zM51 29) 0 fun zv54 =>
  inc 2 1 <| ltM (mset zM51 6 (Int32.toNatClampNeg 1) (zv53 ||| (1 <<< (zv54 &&& 31)))) fun zM55 =>
  some (1, zM55)
  else some (0, zM51)))
  else (if zv1 = 115 then (sRef_figures N 1 zM2).bind fun (zv56, zM57) =>
  (if zv56 = 0 then some (0, zM57)
  else rdc 6 (zM57 29) 0 fun zv58 =>
  (if zv58 ≤ 4 then rdc 6 (zM57 29) 0 fun zv59 =>
  inc 6 5 <| ltM (mset zM57 21 (Int32.toNatClampNeg 5) zv59) fun zM60 =>
  some (1, zM60)
  else some (0, zM57)))
  else some (0, zM2)))))))))
set_option maxHeartbeats 4000000 in
set_option maxRecDepth 100000 in
theorem cRef_item (l : Launch) (D : va_G) (cI : ClassId) (h : Nat → Nat) (N : Nat) (M : Mm) (r : Int32) (M' : Mm) (zhs : sRef_item N M = some (r, M')) : CtI l yX12_item cX12_item 2 (some .boolean) 4 D cI (wR h cI M) (wR h cI M') [.ref (h 0)] r := by
  unfold sRef_item at zhs
  refine CtI_of (by decide +kernel) (Nat.le_of_ble_eq_true rfl) ⟨_, rfl⟩ ?_
  intro p e s m args below meth c A Q zls zH zlocs C zhw zhl zhret
  have zhx := C.1
  have zhb := C.2.1
  have zhown := C.2.2.2.2.1
  have zhtB := C.2.2.2.2.2.2.1
  have zhl : lv_has zls 2 [(0, .ref (h 0))] := zhl
  refine lv_aload_n zhx zhb dX12_item_0 rfl (lv_at zhl 0 rfl) ?_
  refine lv_aload_n zhx zhb dX12_item_1 rfl (lv_at zhl 0 rfl) ?_
  refine x_get C zhw inlX12 rfl 0 31 (by decide) kw_15_17 rfl (wR_c0 h cI M) rfl dX12_item_2 ?_
  obtain ⟨zv1, zhp, zhs⟩ := bnd_e zhs
  refine x_cVI (As := [.int (M 0 31)]) (rest := []) C zhw zhl (cRef_byteAt l D cI h (M 0 31) M zv1 zhp) (by decide) (by decide) kw_16_1 kw_16_2 kw_16_3 kw_1_5 kw_16_4 md_X12_byteAt rfl 0 (wR_c0 h cI M) rfl rfl rfl rfl (Nat.le_of_ble_eq_true rfl) dX12_item_5 (fun zH zlocs zhw hn9 => ?_)
  refine lv_istore_n (lv' := [(1, .int zv1), (0, .ref (h 0))]) zhx zhb dX12_item_8 rfl zhl (by decide) rfl (fun zls zhl => ?_)
  refine lv_aload_n zhx zhb dX12_item_9 rfl (lv_at zhl 1 rfl) ?_
  refine lv_dup zhx zhb dX12_item_10 rfl ?_
  refine x_get C zhw inlX12 rfl 0 31 (by decide) kw_15_17 rfl (wR_c0 h cI M) rfl dX12_item_11 ?_
  refine lv_iconst (v := 1) zhx zhb dX12_item_14 (by decide) ?_
  refine lv_iadd zhx zhb dX12_item_15 ?_
  refine x_put C zhw inlX12 rfl tyX12_ok nmX12 0 31 (by decide) kw_15_17 rfl rfl rfl (wR_c0 h cI M) (Nat.le_of_ble_eq_true rfl) (wR_s0_31 h cI M _) dX12_item_16 (fun zH zlocs zhw => ?_)
  obtain ⟨zM2, ze9, zhs⟩ := ltM_e zhs
  rw [← ze9] at zhw; clear ze9
  refine lv_iload_n zhx zhb dX12_item_19 rfl (lv_at zhl 0 rfl) ?_
  rcases Decidable.em (zv1 = 98) with zc9 | c1098
  · replace zhs := br_T zhs zc9
    refine lv_tableIn (tgt := 389) (off := 369) zhx zhb dX12_item_20 (by rw [zc9]; decide) (by rw [zc9]; decide) (by rw [zc9]; decide) (by decide) ?_
    refine lv_aload_n zhx zhb dX12_item_389 rfl (lv_at zhl 1 rfl) ?_
    refine lv_iconst (v := 2) zhx zhb dX12_item_390 (by decide) ?_
    obtain ⟨⟨zv3, zM4⟩, zhp, zhs⟩ := bnd_e zhs
    try dsimp only at zhs
    refine x_cVI (As := [.int 2]) (rest := []) C zhw zhl (cRef_figures l D cI h N 2 zM2 zv3 zM4 zhp) (by decide) (by decide) kw_16_10 kw_16_11 kw_16_12 kw_1_5 kw_16_13 md_X12_figures rfl 0 (wR_c0 h cI zM2) rfl rfl rfl rfl (Nat.le_of_ble_eq_true rfl) dX12_item_391 (fun zH zlocs zhw hzv3 => ?_)
    refine lv_if_eq (tgt := 431) zhx zhb dX12_item_394 (by decide) (fun zc9 => ?_) (fun zc9 => ?_)
    · replace zhs := br_T zhs zc9
      refine lv_iconst (v := 0) zhx zhb dX12_item_431 (by decide) ?_
      cases zhs
      exact zhret _ _ _ _ dX12_item_432 (by rfl) zhw
    · replace zhs := br_F zhs zc9
      refine lv_aload_n zhx zhb dX12_item_397 rfl (lv_at zhl 1 rfl) ?_
      refine x_get C zhw inlX12 rfl 0 32 (by decide) kw_9_7 rfl (wR_c0 h cI zM4) rfl dX12_item_398 ?_
      refine lv_iconst (v := 0) zhx zhb dX12_item_401 (by decide) ?_
      obtain ⟨zv5, ze9, zhi, zhs⟩ := rdc_v zhs
      refine x_iald C zhw 29 (wR_c29 h cI zM4) zhi dX12_item_402 ?_
      refine lv_topi (fun zy9 ze8 => ?_)
      obtain rfl : zv5 = zy9 := ze9.trans ze8.symm
      clear ze9 ze8
      refine lv_i2l zhx zhb dX12_item_403 rfl ?_
      refine lv_lconst (v := 1) zhx zhb dX12_item_404 (by decide) ?_
      refine lv_ldc2 zhx zhb zhown (zhtB _ kw_15_23) dX12_item_405 ?_
      obtain ⟨zv6, zhp, zhs⟩ := bnd_e zhs
      refine x_cSI (As := [.long (Int32.toInt64 zv5), .long 1, .long 99]) (rest := []) C zhw zhl (cRef_in l D cI h (Int32.toInt64 zv5) 1 99 zM4 zv6 zhp) (by decide) (by decide) kw_10_14 kw_10_15 kw_1_5 kw_10_16 md_X12_in rfl rfl (Nat.le_of_ble_eq_true rfl) dX12_item_408 (fun zH zlocs zhw hzv6 => ?_)
      refine lv_if_eq (tgt := 431) zhx zhb dX12_item_411 (by decide) (fun zc9 => ?_) (fun zc9 => ?_)
      · replace zhs := br_T zhs zc9
        refine lv_iconst (v := 0) zhx zhb dX12_item_431 (by decide) ?_
        cases zhs
        exact zhret _ _ _ _ dX12_item_432 (by rfl) zhw
      · replace zhs := br_F zhs zc9
        refine lv_aload_n zhx zhb dX12_item_414 rfl (lv_at zhl 1 rfl) ?_
        refine x_get C zhw inlX12 rfl 0 32 (by decide) kw_9_7 rfl (wR_c0 h cI zM4) rfl dX12_item_415 ?_
        refine lv_iconst (v := 1) zhx zhb dX12_item_418 (by decide) ?_
        obtain ⟨zv7, ze9, zhi, zhs⟩ := rdc_v zhs
        refine x_iald C zhw 29 (wR_c29 h cI zM4) zhi dX12_item_419 ?_
        refine lv_topi (fun zy9 ze8 => ?_)
        obtain rfl : zv7 = zy9 := ze9.trans ze8.symm
        clear ze9 ze8
        refine lv_i2l zhx zhb dX12_item_420 rfl ?_
        refine lv_lconst (v := 1) zhx zhb dX12_item_421 (by decide) ?_
        refine lv_ldc2 zhx zhb zhown (zhtB _ kw_16_0) dX12_item_422 ?_
        obtain ⟨zv8, zhp, zhs⟩ := bnd_e zhs
        refine x_cSI (As := [.long (Int32.toInt64 zv7), .long 1, .long 198]) (rest := []) C zhw zhl (cRef_in l D cI h (Int32.toInt64 zv7) 1 198 zM4 zv8 zhp) (by decide) (by decide) kw_10_14 kw_10_15 kw_1_5 kw_10_16 md_X12_in rfl rfl (Nat.le_of_ble_eq_true rfl) dX12_item_425 (fun zH zlocs zhw hzv8 => ?_)
        refine lv_if_ne (tgt := 433) zhx zhb dX12_item_428 (by decide) (fun zc9 => ?_) (fun zc9 => ?_)
        · replace zhs := br_F zhs zc9
          refine lv_aload_n zhx zhb dX12_item_433 rfl (lv_at zhl 1 rfl) ?_
          refine x_get C zhw inlX12 rfl 0 21 (by decide) kw_8_23 rfl (wR_c0 h cI zM4) rfl dX12_item_434 ?_
          refine lv_iconst (v := 3) zhx zhb dX12_item_437 (by decide) ?_
          refine lv_aload_n zhx zhb dX12_item_438 rfl (lv_at zhl 1 rfl) ?_
          refine x_get C zhw inlX12 rfl 0 32 (by decide) kw_9_7 rfl (wR_c0 h cI zM4) rfl dX12_item_439 ?_
          refine lv_iconst (v := 0) zhx zhb dX12_item_442 (by decide) ?_
          obtain ⟨zv9, ze9, zhi, zhs⟩ := rdc_v zhs
          refine x_iald C zhw 29 (wR_c29 h cI zM4) zhi dX12_item_443 ?_
          refine lv_topi (fun zy9 ze8 => ?_)
          obtain rfl : zv9 = zy9 := ze9.trans ze8.symm
          clear ze9 ze8
          obtain ⟨zhi, zhs⟩ := inc_e zhs
          refine x_iast C zhw 21 (wR_c21 h cI zM4) zhi (wR_a21 h cI zM4 _ _) dX12_item_444 (fun zH zlocs zhw => ?_)
          obtain ⟨zM10, ze9, zhs⟩ := ltM_e zhs
          rw [← ze9] at zhw; clear ze9
          refine lv_aload_n zhx zhb dX12_item_445 rfl (lv_at zhl 1 rfl) ?_
          refine x_get C zhw inlX12 rfl 0 21 (by decide) kw_8_23 rfl (wR_c0 h cI zM10) rfl dX12_item_446 ?_
          refine lv_iconst (v := 4) zhx zhb dX12_item_449 (by decide) ?_
          refine lv_aload_n zhx zhb dX12_item_450 rfl (lv_at zhl 1 rfl) ?_
          refine x_get C zhw inlX12 rfl 0 32 (by decide) kw_9_7 rfl (wR_c0 h cI zM10) rfl dX12_item_451 ?_
          refine lv_iconst (v := 1) zhx zhb dX12_item_454 (by decide) ?_
          obtain ⟨zv11, ze9, zhi, zhs⟩ := rdc_v zhs
          refine x_iald C zhw 29 (wR_c29 h cI zM10) zhi dX12_item_455 ?_
          refine lv_topi (fun zy9 ze8 => ?_)
          obtain rfl : zv11 = zy9 := ze9.trans ze8.symm
          clear ze9 ze8
          obtain ⟨zhi, zhs⟩ := inc_e zhs
          refine x_iast C zhw 21 (wR_c21 h cI zM10) zhi (wR_a21 h cI zM10 _ _) dX12_item_456 (fun zH zlocs zhw => ?_)
          obtain ⟨zM12, ze9, zhs⟩ := ltM_e zhs
          rw [← ze9] at zhw; clear ze9
          refine lv_iconst (v := 1) zhx zhb dX12_item_457 (by decide) ?_
          cases zhs
          exact zhret _ _ _ _ dX12_item_458 (by rfl) zhw
        · replace zhs := br_T zhs zc9
          refine lv_iconst (v := 0) zhx zhb dX12_item_431 (by decide) ?_
          cases zhs
          exact zhret _ _ _ _ dX12_item_432 (by rfl) zhw
  replace zhs := br_F zhs c1098
  rcases Decidable.em (zv1 = 99) with zc9 | c1099
  · replace zhs := br_T zhs zc9
    refine lv_tableIn (tgt := 108) (off := 88) zhx zhb dX12_item_20 (by rw [zc9]; decide) (by rw [zc9]; decide) (by rw [zc9]; decide) (by decide) ?_
    refine lv_aload_n zhx zhb dX12_item_108 rfl (lv_at zhl 1 rfl) ?_
    obtain ⟨⟨zv13, zM14⟩, zhp, zhs⟩ := bnd_e zhs
    try dsimp only at zhs
    refine x_cVI (As := []) (rest := []) C zhw zhl (cRef_cellItem l D cI h N zM2 zv13 zM14 zhp) (by decide) (by decide) kw_16_5 kw_16_6 kw_16_7 kw_1_5 kw_16_8 md_X12_cellItem rfl 0 (wR_c0 h cI zM2) rfl rfl rfl rfl (Nat.le_of_ble_eq_true rfl) dX12_item_109 (fun zH zlocs zhw hzv13 => ?_)
    cases zhs
    exact zhret _ _ _ _ dX12_item_112 hzv13 zhw
  replace zhs := br_F zhs c1099
  rcases Decidable.em (zv1 = 100) with zc9 | c1100
  · replace zhs := br_T zhs zc9
    refine lv_tableIn (tgt := 158) (off := 138) zhx zhb dX12_item_20 (by rw [zc9]; decide) (by rw [zc9]; decide) (by rw [zc9]; decide) (by decide) ?_
    refine lv_aload_n zhx zhb dX12_item_158 rfl (lv_at zhl 1 rfl) ?_
    refine lv_iconst (v := 1) zhx zhb dX12_item_159 (by decide) ?_
    obtain ⟨⟨zv15, zM16⟩, zhp, zhs⟩ := bnd_e zhs
    try dsimp only at zhs
    refine x_cVI (As := [.int 1]) (rest := []) C zhw zhl (cRef_figures l D cI h N 1 zM2 zv15 zM16 zhp) (by decide) (by decide) kw_16_10 kw_16_11 kw_16_12 kw_1_5 kw_16_13 md_X12_figures rfl 0 (wR_c0 h cI zM2) rfl rfl rfl rfl (Nat.le_of_ble_eq_true rfl) dX12_item_160 (fun zH zlocs zhw hzv15 => ?_)
    refine lv_if_eq (tgt := 193) zhx zhb dX12_item_163 (by decide) (fun zc9 => ?_) (fun zc9 => ?_)
    · replace zhs := br_T zhs zc9
      refine lv_iconst (v := 0) zhx zhb dX12_item_193 (by decide) ?_
      cases zhs
      exact zhret _ _ _ _ dX12_item_194 (by rfl) zhw
    · replace zhs := br_F zhs zc9
      refine lv_aload_n zhx zhb dX12_item_166 rfl (lv_at zhl 1 rfl) ?_
      refine x_get C zhw inlX12 rfl 0 14 (by decide) kw_8_16 rfl (wR_c0 h cI zM16) rfl dX12_item_167 ?_
      refine lv_iconst (v := 1) zhx zhb dX12_item_170 (by decide) ?_
      obtain ⟨zv17, ze9, zhi, zhs⟩ := rdc_v zhs
      refine x_iald C zhw 14 (wR_c14 h cI zM16) zhi dX12_item_171 ?_
      refine lv_topi (fun zy9 ze8 => ?_)
      obtain rfl : zv17 = zy9 := ze9.trans ze8.symm
      clear ze9 ze8
      refine lv_iconst (v := 5) zhx zhb dX12_item_172 (by decide) ?_
      refine lv_icmp_eq (tgt := 193) zhx zhb dX12_item_173 (by decide) (fun zc9 => ?_) (fun zc9 => ?_)
      · replace zhs := br_T zhs zc9
        refine lv_iconst (v := 0) zhx zhb dX12_item_193 (by decide) ?_
        cases zhs
        exact zhret _ _ _ _ dX12_item_194 (by rfl) zhw
      · replace zhs := br_F zhs zc9
        refine lv_aload_n zhx zhb dX12_item_176 rfl (lv_at zhl 1 rfl) ?_
        refine x_get C zhw inlX12 rfl 0 32 (by decide) kw_9_7 rfl (wR_c0 h cI zM16) rfl dX12_item_177 ?_
        refine lv_iconst (v := 0) zhx zhb dX12_item_180 (by decide) ?_
        obtain ⟨zv18, ze9, zhi, zhs⟩ := rdc_v zhs
        refine x_iald C zhw 29 (wR_c29 h cI zM16) zhi dX12_item_181 ?_
        refine lv_topi (fun zy9 ze8 => ?_)
        obtain rfl : zv18 = zy9 := ze9.trans ze8.symm
        clear ze9 ze8
        refine lv_i2l zhx zhb dX12_item_182 rfl ?_
        refine lv_lconst (v := 1) zhx zhb dX12_item_183 (by decide) ?_
        refine lv_ldc2 zhx zhb zhown (zhtB _ kw_15_22) dX12_item_184 ?_
        obtain ⟨zv19, zhp, zhs⟩ := bnd_e zhs
        refine x_cSI (As := [.long (Int32.toInt64 zv18), .long 1, .long 15]) (rest := []) C zhw zhl (cRef_in l D cI h (Int32.toInt64 zv18) 1 15 zM16 zv19 zhp) (by decide) (by decide) kw_10_14 kw_10_15 kw_1_5 kw_10_16 md_X12_in rfl rfl (Nat.le_of_ble_eq_true rfl) dX12_item_187 (fun zH zlocs zhw hzv19 => ?_)
        refine lv_if_ne (tgt := 195) zhx zhb dX12_item_190 (by decide) (fun zc9 => ?_) (fun zc9 => ?_)
        · replace zhs := br_F zhs zc9
          refine lv_aload_n zhx zhb dX12_item_195 rfl (lv_at zhl 1 rfl) ?_
          refine x_get C zhw inlX12 rfl 0 15 (by decide) kw_8_17 rfl (wR_c0 h cI zM16) rfl dX12_item_196 ?_
          refine lv_iconst (v := 5) zhx zhb dX12_item_199 (by decide) ?_
          refine lv_aload_n zhx zhb dX12_item_200 rfl (lv_at zhl 1 rfl) ?_
          refine x_get C zhw inlX12 rfl 0 14 (by decide) kw_8_16 rfl (wR_c0 h cI zM16) rfl dX12_item_201 ?_
          refine lv_iconst (v := 1) zhx zhb dX12_item_204 (by decide) ?_
          obtain ⟨zv20, ze9, zhi, zhs⟩ := rdc_v zhs
          refine x_iald C zhw 14 (wR_c14 h cI zM16) zhi dX12_item_205 ?_
          refine lv_topi (fun zy9 ze8 => ?_)
          obtain rfl : zv20 = zy9 := ze9.trans ze8.symm
          clear ze9 ze8
          refine lv_iadd zhx zhb dX12_item_206 ?_
          refine lv_aload_n zhx zhb dX12_item_207 rfl (lv_at zhl 1 rfl) ?_
          refine x_get C zhw inlX12 rfl 0 32 (by decide) kw_9_7 rfl (wR_c0 h cI zM16) rfl dX12_item_208 ?_
          refine lv_iconst (v := 0) zhx zhb dX12_item_211 (by decide) ?_
          obtain ⟨zv21, ze9, zhi, zhs⟩ := rdc_v zhs
          refine x_iald C zhw 29 (wR_c29 h cI zM16) zhi dX12_item_212 ?_
          refine lv_topi (fun zy9 ze8 => ?_)
          obtain rfl : zv21 = zy9 := ze9.trans ze8.symm
          clear ze9 ze8
          obtain ⟨zhi, zhs⟩ := inc_e zhs
          refine x_iast C zhw 15 (wR_c15 h cI zM16) zhi (wR_a15 h cI zM16 _ _) dX12_item_213 (fun zH zlocs zhw => ?_)
          obtain ⟨zM22, ze9, zhs⟩ := ltM_e zhs
          rw [← ze9] at zhw; clear ze9
          refine lv_aload_n zhx zhb dX12_item_214 rfl (lv_at zhl 1 rfl) ?_
          refine x_get C zhw inlX12 rfl 0 14 (by decide) kw_8_16 rfl (wR_c0 h cI zM22) rfl dX12_item_215 ?_
          refine lv_iconst (v := 1) zhx zhb dX12_item_218 (by decide) ?_
          refine lv_dup2_11 zhx zhb dX12_item_219 rfl rfl ?_
          obtain ⟨zv23, ze9, zhi, zhs⟩ := rdc_v zhs
          refine x_iald C zhw 14 (wR_c14 h cI zM22) zhi dX12_item_220 ?_
          refine lv_topi (fun zy9 ze8 => ?_)
          obtain rfl : zv23 = zy9 := ze9.trans ze8.symm
          clear ze9 ze8
          refine lv_iconst (v := 1) zhx zhb dX12_item_221 (by decide) ?_
          refine lv_iadd zhx zhb dX12_item_222 ?_
          obtain ⟨zhi, zhs⟩ := inc_e zhs
          refine x_iast C zhw 14 (wR_c14 h cI zM22) zhi (wR_a14 h cI zM22 _ _) dX12_item_223 (fun zH zlocs zhw => ?_)
          obtain ⟨zM24, ze9, zhs⟩ := ltM_e zhs
          rw [← ze9] at zhw; clear ze9
          refine lv_iconst (v := 1) zhx zhb dX12_item_224 (by decide) ?_
          cases zhs
          exact zhret _ _ _ _ dX12_item_225 (by rfl) zhw
        · replace zhs := br_T zhs zc9
          refine lv_iconst (v := 0) zhx zhb dX12_item_193 (by decide) ?_
          cases zhs
          exact zhret _ _ _ _ dX12_item_194 (by rfl) zhw
  replace zhs := br_F zhs c1100
  rcases Decidable.em (zv1 = 101) with zc9 | c1101
  · replace zhs := br_T zhs zc9
    refine lv_tableIn (tgt := 226) (off := 206) zhx zhb dX12_item_20 (by rw [zc9]; decide) (by rw [zc9]; decide) (by rw [zc9]; decide) (by decide) ?_
    refine lv_aload_n zhx zhb dX12_item_226 rfl (lv_at zhl 1 rfl) ?_
    refine lv_iconst (v := 1) zhx zhb dX12_item_227 (by decide) ?_
    obtain ⟨⟨zv25, zM26⟩, zhp, zhs⟩ := bnd_e zhs
    try dsimp only at zhs
    refine x_cVI (As := [.int 1]) (rest := []) C zhw zhl (cRef_figures l D cI h N 1 zM2 zv25 zM26 zhp) (by decide) (by decide) kw_16_10 kw_16_11 kw_16_12 kw_1_5 kw_16_13 md_X12_figures rfl 0 (wR_c0 h cI zM2) rfl rfl rfl rfl (Nat.le_of_ble_eq_true rfl) dX12_item_228 (fun zH zlocs zhw hzv25 => ?_)
    refine lv_if_eq (tgt := 255) zhx zhb dX12_item_231 (by decide) (fun zc9 => ?_) (fun zc9 => ?_)
    · replace zhs := br_T zhs zc9
      refine lv_iconst (v := 0) zhx zhb dX12_item_255 (by decide) ?_
      cases zhs
      exact zhret _ _ _ _ dX12_item_256 (by rfl) zhw
    · replace zhs := br_F zhs zc9
      refine lv_aload_n zhx zhb dX12_item_234 rfl (lv_at zhl 1 rfl) ?_
      refine x_get C zhw inlX12 rfl 0 16 (by decide) kw_8_18 rfl (wR_c0 h cI zM26) rfl dX12_item_235 ?_
      refine lv_iconst (v := 1) zhx zhb dX12_item_238 (by decide) ?_
      obtain ⟨zv27, ze9, zhi, zhs⟩ := rdc_v zhs
      refine x_iald C zhw 16 (wR_c16 h cI zM26) zhi dX12_item_239 ?_
      refine lv_topi (fun zy9 ze8 => ?_)
      obtain rfl : zv27 = zy9 := ze9.trans ze8.symm
      clear ze9 ze8
      refine lv_iconst (v := 4) zhx zhb dX12_item_240 (by decide) ?_
      refine lv_icmp_eq (tgt := 255) zhx zhb dX12_item_241 (by decide) (fun zc9 => ?_) (fun zc9 => ?_)
      · replace zhs := br_T zhs zc9
        refine lv_iconst (v := 0) zhx zhb dX12_item_255 (by decide) ?_
        cases zhs
        exact zhret _ _ _ _ dX12_item_256 (by rfl) zhw
      · replace zhs := br_F zhs zc9
        refine lv_aload_n zhx zhb dX12_item_244 rfl (lv_at zhl 1 rfl) ?_
        refine x_get C zhw inlX12 rfl 0 32 (by decide) kw_9_7 rfl (wR_c0 h cI zM26) rfl dX12_item_245 ?_
        refine lv_iconst (v := 0) zhx zhb dX12_item_248 (by decide) ?_
        obtain ⟨zv28, ze9, zhi, zhs⟩ := rdc_v zhs
        refine x_iald C zhw 29 (wR_c29 h cI zM26) zhi dX12_item_249 ?_
        refine lv_topi (fun zy9 ze8 => ?_)
        obtain rfl : zv28 = zy9 := ze9.trans ze8.symm
        clear ze9 ze8
        refine lv_bipush (v := 15) zhx zhb dX12_item_250 (by decide) ?_
        refine lv_icmp_le (tgt := 257) zhx zhb dX12_item_252 (by decide) (fun zc9 => ?_) (fun zc9 => ?_)
        · replace zhs := br_T zhs zc9
          refine lv_aload_n zhx zhb dX12_item_257 rfl (lv_at zhl 1 rfl) ?_
          refine x_get C zhw inlX12 rfl 0 17 (by decide) kw_8_19 rfl (wR_c0 h cI zM26) rfl dX12_item_258 ?_
          refine lv_iconst (v := 4) zhx zhb dX12_item_261 (by decide) ?_
          refine lv_aload_n zhx zhb dX12_item_262 rfl (lv_at zhl 1 rfl) ?_
          refine x_get C zhw inlX12 rfl 0 16 (by decide) kw_8_18 rfl (wR_c0 h cI zM26) rfl dX12_item_263 ?_
          refine lv_iconst (v := 1) zhx zhb dX12_item_266 (by decide) ?_
          obtain ⟨zv29, ze9, zhi, zhs⟩ := rdc_v zhs
          refine x_iald C zhw 16 (wR_c16 h cI zM26) zhi dX12_item_267 ?_
          refine lv_topi (fun zy9 ze8 => ?_)
          obtain rfl : zv29 = zy9 := ze9.trans ze8.symm
          clear ze9 ze8
          refine lv_iadd zhx zhb dX12_item_268 ?_
          refine lv_aload_n zhx zhb dX12_item_269 rfl (lv_at zhl 1 rfl) ?_
          refine x_get C zhw inlX12 rfl 0 32 (by decide) kw_9_7 rfl (wR_c0 h cI zM26) rfl dX12_item_270 ?_
          refine lv_iconst (v := 0) zhx zhb dX12_item_273 (by decide) ?_
          obtain ⟨zv30, ze9, zhi, zhs⟩ := rdc_v zhs
          refine x_iald C zhw 29 (wR_c29 h cI zM26) zhi dX12_item_274 ?_
          refine lv_topi (fun zy9 ze8 => ?_)
          obtain rfl : zv30 = zy9 := ze9.trans ze8.symm
          clear ze9 ze8
          obtain ⟨zhi, zhs⟩ := inc_e zhs
          refine x_iast C zhw 17 (wR_c17 h cI zM26) zhi (wR_a17 h cI zM26 _ _) dX12_item_275 (fun zH zlocs zhw => ?_)
          obtain ⟨zM31, ze9, zhs⟩ := ltM_e zhs
          rw [← ze9] at zhw; clear ze9
          refine lv_aload_n zhx zhb dX12_item_276 rfl (lv_at zhl 1 rfl) ?_
          refine x_get C zhw inlX12 rfl 0 16 (by decide) kw_8_18 rfl (wR_c0 h cI zM31) rfl dX12_item_277 ?_
          refine lv_iconst (v := 1) zhx zhb dX12_item_280 (by decide) ?_
          refine lv_dup2_11 zhx zhb dX12_item_281 rfl rfl ?_
          obtain ⟨zv32, ze9, zhi, zhs⟩ := rdc_v zhs
          refine x_iald C zhw 16 (wR_c16 h cI zM31) zhi dX12_item_282 ?_
          refine lv_topi (fun zy9 ze8 => ?_)
          obtain rfl : zv32 = zy9 := ze9.trans ze8.symm
          clear ze9 ze8
          refine lv_iconst (v := 1) zhx zhb dX12_item_283 (by decide) ?_
          refine lv_iadd zhx zhb dX12_item_284 ?_
          obtain ⟨zhi, zhs⟩ := inc_e zhs
          refine x_iast C zhw 16 (wR_c16 h cI zM31) zhi (wR_a16 h cI zM31 _ _) dX12_item_285 (fun zH zlocs zhw => ?_)
          obtain ⟨zM33, ze9, zhs⟩ := ltM_e zhs
          rw [← ze9] at zhw; clear ze9
          refine lv_iconst (v := 1) zhx zhb dX12_item_286 (by decide) ?_
          cases zhs
          exact zhret _ _ _ _ dX12_item_287 (by rfl) zhw
        · replace zhs := br_F zhs zc9
          refine lv_iconst (v := 0) zhx zhb dX12_item_255 (by decide) ?_
          cases zhs
          exact zhret _ _ _ _ dX12_item_256 (by rfl) zhw
  replace zhs := br_F zhs c1101
  rcases Decidable.em (zv1 = 102) with zc9 | c1102
  · replace zhs := br_T zhs zc9
    refine lv_tableIn (tgt := 113) (off := 93) zhx zhb dX12_item_20 (by rw [zc9]; decide) (by rw [zc9]; decide) (by rw [zc9]; decide) (by decide) ?_
    refine lv_aload_n zhx zhb dX12_item_113 rfl (lv_at zhl 1 rfl) ?_
    obtain ⟨⟨zv34, zM35⟩, zhp, zhs⟩ := bnd_e zhs
    try dsimp only at zhs
    refine x_cVI (As := []) (rest := []) C zhw zhl (cRef_foodItem l D cI h N zM2 zv34 zM35 zhp) (by decide) (by decide) kw_16_17 kw_16_18 kw_16_19 kw_1_5 kw_16_20 md_X12_foodItem rfl 0 (wR_c0 h cI zM2) rfl rfl rfl rfl (Nat.le_of_ble_eq_true rfl) dX12_item_114 (fun zH zlocs zhw hzv34 => ?_)
    cases zhs
    exact zhret _ _ _ _ dX12_item_117 hzv34 zhw
  replace zhs := br_F zhs c1102
  rcases Decidable.em (zv1 = 103) with zc9 | c1103
  · replace zhs := br_T zhs zc9
    refine lv_tableIn (tgt := 288) (off := 268) zhx zhb dX12_item_20 (by rw [zc9]; decide) (by rw [zc9]; decide) (by rw [zc9]; decide) (by decide) ?_
    refine lv_aload_n zhx zhb dX12_item_288 rfl (lv_at zhl 1 rfl) ?_
    refine lv_iconst (v := 2) zhx zhb dX12_item_289 (by decide) ?_
    obtain ⟨⟨zv36, zM37⟩, zhp, zhs⟩ := bnd_e zhs
    try dsimp only at zhs
    refine x_cVI (As := [.int 2]) (rest := []) C zhw zhl (cRef_figures l D cI h N 2 zM2 zv36 zM37 zhp) (by decide) (by decide) kw_16_10 kw_16_11 kw_16_12 kw_1_5 kw_16_13 md_X12_figures rfl 0 (wR_c0 h cI zM2) rfl rfl rfl rfl (Nat.le_of_ble_eq_true rfl) dX12_item_290 (fun zH zlocs zhw hzv36 => ?_)
    refine lv_if_eq (tgt := 335) zhx zhb dX12_item_293 (by decide) (fun zc9 => ?_) (fun zc9 => ?_)
    · replace zhs := br_T zhs zc9
      refine lv_iconst (v := 0) zhx zhb dX12_item_335 (by decide) ?_
      cases zhs
      exact zhret _ _ _ _ dX12_item_336 (by rfl) zhw
    · replace zhs := br_F zhs zc9
      refine lv_aload_n zhx zhb dX12_item_296 rfl (lv_at zhl 1 rfl) ?_
      refine x_get C zhw inlX12 rfl 0 18 (by decide) kw_8_20 rfl (wR_c0 h cI zM37) rfl dX12_item_297 ?_
      refine lv_iconst (v := 1) zhx zhb dX12_item_300 (by decide) ?_
      obtain ⟨zv38, ze9, zhi, zhs⟩ := rdc_v zhs
      refine x_iald C zhw 18 (wR_c18 h cI zM37) zhi dX12_item_301 ?_
      refine lv_topi (fun zy9 ze8 => ?_)
      obtain rfl : zv38 = zy9 := ze9.trans ze8.symm
      clear ze9 ze8
      refine lv_bipush (v := 6) zhx zhb dX12_item_302 (by decide) ?_
      refine lv_icmp_eq (tgt := 335) zhx zhb dX12_item_304 (by decide) (fun zc9 => ?_) (fun zc9 => ?_)
      · replace zhs := br_T zhs zc9
        refine lv_iconst (v := 0) zhx zhb dX12_item_335 (by decide) ?_
        cases zhs
        exact zhret _ _ _ _ dX12_item_336 (by rfl) zhw
      · replace zhs := br_F zhs zc9
        refine lv_aload_n zhx zhb dX12_item_307 rfl (lv_at zhl 1 rfl) ?_
        refine x_get C zhw inlX12 rfl 0 32 (by decide) kw_9_7 rfl (wR_c0 h cI zM37) rfl dX12_item_308 ?_
        refine lv_iconst (v := 0) zhx zhb dX12_item_311 (by decide) ?_
        obtain ⟨zv39, ze9, zhi, zhs⟩ := rdc_v zhs
        refine x_iald C zhw 29 (wR_c29 h cI zM37) zhi dX12_item_312 ?_
        refine lv_topi (fun zy9 ze8 => ?_)
        obtain rfl : zv39 = zy9 := ze9.trans ze8.symm
        clear ze9 ze8
        refine lv_bipush (v := 9) zhx zhb dX12_item_313 (by decide) ?_
        refine lv_icmp_gt (tgt := 335) zhx zhb dX12_item_315 (by decide) (fun zc9 => ?_) (fun zc9 => ?_)
        · replace zhs := br_T zhs zc9
          refine lv_iconst (v := 0) zhx zhb dX12_item_335 (by decide) ?_
          cases zhs
          exact zhret _ _ _ _ dX12_item_336 (by rfl) zhw
        · replace zhs := br_F zhs zc9
          refine lv_aload_n zhx zhb dX12_item_318 rfl (lv_at zhl 1 rfl) ?_
          refine x_get C zhw inlX12 rfl 0 32 (by decide) kw_9_7 rfl (wR_c0 h cI zM37) rfl dX12_item_319 ?_
          refine lv_iconst (v := 1) zhx zhb dX12_item_322 (by decide) ?_
          obtain ⟨zv40, ze9, zhi, zhs⟩ := rdc_v zhs
          refine x_iald C zhw 29 (wR_c29 h cI zM37) zhi dX12_item_323 ?_
          refine lv_topi (fun zy9 ze8 => ?_)
          obtain rfl : zv40 = zy9 := ze9.trans ze8.symm
          clear ze9 ze8
          refine lv_i2l zhx zhb dX12_item_324 rfl ?_
          refine lv_lconst (v := 1) zhx zhb dX12_item_325 (by decide) ?_
          refine lv_ldc2 zhx zhb zhown (zhtB _ kw_15_23) dX12_item_326 ?_
          obtain ⟨zv41, zhp, zhs⟩ := bnd_e zhs
          refine x_cSI (As := [.long (Int32.toInt64 zv40), .long 1, .long 99]) (rest := []) C zhw zhl (cRef_in l D cI h (Int32.toInt64 zv40) 1 99 zM37 zv41 zhp) (by decide) (by decide) kw_10_14 kw_10_15 kw_1_5 kw_10_16 md_X12_in rfl rfl (Nat.le_of_ble_eq_true rfl) dX12_item_329 (fun zH zlocs zhw hzv41 => ?_)
          refine lv_if_ne (tgt := 337) zhx zhb dX12_item_332 (by decide) (fun zc9 => ?_) (fun zc9 => ?_)
          · replace zhs := br_F zhs zc9
            refine lv_aload_n zhx zhb dX12_item_337 rfl (lv_at zhl 1 rfl) ?_
            refine x_get C zhw inlX12 rfl 0 19 (by decide) kw_8_21 rfl (wR_c0 h cI zM37) rfl dX12_item_338 ?_
            refine lv_bipush (v := 6) zhx zhb dX12_item_341 (by decide) ?_
            refine lv_aload_n zhx zhb dX12_item_343 rfl (lv_at zhl 1 rfl) ?_
            refine x_get C zhw inlX12 rfl 0 18 (by decide) kw_8_20 rfl (wR_c0 h cI zM37) rfl dX12_item_344 ?_
            refine lv_iconst (v := 1) zhx zhb dX12_item_347 (by decide) ?_
            obtain ⟨zv42, ze9, zhi, zhs⟩ := rdc_v zhs
            refine x_iald C zhw 18 (wR_c18 h cI zM37) zhi dX12_item_348 ?_
            refine lv_topi (fun zy9 ze8 => ?_)
            obtain rfl : zv42 = zy9 := ze9.trans ze8.symm
            clear ze9 ze8
            refine lv_iadd zhx zhb dX12_item_349 ?_
            refine lv_aload_n zhx zhb dX12_item_350 rfl (lv_at zhl 1 rfl) ?_
            refine x_get C zhw inlX12 rfl 0 32 (by decide) kw_9_7 rfl (wR_c0 h cI zM37) rfl dX12_item_351 ?_
            refine lv_iconst (v := 0) zhx zhb dX12_item_354 (by decide) ?_
            obtain ⟨zv43, ze9, zhi, zhs⟩ := rdc_v zhs
            refine x_iald C zhw 29 (wR_c29 h cI zM37) zhi dX12_item_355 ?_
            refine lv_topi (fun zy9 ze8 => ?_)
            obtain rfl : zv43 = zy9 := ze9.trans ze8.symm
            clear ze9 ze8
            obtain ⟨zhi, zhs⟩ := inc_e zhs
            refine x_iast C zhw 19 (wR_c19 h cI zM37) zhi (wR_a19 h cI zM37 _ _) dX12_item_356 (fun zH zlocs zhw => ?_)
            obtain ⟨zM44, ze9, zhs⟩ := ltM_e zhs
            rw [← ze9] at zhw; clear ze9
            refine lv_aload_n zhx zhb dX12_item_357 rfl (lv_at zhl 1 rfl) ?_
            refine x_get C zhw inlX12 rfl 0 20 (by decide) kw_8_22 rfl (wR_c0 h cI zM44) rfl dX12_item_358 ?_
            refine lv_bipush (v := 6) zhx zhb dX12_item_361 (by decide) ?_
            refine lv_aload_n zhx zhb dX12_item_363 rfl (lv_at zhl 1 rfl) ?_
            refine x_get C zhw inlX12 rfl 0 18 (by decide) kw_8_20 rfl (wR_c0 h cI zM44) rfl dX12_item_364 ?_
            refine lv_iconst (v := 1) zhx zhb dX12_item_367 (by decide) ?_
            obtain ⟨zv45, ze9, zhi, zhs⟩ := rdc_v zhs
            refine x_iald C zhw 18 (wR_c18 h cI zM44) zhi dX12_item_368 ?_
            refine lv_topi (fun zy9 ze8 => ?_)
            obtain rfl : zv45 = zy9 := ze9.trans ze8.symm
            clear ze9 ze8
            refine lv_iadd zhx zhb dX12_item_369 ?_
            refine lv_aload_n zhx zhb dX12_item_370 rfl (lv_at zhl 1 rfl) ?_
            refine x_get C zhw inlX12 rfl 0 32 (by decide) kw_9_7 rfl (wR_c0 h cI zM44) rfl dX12_item_371 ?_
            refine lv_iconst (v := 1) zhx zhb dX12_item_374 (by decide) ?_
            obtain ⟨zv46, ze9, zhi, zhs⟩ := rdc_v zhs
            refine x_iald C zhw 29 (wR_c29 h cI zM44) zhi dX12_item_375 ?_
            refine lv_topi (fun zy9 ze8 => ?_)
            obtain rfl : zv46 = zy9 := ze9.trans ze8.symm
            clear ze9 ze8
            obtain ⟨zhi, zhs⟩ := inc_e zhs
            refine x_iast C zhw 20 (wR_c20 h cI zM44) zhi (wR_a20 h cI zM44 _ _) dX12_item_376 (fun zH zlocs zhw => ?_)
            obtain ⟨zM47, ze9, zhs⟩ := ltM_e zhs
            rw [← ze9] at zhw; clear ze9
            refine lv_aload_n zhx zhb dX12_item_377 rfl (lv_at zhl 1 rfl) ?_
            refine x_get C zhw inlX12 rfl 0 18 (by decide) kw_8_20 rfl (wR_c0 h cI zM47) rfl dX12_item_378 ?_
            refine lv_iconst (v := 1) zhx zhb dX12_item_381 (by decide) ?_
            refine lv_dup2_11 zhx zhb dX12_item_382 rfl rfl ?_
            obtain ⟨zv48, ze9, zhi, zhs⟩ := rdc_v zhs
            refine x_iald C zhw 18 (wR_c18 h cI zM47) zhi dX12_item_383 ?_
            refine lv_topi (fun zy9 ze8 => ?_)
            obtain rfl : zv48 = zy9 := ze9.trans ze8.symm
            clear ze9 ze8
            refine lv_iconst (v := 1) zhx zhb dX12_item_384 (by decide) ?_
            refine lv_iadd zhx zhb dX12_item_385 ?_
            obtain ⟨zhi, zhs⟩ := inc_e zhs
            refine x_iast C zhw 18 (wR_c18 h cI zM47) zhi (wR_a18 h cI zM47 _ _) dX12_item_386 (fun zH zlocs zhw => ?_)
            obtain ⟨zM49, ze9, zhs⟩ := ltM_e zhs
            rw [← ze9] at zhw; clear ze9
            refine lv_iconst (v := 1) zhx zhb dX12_item_387 (by decide) ?_
            cases zhs
            exact zhret _ _ _ _ dX12_item_388 (by rfl) zhw
          · replace zhs := br_T zhs zc9
            refine lv_iconst (v := 0) zhx zhb dX12_item_335 (by decide) ?_
            cases zhs
            exact zhret _ _ _ _ dX12_item_336 (by rfl) zhw
  replace zhs := br_F zhs c1103
  rcases Decidable.em (zv1 = 111) with zc9 | c1111
  · replace zhs := br_T zhs zc9
    refine lv_tableIn (tgt := 118) (off := 98) zhx zhb dX12_item_20 (by rw [zc9]; decide) (by rw [zc9]; decide) (by rw [zc9]; decide) (by decide) ?_
    refine lv_aload_n zhx zhb dX12_item_118 rfl (lv_at zhl 1 rfl) ?_
    refine lv_iconst (v := 1) zhx zhb dX12_item_119 (by decide) ?_
    obtain ⟨⟨zv50, zM51⟩, zhp, zhs⟩ := bnd_e zhs
    try dsimp only at zhs
    refine x_cVI (As := [.int 1]) (rest := []) C zhw zhl (cRef_figures l D cI h N 1 zM2 zv50 zM51 zhp) (by decide) (by decide) kw_16_10 kw_16_11 kw_16_12 kw_1_5 kw_16_13 md_X12_figures rfl 0 (wR_c0 h cI zM2) rfl rfl rfl rfl (Nat.le_of_ble_eq_true rfl) dX12_item_120 (fun zH zlocs zhw hzv50 => ?_)
    refine lv_if_eq (tgt := 137) zhx zhb dX12_item_123 (by decide) (fun zc9 => ?_) (fun zc9 => ?_)
    · replace zhs := br_T zhs zc9
      refine lv_iconst (v := 0) zhx zhb dX12_item_137 (by decide) ?_
      cases zhs
      exact zhret _ _ _ _ dX12_item_138 (by rfl) zhw
    · replace zhs := br_F zhs zc9
      refine lv_aload_n zhx zhb dX12_item_126 rfl (lv_at zhl 1 rfl) ?_
      refine x_get C zhw inlX12 rfl 0 32 (by decide) kw_9_7 rfl (wR_c0 h cI zM51) rfl dX12_item_127 ?_
      refine lv_iconst (v := 0) zhx zhb dX12_item_130 (by decide) ?_
      obtain ⟨zv52, ze9, zhi, zhs⟩ := rdc_v zhs
      refine x_iald C zhw 29 (wR_c29 h cI zM51) zhi dX12_item_131 ?_
      refine lv_topi (fun zy9 ze8 => ?_)
      obtain rfl : zv52 = zy9 := ze9.trans ze8.symm
      clear ze9 ze8
      refine lv_bipush (v := 23) zhx zhb dX12_item_132 (by decide) ?_
      refine lv_icmp_le (tgt := 139) zhx zhb dX12_item_134 (by decide) (fun zc9 => ?_) (fun zc9 => ?_)
      · replace zhs := br_T zhs zc9
        refine lv_aload_n zhx zhb dX12_item_139 rfl (lv_at zhl 1 rfl) ?_
        refine x_get C zhw inlX12 rfl 0 6 (by decide) kw_8_8 rfl (wR_c0 h cI zM51) rfl dX12_item_140 ?_
        refine lv_iconst (v := 1) zhx zhb dX12_item_143 (by decide) ?_
        refine lv_dup2_11 zhx zhb dX12_item_144 rfl rfl ?_
        obtain ⟨zv53, ze9, zhi, zhs⟩ := rdc_v zhs
        refine x_iald C zhw 6 (wR_c6 h cI zM51) zhi dX12_item_145 ?_
        refine lv_topi (fun zy9 ze8 => ?_)
        obtain rfl : zv53 = zy9 := ze9.trans ze8.symm
        clear ze9 ze8
        refine lv_iconst (v := 1) zhx zhb dX12_item_146 (by decide) ?_
        refine lv_aload_n zhx zhb dX12_item_147 rfl (lv_at zhl 1 rfl) ?_
        refine x_get C zhw inlX12 rfl 0 32 (by decide) kw_9_7 rfl (wR_c0 h cI zM51) rfl dX12_item_148 ?_
        refine lv_iconst (v := 0) zhx zhb dX12_item_151 (by decide) ?_
        obtain ⟨zv54, ze9, zhi, zhs⟩ := rdc_v zhs
        refine x_iald C zhw 29 (wR_c29 h cI zM51) zhi dX12_item_152 ?_
        refine lv_topi (fun zy9 ze8 => ?_)
        obtain rfl : zv54 = zy9 := ze9.trans ze8.symm
        clear ze9 ze8
        refine lv_ishl zhx zhb dX12_item_153 ?_
        refine lv_ior zhx zhb dX12_item_154 ?_
        obtain ⟨zhi, zhs⟩ := inc_e zhs
        refine x_iast C zhw 6 (wR_c6 h cI zM51) zhi (wR_a6 h cI zM51 _ _) dX12_item_155 (fun zH zlocs zhw => ?_)
        obtain ⟨zM55, ze9, zhs⟩ := ltM_e zhs
        rw [← ze9] at zhw; clear ze9
        refine lv_iconst (v := 1) zhx zhb dX12_item_156 (by decide) ?_
        cases zhs
        exact zhret _ _ _ _ dX12_item_157 (by rfl) zhw
      · replace zhs := br_F zhs zc9
        refine lv_iconst (v := 0) zhx zhb dX12_item_137 (by decide) ?_
        cases zhs
        exact zhret _ _ _ _ dX12_item_138 (by rfl) zhw
  replace zhs := br_F zhs c1111
  rcases Decidable.em (zv1 = 115) with zc9 | c1115
  · replace zhs := br_T zhs zc9
    refine lv_tableIn (tgt := 459) (off := 439) zhx zhb dX12_item_20 (by rw [zc9]; decide) (by rw [zc9]; decide) (by rw [zc9]; decide) (by decide) ?_
    refine lv_aload_n zhx zhb dX12_item_459 rfl (lv_at zhl 1 rfl) ?_
    refine lv_iconst (v := 1) zhx zhb dX12_item_460 (by decide) ?_
    obtain ⟨⟨zv56, zM57⟩, zhp, zhs⟩ := bnd_e zhs
    try dsimp only at zhs
    refine x_cVI (As := [.int 1]) (rest := []) C zhw zhl (cRef_figures l D cI h N 1 zM2 zv56 zM57 zhp) (by decide) (by decide) kw_16_10 kw_16_11 kw_16_12 kw_1_5 kw_16_13 md_X12_figures rfl 0 (wR_c0 h cI zM2) rfl rfl rfl rfl (Nat.le_of_ble_eq_true rfl) dX12_item_461 (fun zH zlocs zhw hzv56 => ?_)
    refine lv_if_eq (tgt := 477) zhx zhb dX12_item_464 (by decide) (fun zc9 => ?_) (fun zc9 => ?_)
    · replace zhs := br_T zhs zc9
      refine lv_iconst (v := 0) zhx zhb dX12_item_477 (by decide) ?_
      cases zhs
      exact zhret _ _ _ _ dX12_item_478 (by rfl) zhw
    · replace zhs := br_F zhs zc9
      refine lv_aload_n zhx zhb dX12_item_467 rfl (lv_at zhl 1 rfl) ?_
      refine x_get C zhw inlX12 rfl 0 32 (by decide) kw_9_7 rfl (wR_c0 h cI zM57) rfl dX12_item_468 ?_
      refine lv_iconst (v := 0) zhx zhb dX12_item_471 (by decide) ?_
      obtain ⟨zv58, ze9, zhi, zhs⟩ := rdc_v zhs
      refine x_iald C zhw 29 (wR_c29 h cI zM57) zhi dX12_item_472 ?_
      refine lv_topi (fun zy9 ze8 => ?_)
      obtain rfl : zv58 = zy9 := ze9.trans ze8.symm
      clear ze9 ze8
      refine lv_iconst (v := 4) zhx zhb dX12_item_473 (by decide) ?_
      refine lv_icmp_le (tgt := 479) zhx zhb dX12_item_474 (by decide) (fun zc9 => ?_) (fun zc9 => ?_)
      · replace zhs := br_T zhs zc9
        refine lv_aload_n zhx zhb dX12_item_479 rfl (lv_at zhl 1 rfl) ?_
        refine x_get C zhw inlX12 rfl 0 21 (by decide) kw_8_23 rfl (wR_c0 h cI zM57) rfl dX12_item_480 ?_
        refine lv_iconst (v := 5) zhx zhb dX12_item_483 (by decide) ?_
        refine lv_aload_n zhx zhb dX12_item_484 rfl (lv_at zhl 1 rfl) ?_
        refine x_get C zhw inlX12 rfl 0 32 (by decide) kw_9_7 rfl (wR_c0 h cI zM57) rfl dX12_item_485 ?_
        refine lv_iconst (v := 0) zhx zhb dX12_item_488 (by decide) ?_
        obtain ⟨zv59, ze9, zhi, zhs⟩ := rdc_v zhs
        refine x_iald C zhw 29 (wR_c29 h cI zM57) zhi dX12_item_489 ?_
        refine lv_topi (fun zy9 ze8 => ?_)
        obtain rfl : zv59 = zy9 := ze9.trans ze8.symm
        clear ze9 ze8
        obtain ⟨zhi, zhs⟩ := inc_e zhs
        refine x_iast C zhw 21 (wR_c21 h cI zM57) zhi (wR_a21 h cI zM57 _ _) dX12_item_490 (fun zH zlocs zhw => ?_)
        obtain ⟨zM60, ze9, zhs⟩ := ltM_e zhs
        rw [← ze9] at zhw; clear ze9
        refine lv_iconst (v := 1) zhx zhb dX12_item_491 (by decide) ?_
        cases zhs
        exact zhret _ _ _ _ dX12_item_492 (by rfl) zhw
      · replace zhs := br_F zhs zc9
        refine lv_iconst (v := 0) zhx zhb dX12_item_477 (by decide) ?_
        cases zhs
        exact zhret _ _ _ _ dX12_item_478 (by rfl) zhw
  replace zhs := br_F zhs c1115
  refine x_tabD (tgt := 493) zhx zhb dX12_item_20 (fun h1 h2 => ?_) (by decide) ?_
  · have zhz : ∀ j : Nat, j < 18 → (¬ j = 0 ∧ ¬ j = 1 ∧ ¬ j = 2 ∧ ¬ j = 3 ∧ ¬ j = 4 ∧ ¬ j = 5 ∧ ¬ j = 13 ∧ ¬ j = 17) → (#[369, 88, 138, 206, 93, 268, 473, 473, 473, 473, 473, 473, 473, 98, 473, 473, 473, 439] : Array Int)[j]? = some (473 : Int) := by decide
    refine zhz _ (by omega) ⟨fun zq9 => c1098 (Int32.toInt_inj.mp (show zv1.toInt = (98 : Int32).toInt from by rw [show (98 : Int32).toInt = 98 from rfl]; omega)), fun zq9 => c1099 (Int32.toInt_inj.mp (show zv1.toInt = (99 : Int32).toInt from by rw [show (99 : Int32).toInt = 99 from rfl]; omega)), fun zq9 => c1100 (Int32.toInt_inj.mp (show zv1.toInt = (100 : Int32).toInt from by rw [show (100 : Int32).toInt = 100 from rfl]; omega)), fun zq9 => c1101 (Int32.toInt_inj.mp (show zv1.toInt = (101 : Int32).toInt from by rw [show (101 : Int32).toInt = 101 from rfl]; omega)), fun zq9 => c1102 (Int32.toInt_inj.mp (show zv1.toInt = (102 : Int32).toInt from by rw [show (102 : Int32).toInt = 102 from rfl]; omega)), fun zq9 => c1103 (Int32.toInt_inj.mp (show zv1.toInt = (103 : Int32).toInt from by rw [show (103 : Int32).toInt = 103 from rfl]; omega)), fun zq9 => c1111 (Int32.toInt_inj.mp (show zv1.toInt = (111 : Int32).toInt from by rw [show (111 : Int32).toInt = 111 from rfl]; omega)), fun zq9 => c1115 (Int32.toInt_inj.mp (show zv1.toInt = (115 : Int32).toInt from by rw [show (115 : Int32).toInt = 115 from rfl]; omega))⟩
  refine lv_iconst (v := 0) zhx zhb dX12_item_493 (by decide) ?_
  cases zhs
  exact zhret _ _ _ _ dX12_item_494 (by rfl) zhw

-- OffFirstModel.readAll in (0, ())
def LRef_readAll_10_10 (N : Nat) (zM3 : Mm) : Option ((Mm) ⊕ ((Int32 × Mm) ⊕ (Mm))) :=
  (if (zM3 0 0) ≤ (zM3 0 31) then some (.inr (.inr zM3))
  else ltI (zM3 0 31) fun zv7 =>
  (sRef_item N zM3).bind fun (zv8, zM9) =>
  (if zv8 = 0 then some (.inr (.inl (zv7, zM9)))
  else some (.inl zM9)))
def sRef_readAll (N : Nat) (M : Mm) : Option (Int32 × Mm) :=
  (sRef_noFridge 1 M).bind fun zM1 =>
  ltM (mset zM1 0 31 0) fun zM2 =>
  ((itr (fun z : Mm => LRef_readAll_10_10 N z) N zM2).bind fun q => match q with
  | .inl (zv11, zM12) => some (zv11, zM12)
  | .inr zM13 => some ((-4), zM13))
set_option maxHeartbeats 4000000 in
set_option maxRecDepth 100000 in
theorem cRef_readAll (l : Launch) (D : va_G) (cI : ClassId) (h : Nat → Nat) (N : Nat) (M : Mm) (r : Int32) (M' : Mm) (zhs : sRef_readAll N M = some (r, M')) : CtI l yX12_readAll cX12_readAll 2 (some .int) 5 D cI (wR h cI M) (wR h cI M') [.ref (h 0)] r := by
  unfold sRef_readAll at zhs
  refine CtI_of (by decide +kernel) (Nat.le_of_ble_eq_true rfl) ⟨_, rfl⟩ ?_
  intro p e s m args below meth c A Q zls zH zlocs C zhw zhl zhret
  have zhx := C.1
  have zhb := C.2.1
  have zhown := C.2.2.2.2.1
  have zhtB := C.2.2.2.2.2.2.1
  have zhl : lv_has zls 2 [(0, .ref (h 0))] := zhl
  refine lv_aload_n zhx zhb dX12_readAll_0 rfl (lv_at zhl 0 rfl) ?_
  refine lv_iconst (v := 1) zhx zhb dX12_readAll_1 (by decide) ?_
  obtain ⟨zM1, zhp, zhs⟩ := bnd_e zhs
  refine x_cVV (As := [.int 1]) (rest := []) C zhw zhl (cRef_noFridge l D cI h 1 M zM1 zhp) (by decide) (by decide) kw_9_8 kw_9_9 kw_9_10 kw_1_5 kw_9_11 md_X12_noFridge rfl 0 (wR_c0 h cI M) rfl rfl rfl rfl (Nat.le_of_ble_eq_true rfl) dX12_readAll_2 (fun zH zlocs zhw => ?_)
  refine lv_aload_n zhx zhb dX12_readAll_5 rfl (lv_at zhl 0 rfl) ?_
  refine lv_iconst (v := 0) zhx zhb dX12_readAll_6 (by decide) ?_
  refine x_put C zhw inlX12 rfl tyX12_ok nmX12 0 31 (by decide) kw_15_17 rfl rfl rfl (wR_c0 h cI zM1) (Nat.le_of_ble_eq_true rfl) (wR_s0_31 h cI zM1 _) dX12_readAll_7 (fun zH zlocs zhw => ?_)
  obtain ⟨zM2, ze9, zhs⟩ := ltM_e zhs
  rw [← ze9] at zhw; clear ze9
  obtain ⟨zq10, zhq10, zhs⟩ := bnd_e zhs
  have hloop10 : ∀ (zn : Nat) (zM3 : Mm) (zq : (Int32 × Mm) ⊕ (Mm)), itr (fun z : Mm => LRef_readAll_10_10 N z) zn zM3 = some zq → (∀ (zy1 : Int32) (zy2 : Mm), (.inl (zy1, zy2)) = zq → ∀ (zH : Heap) (zlocs : List Loc) (zls : Array Slot), lv_has zls 2 [(1, .int zy1)] → Hw D (wR h cI zy2) A s.heap zH zlocs → W p l e (RM 5) s m args below meth c zH zlocs 0 0 Q (F0 m 33 zls [])) → (∀ (zy1 : Mm), (.inr zy1) = zq → ∀ (zH : Heap) (zlocs : List Loc) (zls : Array Slot), lv_has zls 2 [] → Hw D (wR h cI zy1) A s.heap zH zlocs → W p l e (RM 5) s m args below meth c zH zlocs 0 0 Q (F0 m 38 zls [])) → ∀ (zH : Heap) (zlocs : List Loc) (zls : Array Slot), lv_has zls 2 [(0, .ref (h 0))] → Hw D (wR h cI zM3) A s.heap zH zlocs → W p l e (RM 5) s m args below meth c zH zlocs 0 0 Q (F0 m 10 zls []) := by
    intro zn
    induction zn with
    | zero => intro zM3 zq zhq; exact absurd zhq (fun h9 => itr_0 h9)
    | succ zn zih =>
        intro zM3 zq zhq k10_33 k10_38 zH zlocs zls zhl zhw
        obtain ⟨zy9, zhs, zhq⟩ := itr_s zhq
        replace zhs : LRef_readAll_10_10 N zM3 = some zy9 := zhs
        unfold LRef_readAll_10_10 at zhs
        refine lv_aload_n zhx zhb dX12_readAll_10 rfl (lv_at zhl 0 rfl) ?_
        refine x_get C zhw inlX12 rfl 0 31 (by decide) kw_15_17 rfl (wR_c0 h cI zM3) rfl dX12_readAll_11 ?_
        refine lv_aload_n zhx zhb dX12_readAll_14 rfl (lv_at zhl 0 rfl) ?_
        refine x_get C zhw inlX12 rfl 0 0 (by decide) kw_10_12 rfl (wR_c0 h cI zM3) rfl dX12_readAll_15 ?_
        refine lv_icmp_ge (tgt := 38) zhx zhb dX12_readAll_18 (by decide) (fun zc9 => ?_) (fun zc9 => ?_)
        · replace zhs := br_T zhs zc9
          cases zhs
          exact k10_38 zM3 (itk_q zhq) zH zlocs zls (lv_sub zhl [] rfl) zhw
        · replace zhs := br_F zhs zc9
          refine lv_aload_n zhx zhb dX12_readAll_21 rfl (lv_at zhl 0 rfl) ?_
          refine x_get C zhw inlX12 rfl 0 31 (by decide) kw_15_17 rfl (wR_c0 h cI zM3) rfl dX12_readAll_22 ?_
          obtain ⟨zv7, ze9, zhs⟩ := ltI_e zhs
          refine lv_topi (fun zy9 ze8 => ?_)
          obtain rfl : zv7 = zy9 := ze9.trans ze8.symm
          clear ze9 ze8
          refine lv_istore_n (lv' := [(1, .int zv7), (0, .ref (h 0))]) zhx zhb dX12_readAll_25 rfl zhl (by decide) rfl (fun zls zhl => ?_)
          refine lv_aload_n zhx zhb dX12_readAll_26 rfl (lv_at zhl 1 rfl) ?_
          obtain ⟨⟨zv8, zM9⟩, zhp, zhs⟩ := bnd_e zhs
          try dsimp only at zhs
          refine x_cVI (As := []) (rest := []) C zhw zhl (cRef_item l D cI h N zM3 zv8 zM9 zhp) (by decide) (by decide) kw_15_18 kw_15_19 kw_15_20 kw_1_5 kw_15_21 md_X12_item rfl 0 (wR_c0 h cI zM3) rfl rfl rfl rfl (Nat.le_of_ble_eq_true rfl) dX12_readAll_27 (fun zH zlocs zhw hzv8 => ?_)
          refine lv_if_ne (tgt := 35) zhx zhb dX12_readAll_30 (by decide) (fun zc9 => ?_) (fun zc9 => ?_)
          · replace zhs := br_F zhs zc9
            refine lv_goto (tgt := 10) zhx zhb dX12_readAll_35 (by decide) ?_
            cases zhs
            exact zih zM9 zq (itk_l zhq) k10_33 k10_38 zH zlocs zls (lv_sub zhl [1] rfl) zhw
          · replace zhs := br_T zhs zc9
            cases zhs
            exact k10_33 zv7 zM9 (itk_q zhq) zH zlocs zls (lv_sub zhl [0] rfl) zhw
  refine hloop10 N zM2 zq10 zhq10 (fun zv11 zM12 zhqe zH zlocs zls zhl zhw => ?_) (fun zM13 zhqe zH zlocs zls zhl zhw => ?_) zH zlocs zls zhl zhw
  · subst zhqe
    try dsimp only at zhs
    refine lv_iload_n zhx zhb dX12_readAll_33 rfl (lv_at zhl 0 rfl) ?_
    cases zhs
    exact zhret _ _ _ _ dX12_readAll_34 (by rfl) zhw
  · subst zhqe
    try dsimp only at zhs
    refine lv_bipush (v := (-4)) zhx zhb dX12_readAll_38 (by decide) ?_
    cases zhs
    exact zhret _ _ _ _ dX12_readAll_40 (by rfl) zhw

-- OffFirstModel.fault in (0, ())
def sRef_fault (N : Nat) (M : Mm) : Option (Int32 × Mm) :=
  (sRef_readAll N M).bind fun (zv1, zM2) =>
  some (zv1, zM2)
set_option maxHeartbeats 4000000 in
set_option maxRecDepth 100000 in
theorem cRef_fault (l : Launch) (D : va_G) (cI : ClassId) (h : Nat → Nat) (N : Nat) (M : Mm) (r : Int32) (M' : Mm) (zhs : sRef_fault N M = some (r, M')) : CtI l yX12_fault cX12_fault 1 (some .int) 6 D cI (wR h cI M) (wR h cI M') [.ref (h 0)] r := by
  unfold sRef_fault at zhs
  refine CtI_of (by decide +kernel) (Nat.le_of_ble_eq_true rfl) ⟨_, rfl⟩ ?_
  intro p e s m args below meth c A Q zls zH zlocs C zhw zhl zhret
  have zhx := C.1
  have zhb := C.2.1
  have zhown := C.2.2.2.2.1
  have zhtB := C.2.2.2.2.2.2.1
  have zhl : lv_has zls 1 [(0, .ref (h 0))] := zhl
  refine lv_aload_n zhx zhb dX12_fault_0 rfl (lv_at zhl 0 rfl) ?_
  obtain ⟨⟨zv1, zM2⟩, zhp, zhs⟩ := bnd_e zhs
  try dsimp only at zhs
  refine x_cVI (As := []) (rest := []) C zhw zhl (cRef_readAll l D cI h N M zv1 zM2 zhp) (by decide) (by decide) kw_15_13 kw_15_14 kw_15_15 kw_1_5 kw_15_16 md_X12_readAll rfl 0 (wR_c0 h cI M) rfl rfl rfl rfl (Nat.le_of_ble_eq_true rfl) dX12_fault_1 (fun zH zlocs zhw hn9 => ?_)
  cases zhs
  exact zhret _ _ _ _ dX12_fault_4 (by rfl) zhw

-- OffFirstModel.isRoomy in (0, ())
def LRef_isRoomy_19_40 (N : Nat) (M : Mm) (zx2 : Int32) (zx26 : Int32) (zx27 : Int32) : Option ((Int32 × Int32) ⊕ ((Int32))) :=
  rdc 2 (M 7) 1 fun zv34 =>
  (if zv34 ≤ zx27 then some (.inr zx26)
  else rdc 20 (M 9) (10 + zx27) fun zv35 =>
  (if zv35 = zx2 then ltI (zx26 + 1) fun zv38 =>
  ltI (zx27 + 1) fun zv39 =>
  some (.inl (zv38, zv39))
  else ltI (zx26 + 0) fun zv36 =>
  ltI (zx27 + 1) fun zv37 =>
  some (.inl (zv36, zv37))))
def LRef_isRoomy_4_47 (N : Nat) (M : Mm) (zx1 : Int32) (zx2 : Int32) : Option ((Int32 × Int32) ⊕ ((Int32))) :=
  rdc 2 (M 2) 1 fun zv25 =>
  (if zv25 ≤ zx2 then some (.inr zx1)
  else (itr (fun z : Int32 × Int32 => LRef_isRoomy_19_40 N M zx2 z.1 z.2) N (0, 0)).bind fun zv41 =>
  (if zx1 = 0 then ltI (zx2 + 1) fun zv43 =>
  some (.inl (0, zv43))
  else rdc 12 (M 5) (6 + zx2) fun zv44 =>
  (if zv44 < zv41 then ltI (zx2 + 1) fun zv45 =>
  some (.inl (0, zv45))
  else ltI (zx2 + 1) fun zv46 =>
  some (.inl (1, zv46)))))
def sRef_isRoomy (N : Nat) (M : Mm) : Option Int32 :=
  (itr (fun z : Int32 × Int32 => LRef_isRoomy_4_47 N M z.1 z.2) N (1, 0)).bind fun zv48 =>
  zck zv48 <| some zv48
set_option maxHeartbeats 4000000 in
set_option maxRecDepth 100000 in
theorem cRef_isRoomy (l : Launch) (D : va_G) (cI : ClassId) (h : Nat → Nat) (N : Nat) (M : Mm) (r : Int32) (zhs : sRef_isRoomy N M = some r) : CtI l yX12_isRoomy cX12_isRoomy 5 (some .boolean) 1 D cI (wR h cI M) (wR h cI M) [.ref (h 0)] r := by
  unfold sRef_isRoomy at zhs
  refine CtI_of (by decide +kernel) (Nat.le_of_ble_eq_true rfl) ⟨_, rfl⟩ ?_
  intro p e s m args below meth c A Q zls zH zlocs C zhw zhl zhret
  have zhx := C.1
  have zhb := C.2.1
  have zhown := C.2.2.2.2.1
  have zhtB := C.2.2.2.2.2.2.1
  have zhl : lv_has zls 5 [(0, .ref (h 0))] := zhl
  refine lv_iconst (v := 1) zhx zhb dX12_isRoomy_0 (by decide) ?_
  refine lv_istore_n (lv' := [(1, .int 1), (0, .ref (h 0))]) zhx zhb dX12_isRoomy_1 rfl zhl (by decide) rfl (fun zls zhl => ?_)
  refine lv_iconst (v := 0) zhx zhb dX12_isRoomy_2 (by decide) ?_
  refine lv_istore_n (lv' := [(2, .int 0), (1, .int 1), (0, .ref (h 0))]) zhx zhb dX12_isRoomy_3 rfl zhl (by decide) rfl (fun zls zhl => ?_)
  obtain ⟨zq47, zhq47, zhs⟩ := bnd_e zhs
  have hloop47 : ∀ (zn : Nat) (zx1 : Int32) (zx2 : Int32) (zq : (Int32)), itr (fun z : Int32 × Int32 => LRef_isRoomy_4_47 N M z.1 z.2) zn (zx1, zx2) = some zq → (∀ (zy1 : Int32), zy1 = zq → ∀ (zH : Heap) (zlocs : List Loc) (zls : Array Slot), lv_has zls 5 [(1, .int zy1)] → Hw D (wR h cI M) A s.heap zH zlocs → W p l e (RM 1) s m args below meth c zH zlocs 0 0 Q (F0 m 87 zls [])) → ∀ (zH : Heap) (zlocs : List Loc) (zls : Array Slot), lv_has zls 5 [(2, .int zx2), (1, .int zx1), (0, .ref (h 0))] → Hw D (wR h cI M) A s.heap zH zlocs → W p l e (RM 1) s m args below meth c zH zlocs 0 0 Q (F0 m 4 zls []) := by
    intro zn
    induction zn with
    | zero => intro zx1 zx2 zq zhq; exact absurd zhq (fun h9 => itr_0 h9)
    | succ zn zih =>
        intro zx1 zx2 zq zhq k4_87 zH zlocs zls zhl zhw
        obtain ⟨zy9, zhs, zhq⟩ := itr_s zhq
        replace zhs : LRef_isRoomy_4_47 N M zx1 zx2 = some zy9 := zhs
        unfold LRef_isRoomy_4_47 at zhs
        refine lv_iload_n zhx zhb dX12_isRoomy_4 rfl (lv_at zhl 0 rfl) ?_
        refine lv_aload_n zhx zhb dX12_isRoomy_5 rfl (lv_at zhl 2 rfl) ?_
        refine x_get C zhw inlX12 rfl 0 2 (by decide) kw_8_4 rfl (wR_c0 h cI M) rfl dX12_isRoomy_6 ?_
        refine lv_iconst (v := 1) zhx zhb dX12_isRoomy_9 (by decide) ?_
        obtain ⟨zv25, ze9, zhi, zhs⟩ := rdc_v zhs
        refine x_iald C zhw 2 (wR_c2 h cI M) zhi dX12_isRoomy_10 ?_
        refine lv_topi (fun zy9 ze8 => ?_)
        obtain rfl : zv25 = zy9 := ze9.trans ze8.symm
        clear ze9 ze8
        refine lv_icmp_ge (tgt := 87) zhx zhb dX12_isRoomy_11 (by decide) (fun zc9 => ?_) (fun zc9 => ?_)
        · replace zhs := br_T zhs zc9
          cases zhs
          exact k4_87 zx1 (itk_q zhq) zH zlocs zls (lv_sub zhl [1] rfl) zhw
        · replace zhs := br_F zhs zc9
          refine lv_iconst (v := 0) zhx zhb dX12_isRoomy_14 (by decide) ?_
          refine lv_istore_n (lv' := [(3, .int 0), (2, .int zx2), (1, .int zx1), (0, .ref (h 0))]) zhx zhb dX12_isRoomy_15 rfl zhl (by decide) rfl (fun zls zhl => ?_)
          refine lv_iconst (v := 0) zhx zhb dX12_isRoomy_16 (by decide) ?_
          refine lv_istore (lv' := [(4, .int 0), (3, .int 0), (2, .int zx2), (1, .int zx1), (0, .ref (h 0))]) zhx zhb dX12_isRoomy_17 zhl (by decide) rfl (fun zls zhl => ?_)
          obtain ⟨zq40, zhq40, zhs⟩ := bnd_e zhs
          have hloop40 : ∀ (zn : Nat) (zx26 : Int32) (zx27 : Int32) (zq : (Int32)), itr (fun z : Int32 × Int32 => LRef_isRoomy_19_40 N M zx2 z.1 z.2) zn (zx26, zx27) = some zq → (∀ (zy1 : Int32), zy1 = zq → ∀ (zH : Heap) (zlocs : List Loc) (zls : Array Slot), lv_has zls 5 [(3, .int zy1), (2, .int zx2), (1, .int zx1), (0, .ref (h 0))] → Hw D (wR h cI M) A s.heap zH zlocs → W p l e (RM 1) s m args below meth c zH zlocs 0 0 Q (F0 m 58 zls [])) → ∀ (zH : Heap) (zlocs : List Loc) (zls : Array Slot), lv_has zls 5 [(4, .int zx27), (3, .int zx26), (2, .int zx2), (1, .int zx1), (0, .ref (h 0))] → Hw D (wR h cI M) A s.heap zH zlocs → W p l e (RM 1) s m args below meth c zH zlocs 0 0 Q (F0 m 19 zls []) := by
            intro zn
            induction zn with
            | zero => intro zx26 zx27 zq zhq; exact absurd zhq (fun h9 => itr_0 h9)
            | succ zn zih =>
                intro zx26 zx27 zq zhq k19_58 zH zlocs zls zhl zhw
                obtain ⟨zy9, zhs, zhq⟩ := itr_s zhq
                replace zhs : LRef_isRoomy_19_40 N M zx2 zx26 zx27 = some zy9 := zhs
                unfold LRef_isRoomy_19_40 at zhs
                refine lv_iload zhx zhb dX12_isRoomy_19 (lv_at zhl 0 rfl) ?_
                refine lv_aload_n zhx zhb dX12_isRoomy_21 rfl (lv_at zhl 4 rfl) ?_
                refine x_get C zhw inlX12 rfl 0 7 (by decide) kw_8_9 rfl (wR_c0 h cI M) rfl dX12_isRoomy_22 ?_
                refine lv_iconst (v := 1) zhx zhb dX12_isRoomy_25 (by decide) ?_
                obtain ⟨zv34, ze9, zhi, zhs⟩ := rdc_v zhs
                refine x_iald C zhw 7 (wR_c7 h cI M) zhi dX12_isRoomy_26 ?_
                refine lv_topi (fun zy9 ze8 => ?_)
                obtain rfl : zv34 = zy9 := ze9.trans ze8.symm
                clear ze9 ze8
                refine lv_icmp_ge (tgt := 58) zhx zhb dX12_isRoomy_27 (by decide) (fun zc9 => ?_) (fun zc9 => ?_)
                · replace zhs := br_T zhs zc9
                  cases zhs
                  exact k19_58 zx26 (itk_q zhq) zH zlocs zls (lv_sub zhl [1, 2, 3, 4] rfl) zhw
                · replace zhs := br_F zhs zc9
                  refine lv_iload_n zhx zhb dX12_isRoomy_30 rfl (lv_at zhl 1 rfl) ?_
                  refine lv_aload_n zhx zhb dX12_isRoomy_31 rfl (lv_at zhl 4 rfl) ?_
                  refine x_get C zhw inlX12 rfl 0 9 (by decide) kw_8_11 rfl (wR_c0 h cI M) rfl dX12_isRoomy_32 ?_
                  refine lv_bipush (v := 10) zhx zhb dX12_isRoomy_35 (by decide) ?_
                  refine lv_iload zhx zhb dX12_isRoomy_37 (lv_at zhl 0 rfl) ?_
                  refine lv_iadd zhx zhb dX12_isRoomy_39 ?_
                  obtain ⟨zv35, ze9, zhi, zhs⟩ := rdc_v zhs
                  refine x_iald C zhw 9 (wR_c9 h cI M) zhi dX12_isRoomy_40 ?_
                  refine lv_topi (fun zy9 ze8 => ?_)
                  obtain rfl : zv35 = zy9 := ze9.trans ze8.symm
                  clear ze9 ze8
                  refine lv_iload_n zhx zhb dX12_isRoomy_41 rfl (lv_at zhl 2 rfl) ?_
                  refine lv_icmp_ne (tgt := 49) zhx zhb dX12_isRoomy_42 (by decide) (fun zc9 => ?_) (fun zc9 => ?_)
                  · replace zhs := br_F zhs zc9
                    refine lv_iconst (v := 0) zhx zhb dX12_isRoomy_49 (by decide) ?_
                    refine lv_iadd zhx zhb dX12_isRoomy_50 ?_
                    obtain ⟨zv36, ze9, zhs⟩ := ltI_e zhs
                    refine lv_topi (fun zy9 ze8 => ?_)
                    obtain rfl : zv36 = zy9 := ze9.trans ze8.symm
                    clear ze9 ze8
                    refine lv_istore_n (lv' := [(3, .int zv36), (4, .int zx27), (2, .int zx2), (1, .int zx1), (0, .ref (h 0))]) zhx zhb dX12_isRoomy_51 rfl zhl (by decide) rfl (fun zls zhl => ?_)
                    obtain ⟨zv37, ze9, zhs⟩ := ltI_e zhs
                    refine lv_iinc (v := zv37) (lv' := [(4, .int zv37), (3, .int zv36), (2, .int zx2), (1, .int zx1), (0, .ref (h 0))]) zhx zhb dX12_isRoomy_52 zhl (k := 1) rfl (by rw [ze9]; rfl) (by decide) rfl (fun zls zhl => ?_)
                    clear ze9
                    refine lv_goto (tgt := 19) zhx zhb dX12_isRoomy_55 (by decide) ?_
                    cases zhs
                    exact zih zv36 zv37 zq (itk_l zhq) k19_58 zH zlocs zls zhl zhw
                  · replace zhs := br_T zhs zc9
                    refine lv_iconst (v := 1) zhx zhb dX12_isRoomy_45 (by decide) ?_
                    refine lv_goto (tgt := 50) zhx zhb dX12_isRoomy_46 (by decide) ?_
                    refine lv_iadd zhx zhb dX12_isRoomy_50 ?_
                    obtain ⟨zv38, ze9, zhs⟩ := ltI_e zhs
                    refine lv_topi (fun zy9 ze8 => ?_)
                    obtain rfl : zv38 = zy9 := ze9.trans ze8.symm
                    clear ze9 ze8
                    refine lv_istore_n (lv' := [(3, .int zv38), (4, .int zx27), (2, .int zx2), (1, .int zx1), (0, .ref (h 0))]) zhx zhb dX12_isRoomy_51 rfl zhl (by decide) rfl (fun zls zhl => ?_)
                    obtain ⟨zv39, ze9, zhs⟩ := ltI_e zhs
                    refine lv_iinc (v := zv39) (lv' := [(4, .int zv39), (3, .int zv38), (2, .int zx2), (1, .int zx1), (0, .ref (h 0))]) zhx zhb dX12_isRoomy_52 zhl (k := 1) rfl (by rw [ze9]; rfl) (by decide) rfl (fun zls zhl => ?_)
                    clear ze9
                    refine lv_goto (tgt := 19) zhx zhb dX12_isRoomy_55 (by decide) ?_
                    cases zhs
                    exact zih zv38 zv39 zq (itk_l zhq) k19_58 zH zlocs zls zhl zhw
          refine hloop40 N 0 0 zq40 zhq40 (fun zv41 zhqe zH zlocs zls zhl zhw => ?_) zH zlocs zls zhl zhw
          · subst zhqe
            refine lv_iload_n zhx zhb dX12_isRoomy_58 rfl (lv_at zhl 2 rfl) ?_
            refine lv_if_eq (tgt := 79) zhx zhb dX12_isRoomy_59 (by decide) (fun zc9 => ?_) (fun zc9 => ?_)
            · replace zhs := br_T zhs zc9
              refine lv_iconst (v := 0) zhx zhb dX12_isRoomy_79 (by decide) ?_
              refine lv_istore_n (lv' := [(1, .int 0), (3, .int zv41), (2, .int zx2), (0, .ref (h 0))]) zhx zhb dX12_isRoomy_80 rfl zhl (by decide) rfl (fun zls zhl => ?_)
              obtain ⟨zv43, ze9, zhs⟩ := ltI_e zhs
              refine lv_iinc (v := zv43) (lv' := [(2, .int zv43), (1, .int 0), (3, .int zv41), (0, .ref (h 0))]) zhx zhb dX12_isRoomy_81 zhl (k := 2) rfl (by rw [ze9]; rfl) (by decide) rfl (fun zls zhl => ?_)
              clear ze9
              refine lv_goto (tgt := 4) zhx zhb dX12_isRoomy_84 (by decide) ?_
              cases zhs
              exact zih 0 zv43 zq (itk_l zhq) k4_87 zH zlocs zls (lv_sub zhl [0, 1, 3] rfl) zhw
            · replace zhs := br_F zhs zc9
              refine lv_iload_n zhx zhb dX12_isRoomy_62 rfl (lv_at zhl 0 rfl) ?_
              refine lv_aload_n zhx zhb dX12_isRoomy_63 rfl (lv_at zhl 3 rfl) ?_
              refine x_get C zhw inlX12 rfl 0 5 (by decide) kw_8_7 rfl (wR_c0 h cI M) rfl dX12_isRoomy_64 ?_
              refine lv_bipush (v := 6) zhx zhb dX12_isRoomy_67 (by decide) ?_
              refine lv_iload_n zhx zhb dX12_isRoomy_69 rfl (lv_at zhl 1 rfl) ?_
              refine lv_iadd zhx zhb dX12_isRoomy_70 ?_
              obtain ⟨zv44, ze9, zhi, zhs⟩ := rdc_v zhs
              refine x_iald C zhw 5 (wR_c5 h cI M) zhi dX12_isRoomy_71 ?_
              refine lv_topi (fun zy9 ze8 => ?_)
              obtain rfl : zv44 = zy9 := ze9.trans ze8.symm
              clear ze9 ze8
              refine lv_icmp_gt (tgt := 79) zhx zhb dX12_isRoomy_72 (by decide) (fun zc9 => ?_) (fun zc9 => ?_)
              · replace zhs := br_T zhs zc9
                refine lv_iconst (v := 0) zhx zhb dX12_isRoomy_79 (by decide) ?_
                refine lv_istore_n (lv' := [(1, .int 0), (3, .int zv41), (2, .int zx2), (0, .ref (h 0))]) zhx zhb dX12_isRoomy_80 rfl zhl (by decide) rfl (fun zls zhl => ?_)
                obtain ⟨zv45, ze9, zhs⟩ := ltI_e zhs
                refine lv_iinc (v := zv45) (lv' := [(2, .int zv45), (1, .int 0), (3, .int zv41), (0, .ref (h 0))]) zhx zhb dX12_isRoomy_81 zhl (k := 2) rfl (by rw [ze9]; rfl) (by decide) rfl (fun zls zhl => ?_)
                clear ze9
                refine lv_goto (tgt := 4) zhx zhb dX12_isRoomy_84 (by decide) ?_
                cases zhs
                exact zih 0 zv45 zq (itk_l zhq) k4_87 zH zlocs zls (lv_sub zhl [0, 1, 3] rfl) zhw
              · replace zhs := br_F zhs zc9
                refine lv_iconst (v := 1) zhx zhb dX12_isRoomy_75 (by decide) ?_
                refine lv_goto (tgt := 80) zhx zhb dX12_isRoomy_76 (by decide) ?_
                refine lv_istore_n (lv' := [(1, .int 1), (3, .int zv41), (2, .int zx2), (0, .ref (h 0))]) zhx zhb dX12_isRoomy_80 rfl zhl (by decide) rfl (fun zls zhl => ?_)
                obtain ⟨zv46, ze9, zhs⟩ := ltI_e zhs
                refine lv_iinc (v := zv46) (lv' := [(2, .int zv46), (1, .int 1), (3, .int zv41), (0, .ref (h 0))]) zhx zhb dX12_isRoomy_81 zhl (k := 2) rfl (by rw [ze9]; rfl) (by decide) rfl (fun zls zhl => ?_)
                clear ze9
                refine lv_goto (tgt := 4) zhx zhb dX12_isRoomy_84 (by decide) ?_
                cases zhs
                exact zih 1 zv46 zq (itk_l zhq) k4_87 zH zlocs zls (lv_sub zhl [0, 1, 3] rfl) zhw
  refine hloop47 N 1 0 zq47 zhq47 (fun zv48 zhqe zH zlocs zls zhl zhw => ?_) zH zlocs zls zhl zhw
  · subst zhqe
    refine lv_iload_n zhx zhb dX12_isRoomy_87 rfl (lv_at zhl 0 rfl) ?_
    obtain ⟨zhz, zhs⟩ := zck_e zhs
    cases zhs
    exact zhret _ _ _ _ dX12_isRoomy_88 zhz zhw

