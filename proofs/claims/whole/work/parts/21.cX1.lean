-- OffFirst$Cells.add in (5, ())
def sCells_add_d (a1 : Int32) (a2 : Int32) (a3 : Int32) (M : Mm) : Option (Int32 × Mm) :=
  (if (M 5 3) < 6 then ltM (putf 6 M 6 (M 5 3) a1) fun zM1 =>
  ltM (putf 6 zM1 7 (zM1 5 3) a2) fun zM2 =>
  ltM (putf 6 zM2 8 (zM2 5 3) a3) fun zM3 =>
  ltM (mset zM3 5 3 ((zM3 5 3) + 1)) fun zM4 =>
  some (1, zM4)
  else some (0, M))
set_option maxHeartbeats 4000000 in
set_option maxRecDepth 100000 in
theorem cCells_add_d (l : Launch) (D : va_G) (cI : ClassId) (h : Nat → Nat) (a1 : Int32) (a2 : Int32) (a3 : Int32) (M : Mm) (r : Int32) (M' : Mm) (zhs : sCells_add_d a1 a2 a3 M = some (r, M')) : CtI l yX0_add cX0_add 4 (some .boolean) 2 D cI (wX h cI M) (wX h cI M') [.ref (h 5), .int a1, .int a2, .int a3] r := by
  unfold sCells_add_d at zhs
  refine CtI_of (by decide +kernel) (Nat.le_of_ble_eq_true rfl) ⟨_, rfl⟩ ?_
  intro p e s m args below meth c A Q zls zH zlocs C zhw zhl zhret
  have zhx := C.1
  have zhb := C.2.1
  have zhown := C.2.2.2.2.1
  have zhtB := C.2.2.2.2.2.2.1
  have zhl : lv_has zls 4 [(0, .ref (h 5)), (1, .int a1), (2, .int a2), (3, .int a3)] := zhl
  refine lv_aload_n zhx zhb dX0_add_0 rfl (lv_at zhl 0 rfl) ?_
  refine x_get C zhw inlX0 rfl 5 3 (by decide) kw_6_23 rfl (wX_c5 h cI M) rfl dX0_add_1 ?_
  refine lv_bipush (v := 6) zhx zhb dX0_add_4 (by decide) ?_
  refine lv_icmp_lt (tgt := 11) zhx zhb dX0_add_6 (by decide) (fun zc9 => ?_) (fun zc9 => ?_)
  · replace zhs := br_T zhs zc9
    refine lv_aload_n zhx zhb dX0_add_11 rfl (lv_at zhl 0 rfl) ?_
    refine x_get C zhw inlX0 rfl 5 0 (by decide) kw_4_3 rfl (wX_c5 h cI M) rfl dX0_add_12 ?_
    refine lv_aload_n zhx zhb dX0_add_15 rfl (lv_at zhl 0 rfl) ?_
    refine x_get C zhw inlX0 rfl 5 3 (by decide) kw_6_23 rfl (wX_c5 h cI M) rfl dX0_add_16 ?_
    refine lv_iload_n zhx zhb dX0_add_19 rfl (lv_at zhl 1 rfl) ?_
    refine x_cSNV (As := [.ref (h 6), .int (M 5 3), .int a1]) (rest := []) C zhw zhl (c_put l D cI (wX h cI) M 6 6 (h 6) (wX_c6 h cI M) (fun j v => wX_a6 h cI M j v) (by decide) (M 5 3) a1) (by decide) (by decide) (List.mem_of_getElem? (i := 7) rfl) kw_7_0 kw_1_2 kw_7_1 md_X11_put rfl rfl (Nat.le_of_ble_eq_true rfl) dX0_add_20 (fun zH zlocs zhw => ?_)
    obtain ⟨zM1, ze9, zhs⟩ := ltM_e zhs
    rw [← ze9] at zhw; clear ze9
    refine lv_aload_n zhx zhb dX0_add_23 rfl (lv_at zhl 0 rfl) ?_
    refine x_get C zhw inlX0 rfl 5 1 (by decide) kw_4_4 rfl (wX_c5 h cI zM1) rfl dX0_add_24 ?_
    refine lv_aload_n zhx zhb dX0_add_27 rfl (lv_at zhl 0 rfl) ?_
    refine x_get C zhw inlX0 rfl 5 3 (by decide) kw_6_23 rfl (wX_c5 h cI zM1) rfl dX0_add_28 ?_
    refine lv_iload_n zhx zhb dX0_add_31 rfl (lv_at zhl 2 rfl) ?_
    refine x_cSNV (As := [.ref (h 7), .int (zM1 5 3), .int a2]) (rest := []) C zhw zhl (c_put l D cI (wX h cI) zM1 7 6 (h 7) (wX_c7 h cI zM1) (fun j v => wX_a7 h cI zM1 j v) (by decide) (zM1 5 3) a2) (by decide) (by decide) (List.mem_of_getElem? (i := 7) rfl) kw_7_0 kw_1_2 kw_7_1 md_X11_put rfl rfl (Nat.le_of_ble_eq_true rfl) dX0_add_32 (fun zH zlocs zhw => ?_)
    obtain ⟨zM2, ze9, zhs⟩ := ltM_e zhs
    rw [← ze9] at zhw; clear ze9
    refine lv_aload_n zhx zhb dX0_add_35 rfl (lv_at zhl 0 rfl) ?_
    refine x_get C zhw inlX0 rfl 5 2 (by decide) kw_4_5 rfl (wX_c5 h cI zM2) rfl dX0_add_36 ?_
    refine lv_aload_n zhx zhb dX0_add_39 rfl (lv_at zhl 0 rfl) ?_
    refine x_get C zhw inlX0 rfl 5 3 (by decide) kw_6_23 rfl (wX_c5 h cI zM2) rfl dX0_add_40 ?_
    refine lv_iload_n zhx zhb dX0_add_43 rfl (lv_at zhl 3 rfl) ?_
    refine x_cSNV (As := [.ref (h 8), .int (zM2 5 3), .int a3]) (rest := []) C zhw zhl (c_put l D cI (wX h cI) zM2 8 6 (h 8) (wX_c8 h cI zM2) (fun j v => wX_a8 h cI zM2 j v) (by decide) (zM2 5 3) a3) (by decide) (by decide) (List.mem_of_getElem? (i := 7) rfl) kw_7_0 kw_1_2 kw_7_1 md_X11_put rfl rfl (Nat.le_of_ble_eq_true rfl) dX0_add_44 (fun zH zlocs zhw => ?_)
    obtain ⟨zM3, ze9, zhs⟩ := ltM_e zhs
    rw [← ze9] at zhw; clear ze9
    refine lv_aload_n zhx zhb dX0_add_47 rfl (lv_at zhl 0 rfl) ?_
    refine lv_dup zhx zhb dX0_add_48 rfl ?_
    refine x_get C zhw inlX0 rfl 5 3 (by decide) kw_6_23 rfl (wX_c5 h cI zM3) rfl dX0_add_49 ?_
    refine lv_iconst (v := 1) zhx zhb dX0_add_52 (by decide) ?_
    refine lv_iadd zhx zhb dX0_add_53 ?_
    refine x_put C zhw inlX0 rfl tyX0_ok nmX0 5 3 (by decide) kw_6_23 rfl rfl rfl (wX_c5 h cI zM3) (Nat.le_of_ble_eq_true rfl) (wX_s5_3 h cI zM3 _) dX0_add_54 (fun zH zlocs zhw => ?_)
    obtain ⟨zM4, ze9, zhs⟩ := ltM_e zhs
    rw [← ze9] at zhw; clear ze9
    refine lv_iconst (v := 1) zhx zhb dX0_add_57 (by decide) ?_
    cases zhs
    exact zhret _ _ _ _ dX0_add_58 (by rfl) zhw
  · replace zhs := br_F zhs zc9
    refine lv_iconst (v := 0) zhx zhb dX0_add_9 (by decide) ?_
    cases zhs
    exact zhret _ _ _ _ dX0_add_10 (by rfl) zhw

-- OffFirst$Told.takeCell in (4, (1,))
def sTold_takeCell_d (M : Mm) : Option (Int32 × Mm) :=
  (if (M 1 4) = 3 then (sText_isNumberWithin 0 0 200 M).bind fun zv9 =>
  (if zv9 = 0 then some (0, M)
  else (sText_isNumberWithin 1 0 99 M).bind fun zv17 =>
  (if zv17 = 0 then some (0, M)
  else (sText_isNumberWithin 2 1 10 M).bind fun zv24 =>
  (if zv24 = 0 then some (0, M)
  else (sText_number 0 M).bind fun zv30 =>
  (sText_number 1 M).bind fun zv31 =>
  (sText_number 2 M).bind fun zv32 =>
  (sCells_add_d zv30 zv31 zv32 M).bind fun (zv33, zM34) =>
  (if zv33 = 0 then some (0, zM34)
  else some (1, zM34)))))
  else some (0, M))
set_option maxHeartbeats 4000000 in
set_option maxRecDepth 100000 in
theorem cTold_takeCell_d (l : Launch) (D : va_G) (cI : ClassId) (h : Nat → Nat) (M : Mm) (r : Int32) (M' : Mm) (zhs : sTold_takeCell_d M = some (r, M')) : CtI l yX10_takeCell cX10_takeCell 2 (some .boolean) 4 D cI (wX h cI M) (wX h cI M') [.ref (h 4), .ref (h 1)] r := by
  unfold sTold_takeCell_d at zhs
  refine CtI_of (by decide +kernel) (Nat.le_of_ble_eq_true rfl) ⟨_, rfl⟩ ?_
  intro p e s m args below meth c A Q zls zH zlocs C zhw zhl zhret
  have zhx := C.1
  have zhb := C.2.1
  have zhown := C.2.2.2.2.1
  have zhtB := C.2.2.2.2.2.2.1
  have zhl : lv_has zls 2 [(0, .ref (h 4)), (1, .ref (h 1))] := zhl
  refine lv_aload_n zhx zhb dX10_takeCell_0 rfl (lv_at zhl 1 rfl) ?_
  refine x_getN C zhw inlX9 rfl 1 4 (by decide) (List.mem_of_getElem? (i := 3) rfl) rfl (wX_c1 h cI M) rfl dX10_takeCell_1 ?_
  refine lv_iconst (v := 3) zhx zhb dX10_takeCell_4 (by decide) ?_
  refine lv_icmp_ne (tgt := 71) zhx zhb dX10_takeCell_5 (by decide) (fun zc9 => ?_) (fun zc9 => ?_)
  · replace zhs := br_F zhs zc9
    refine lv_iconst (v := 0) zhx zhb dX10_takeCell_71 (by decide) ?_
    cases zhs
    exact zhret _ _ _ _ dX10_takeCell_72 (by rfl) zhw
  · replace zhs := br_T zhs zc9
    refine lv_aload_n zhx zhb dX10_takeCell_8 rfl (lv_at zhl 1 rfl) ?_
    refine lv_iconst (v := 0) zhx zhb dX10_takeCell_9 (by decide) ?_
    refine lv_iconst (v := 0) zhx zhb dX10_takeCell_10 (by decide) ?_
    refine lv_sipush (v := 200) zhx zhb dX10_takeCell_11 (by decide) ?_
    obtain ⟨zv9, zhp, zhs⟩ := bnd_e zhs
    refine x_cVI (As := [.int 0, .int 0, .int 200]) (rest := []) C zhw zhl (cText_isNumberWithin l D cI h 0 0 200 M zv9 zhp) (by decide) (by decide) kw_13_6 kw_13_7 kw_13_8 kw_1_15 kw_13_9 md_X9_isNumberWithin rfl 1 (wX_c1 h cI M) rfl rfl rfl rfl (Nat.le_of_ble_eq_true rfl) dX10_takeCell_14 (fun zH zlocs zhw hzv9 => ?_)
    refine lv_if_eq (tgt := 71) zhx zhb dX10_takeCell_17 (by decide) (fun zc9 => ?_) (fun zc9 => ?_)
    · replace zhs := br_T zhs zc9
      refine lv_iconst (v := 0) zhx zhb dX10_takeCell_71 (by decide) ?_
      cases zhs
      exact zhret _ _ _ _ dX10_takeCell_72 (by rfl) zhw
    · replace zhs := br_F zhs zc9
      refine lv_aload_n zhx zhb dX10_takeCell_20 rfl (lv_at zhl 1 rfl) ?_
      refine lv_iconst (v := 1) zhx zhb dX10_takeCell_21 (by decide) ?_
      refine lv_iconst (v := 0) zhx zhb dX10_takeCell_22 (by decide) ?_
      refine lv_bipush (v := 99) zhx zhb dX10_takeCell_23 (by decide) ?_
      obtain ⟨zv17, zhp, zhs⟩ := bnd_e zhs
      refine x_cVI (As := [.int 1, .int 0, .int 99]) (rest := []) C zhw zhl (cText_isNumberWithin l D cI h 1 0 99 M zv17 zhp) (by decide) (by decide) kw_13_6 kw_13_7 kw_13_8 kw_1_15 kw_13_9 md_X9_isNumberWithin rfl 1 (wX_c1 h cI M) rfl rfl rfl rfl (Nat.le_of_ble_eq_true rfl) dX10_takeCell_25 (fun zH zlocs zhw hzv17 => ?_)
      refine lv_if_eq (tgt := 71) zhx zhb dX10_takeCell_28 (by decide) (fun zc9 => ?_) (fun zc9 => ?_)
      · replace zhs := br_T zhs zc9
        refine lv_iconst (v := 0) zhx zhb dX10_takeCell_71 (by decide) ?_
        cases zhs
        exact zhret _ _ _ _ dX10_takeCell_72 (by rfl) zhw
      · replace zhs := br_F zhs zc9
        refine lv_aload_n zhx zhb dX10_takeCell_31 rfl (lv_at zhl 1 rfl) ?_
        refine lv_iconst (v := 2) zhx zhb dX10_takeCell_32 (by decide) ?_
        refine lv_iconst (v := 1) zhx zhb dX10_takeCell_33 (by decide) ?_
        refine lv_bipush (v := 10) zhx zhb dX10_takeCell_34 (by decide) ?_
        obtain ⟨zv24, zhp, zhs⟩ := bnd_e zhs
        refine x_cVI (As := [.int 2, .int 1, .int 10]) (rest := []) C zhw zhl (cText_isNumberWithin l D cI h 2 1 10 M zv24 zhp) (by decide) (by decide) kw_13_6 kw_13_7 kw_13_8 kw_1_15 kw_13_9 md_X9_isNumberWithin rfl 1 (wX_c1 h cI M) rfl rfl rfl rfl (Nat.le_of_ble_eq_true rfl) dX10_takeCell_36 (fun zH zlocs zhw hzv24 => ?_)
        refine lv_if_eq (tgt := 71) zhx zhb dX10_takeCell_39 (by decide) (fun zc9 => ?_) (fun zc9 => ?_)
        · replace zhs := br_T zhs zc9
          refine lv_iconst (v := 0) zhx zhb dX10_takeCell_71 (by decide) ?_
          cases zhs
          exact zhret _ _ _ _ dX10_takeCell_72 (by rfl) zhw
        · replace zhs := br_F zhs zc9
          refine lv_aload_n zhx zhb dX10_takeCell_42 rfl (lv_at zhl 0 rfl) ?_
          refine x_get C zhw inlX10 rfl 4 0 (by decide) kw_3_12 rfl (wX_c4 h cI M) rfl dX10_takeCell_43 ?_
          refine lv_aload_n zhx zhb dX10_takeCell_46 rfl (lv_at zhl 1 rfl) ?_
          refine lv_iconst (v := 0) zhx zhb dX10_takeCell_47 (by decide) ?_
          obtain ⟨zv30, zhp, zhs⟩ := bnd_e zhs
          refine x_cVI (As := [.int 0]) (rest := [.ref (h 5)]) C zhw zhl (cText_number l D cI h 0 M zv30 zhp) (by decide) (by decide) kw_13_14 kw_13_11 kw_13_12 kw_1_15 kw_13_13 md_X9_number rfl 1 (wX_c1 h cI M) rfl rfl rfl rfl (Nat.le_of_ble_eq_true rfl) dX10_takeCell_48 (fun zH zlocs zhw hn9 => ?_)
          refine lv_aload_n zhx zhb dX10_takeCell_51 rfl (lv_at zhl 1 rfl) ?_
          refine lv_iconst (v := 1) zhx zhb dX10_takeCell_52 (by decide) ?_
          obtain ⟨zv31, zhp, zhs⟩ := bnd_e zhs
          refine x_cVI (As := [.int 1]) (rest := [.int zv30, .ref (h 5)]) C zhw zhl (cText_number l D cI h 1 M zv31 zhp) (by decide) (by decide) kw_13_14 kw_13_11 kw_13_12 kw_1_15 kw_13_13 md_X9_number rfl 1 (wX_c1 h cI M) rfl rfl rfl rfl (Nat.le_of_ble_eq_true rfl) dX10_takeCell_53 (fun zH zlocs zhw hn9 => ?_)
          refine lv_aload_n zhx zhb dX10_takeCell_56 rfl (lv_at zhl 1 rfl) ?_
          refine lv_iconst (v := 2) zhx zhb dX10_takeCell_57 (by decide) ?_
          obtain ⟨zv32, zhp, zhs⟩ := bnd_e zhs
          refine x_cVI (As := [.int 2]) (rest := [.int zv31, .int zv30, .ref (h 5)]) C zhw zhl (cText_number l D cI h 2 M zv32 zhp) (by decide) (by decide) kw_13_14 kw_13_11 kw_13_12 kw_1_15 kw_13_13 md_X9_number rfl 1 (wX_c1 h cI M) rfl rfl rfl rfl (Nat.le_of_ble_eq_true rfl) dX10_takeCell_58 (fun zH zlocs zhw hn9 => ?_)
          obtain ⟨⟨zv33, zM34⟩, zhp, zhs⟩ := bnd_e zhs
          try dsimp only at zhs
          refine x_cVI (As := [.int zv30, .int zv31, .int zv32]) (rest := []) C zhw zhl (cCells_add_d l D cI h zv30 zv31 zv32 M zv33 zM34 zhp) (by decide) (by decide) kw_13_15 kw_6_20 kw_6_21 kw_3_11 kw_6_22 md_X0_add rfl 5 (wX_c5 h cI M) rfl rfl rfl rfl (Nat.le_of_ble_eq_true rfl) dX10_takeCell_61 (fun zH zlocs zhw hzv33 => ?_)
          refine lv_if_eq (tgt := 71) zhx zhb dX10_takeCell_64 (by decide) (fun zc9 => ?_) (fun zc9 => ?_)
          · replace zhs := br_T zhs zc9
            refine lv_iconst (v := 0) zhx zhb dX10_takeCell_71 (by decide) ?_
            cases zhs
            exact zhret _ _ _ _ dX10_takeCell_72 (by rfl) zhw
          · replace zhs := br_F zhs zc9
            refine lv_iconst (v := 1) zhx zhb dX10_takeCell_67 (by decide) ?_
            refine lv_goto (tgt := 72) zhx zhb dX10_takeCell_68 (by decide) ?_
            cases zhs
            exact zhret _ _ _ _ dX10_takeCell_72 (by rfl) zhw

-- OffFirst$Told.takeDish in (4, (1,))
def sTold_takeDish_d (M : Mm) : Option (Int32 × Mm) :=
  (if (M 1 4) = 1 then (sText_isNumberWithin 0 1 15 M).bind fun zv1 =>
  (if zv1 = 0 then some (0, M)
  else (if (M 4 3) < 5 then (sText_number 0 M).bind fun zv2 =>
  ltM (putf 5 M 17 (M 4 3) zv2) fun zM3 =>
  ltM (mset zM3 4 3 ((zM3 4 3) + 1)) fun zM4 =>
  some (1, zM4)
  else some (0, M)))
  else some (0, M))
set_option maxHeartbeats 4000000 in
set_option maxRecDepth 100000 in
theorem cTold_takeDish_d (l : Launch) (D : va_G) (cI : ClassId) (h : Nat → Nat) (M : Mm) (r : Int32) (M' : Mm) (zhs : sTold_takeDish_d M = some (r, M')) : CtI l yX10_takeDish cX10_takeDish 2 (some .boolean) 4 D cI (wX h cI M) (wX h cI M') [.ref (h 4), .ref (h 1)] r := by
  unfold sTold_takeDish_d at zhs
  refine CtI_of (by decide +kernel) (Nat.le_of_ble_eq_true rfl) ⟨_, rfl⟩ ?_
  intro p e s m args below meth c A Q zls zH zlocs C zhw zhl zhret
  have zhx := C.1
  have zhb := C.2.1
  have zhown := C.2.2.2.2.1
  have zhtB := C.2.2.2.2.2.2.1
  have zhl : lv_has zls 2 [(0, .ref (h 4)), (1, .ref (h 1))] := zhl
  refine lv_aload_n zhx zhb dX10_takeDish_0 rfl (lv_at zhl 1 rfl) ?_
  refine x_getN C zhw inlX9 rfl 1 4 (by decide) (List.mem_of_getElem? (i := 3) rfl) rfl (wX_c1 h cI M) rfl dX10_takeDish_1 ?_
  refine lv_iconst (v := 1) zhx zhb dX10_takeDish_4 (by decide) ?_
  refine lv_icmp_ne (tgt := 27) zhx zhb dX10_takeDish_5 (by decide) (fun zc9 => ?_) (fun zc9 => ?_)
  · replace zhs := br_F zhs zc9
    refine lv_iconst (v := 0) zhx zhb dX10_takeDish_27 (by decide) ?_
    cases zhs
    exact zhret _ _ _ _ dX10_takeDish_28 (by rfl) zhw
  · replace zhs := br_T zhs zc9
    refine lv_aload_n zhx zhb dX10_takeDish_8 rfl (lv_at zhl 1 rfl) ?_
    refine lv_iconst (v := 0) zhx zhb dX10_takeDish_9 (by decide) ?_
    refine lv_iconst (v := 1) zhx zhb dX10_takeDish_10 (by decide) ?_
    refine lv_bipush (v := 15) zhx zhb dX10_takeDish_11 (by decide) ?_
    obtain ⟨zv1, zhp, zhs⟩ := bnd_e zhs
    refine x_cVI (As := [.int 0, .int 1, .int 15]) (rest := []) C zhw zhl (cText_isNumberWithin l D cI h 0 1 15 M zv1 zhp) (by decide) (by decide) kw_13_6 kw_13_7 kw_13_8 kw_1_15 kw_13_9 md_X9_isNumberWithin rfl 1 (wX_c1 h cI M) rfl rfl rfl rfl (Nat.le_of_ble_eq_true rfl) dX10_takeDish_13 (fun zH zlocs zhw hzv1 => ?_)
    refine lv_if_eq (tgt := 27) zhx zhb dX10_takeDish_16 (by decide) (fun zc9 => ?_) (fun zc9 => ?_)
    · replace zhs := br_T zhs zc9
      refine lv_iconst (v := 0) zhx zhb dX10_takeDish_27 (by decide) ?_
      cases zhs
      exact zhret _ _ _ _ dX10_takeDish_28 (by rfl) zhw
    · replace zhs := br_F zhs zc9
      refine lv_aload_n zhx zhb dX10_takeDish_19 rfl (lv_at zhl 0 rfl) ?_
      refine x_get C zhw inlX10 rfl 4 3 (by decide) kw_11_13 rfl (wX_c4 h cI M) rfl dX10_takeDish_20 ?_
      refine lv_iconst (v := 5) zhx zhb dX10_takeDish_23 (by decide) ?_
      refine lv_icmp_lt (tgt := 29) zhx zhb dX10_takeDish_24 (by decide) (fun zc9 => ?_) (fun zc9 => ?_)
      · replace zhs := br_T zhs zc9
        refine lv_aload_n zhx zhb dX10_takeDish_29 rfl (lv_at zhl 0 rfl) ?_
        refine x_get C zhw inlX10 rfl 4 2 (by decide) kw_3_17 rfl (wX_c4 h cI M) rfl dX10_takeDish_30 ?_
        refine lv_aload_n zhx zhb dX10_takeDish_33 rfl (lv_at zhl 0 rfl) ?_
        refine x_get C zhw inlX10 rfl 4 3 (by decide) kw_11_13 rfl (wX_c4 h cI M) rfl dX10_takeDish_34 ?_
        refine lv_aload_n zhx zhb dX10_takeDish_37 rfl (lv_at zhl 1 rfl) ?_
        refine lv_iconst (v := 0) zhx zhb dX10_takeDish_38 (by decide) ?_
        obtain ⟨zv2, zhp, zhs⟩ := bnd_e zhs
        refine x_cVI (As := [.int 0]) (rest := [.int (M 4 3), .ref (h 17)]) C zhw zhl (cText_number l D cI h 0 M zv2 zhp) (by decide) (by decide) kw_13_14 kw_13_11 kw_13_12 kw_1_15 kw_13_13 md_X9_number rfl 1 (wX_c1 h cI M) rfl rfl rfl rfl (Nat.le_of_ble_eq_true rfl) dX10_takeDish_39 (fun zH zlocs zhw hn9 => ?_)
        refine x_cSNV (As := [.ref (h 17), .int (M 4 3), .int zv2]) (rest := []) C zhw zhl (c_put l D cI (wX h cI) M 17 5 (h 17) (wX_c17 h cI M) (fun j v => wX_a17 h cI M j v) (by decide) (M 4 3) zv2) (by decide) (by decide) (List.mem_of_getElem? (i := 14) rfl) kw_7_0 kw_1_2 kw_7_1 md_X11_put rfl rfl (Nat.le_of_ble_eq_true rfl) dX10_takeDish_42 (fun zH zlocs zhw => ?_)
        obtain ⟨zM3, ze9, zhs⟩ := ltM_e zhs
        rw [← ze9] at zhw; clear ze9
        refine lv_aload_n zhx zhb dX10_takeDish_45 rfl (lv_at zhl 0 rfl) ?_
        refine lv_dup zhx zhb dX10_takeDish_46 rfl ?_
        refine x_get C zhw inlX10 rfl 4 3 (by decide) kw_11_13 rfl (wX_c4 h cI zM3) rfl dX10_takeDish_47 ?_
        refine lv_iconst (v := 1) zhx zhb dX10_takeDish_50 (by decide) ?_
        refine lv_iadd zhx zhb dX10_takeDish_51 ?_
        refine x_put C zhw inlX10 rfl tyX10_ok nmX10 4 3 (by decide) kw_11_13 rfl rfl rfl (wX_c4 h cI zM3) (Nat.le_of_ble_eq_true rfl) (wX_s4_3 h cI zM3 _) dX10_takeDish_52 (fun zH zlocs zhw => ?_)
        obtain ⟨zM4, ze9, zhs⟩ := ltM_e zhs
        rw [← ze9] at zhw; clear ze9
        refine lv_iconst (v := 1) zhx zhb dX10_takeDish_55 (by decide) ?_
        cases zhs
        exact zhret _ _ _ _ dX10_takeDish_56 (by rfl) zhw
      · replace zhs := br_F zhs zc9
        refine lv_iconst (v := 0) zhx zhb dX10_takeDish_27 (by decide) ?_
        cases zhs
        exact zhret _ _ _ _ dX10_takeDish_28 (by rfl) zhw

-- OffFirst$Told.takeEater in (4, (1,))
def sTold_takeEater_d (M : Mm) : Option (Int32 × Mm) :=
  (if (M 1 4) = 1 then (sText_isNumberWithin 0 0 15 M).bind fun zv1 =>
  (if zv1 = 0 then some (0, M)
  else (if (M 4 5) < 4 then (sText_number 0 M).bind fun zv2 =>
  ltM (putf 4 M 18 (M 4 5) zv2) fun zM3 =>
  ltM (mset zM3 4 5 ((zM3 4 5) + 1)) fun zM4 =>
  some (1, zM4)
  else some (0, M)))
  else some (0, M))
set_option maxHeartbeats 4000000 in
set_option maxRecDepth 100000 in
theorem cTold_takeEater_d (l : Launch) (D : va_G) (cI : ClassId) (h : Nat → Nat) (M : Mm) (r : Int32) (M' : Mm) (zhs : sTold_takeEater_d M = some (r, M')) : CtI l yX10_takeEater cX10_takeEater 2 (some .boolean) 4 D cI (wX h cI M) (wX h cI M') [.ref (h 4), .ref (h 1)] r := by
  unfold sTold_takeEater_d at zhs
  refine CtI_of (by decide +kernel) (Nat.le_of_ble_eq_true rfl) ⟨_, rfl⟩ ?_
  intro p e s m args below meth c A Q zls zH zlocs C zhw zhl zhret
  have zhx := C.1
  have zhb := C.2.1
  have zhown := C.2.2.2.2.1
  have zhtB := C.2.2.2.2.2.2.1
  have zhl : lv_has zls 2 [(0, .ref (h 4)), (1, .ref (h 1))] := zhl
  refine lv_aload_n zhx zhb dX10_takeEater_0 rfl (lv_at zhl 1 rfl) ?_
  refine x_getN C zhw inlX9 rfl 1 4 (by decide) (List.mem_of_getElem? (i := 3) rfl) rfl (wX_c1 h cI M) rfl dX10_takeEater_1 ?_
  refine lv_iconst (v := 1) zhx zhb dX10_takeEater_4 (by decide) ?_
  refine lv_icmp_ne (tgt := 27) zhx zhb dX10_takeEater_5 (by decide) (fun zc9 => ?_) (fun zc9 => ?_)
  · replace zhs := br_F zhs zc9
    refine lv_iconst (v := 0) zhx zhb dX10_takeEater_27 (by decide) ?_
    cases zhs
    exact zhret _ _ _ _ dX10_takeEater_28 (by rfl) zhw
  · replace zhs := br_T zhs zc9
    refine lv_aload_n zhx zhb dX10_takeEater_8 rfl (lv_at zhl 1 rfl) ?_
    refine lv_iconst (v := 0) zhx zhb dX10_takeEater_9 (by decide) ?_
    refine lv_iconst (v := 0) zhx zhb dX10_takeEater_10 (by decide) ?_
    refine lv_bipush (v := 15) zhx zhb dX10_takeEater_11 (by decide) ?_
    obtain ⟨zv1, zhp, zhs⟩ := bnd_e zhs
    refine x_cVI (As := [.int 0, .int 0, .int 15]) (rest := []) C zhw zhl (cText_isNumberWithin l D cI h 0 0 15 M zv1 zhp) (by decide) (by decide) kw_13_6 kw_13_7 kw_13_8 kw_1_15 kw_13_9 md_X9_isNumberWithin rfl 1 (wX_c1 h cI M) rfl rfl rfl rfl (Nat.le_of_ble_eq_true rfl) dX10_takeEater_13 (fun zH zlocs zhw hzv1 => ?_)
    refine lv_if_eq (tgt := 27) zhx zhb dX10_takeEater_16 (by decide) (fun zc9 => ?_) (fun zc9 => ?_)
    · replace zhs := br_T zhs zc9
      refine lv_iconst (v := 0) zhx zhb dX10_takeEater_27 (by decide) ?_
      cases zhs
      exact zhret _ _ _ _ dX10_takeEater_28 (by rfl) zhw
    · replace zhs := br_F zhs zc9
      refine lv_aload_n zhx zhb dX10_takeEater_19 rfl (lv_at zhl 0 rfl) ?_
      refine x_get C zhw inlX10 rfl 4 5 (by decide) kw_11_14 rfl (wX_c4 h cI M) rfl dX10_takeEater_20 ?_
      refine lv_iconst (v := 4) zhx zhb dX10_takeEater_23 (by decide) ?_
      refine lv_icmp_lt (tgt := 29) zhx zhb dX10_takeEater_24 (by decide) (fun zc9 => ?_) (fun zc9 => ?_)
      · replace zhs := br_T zhs zc9
        refine lv_aload_n zhx zhb dX10_takeEater_29 rfl (lv_at zhl 0 rfl) ?_
        refine x_get C zhw inlX10 rfl 4 4 (by decide) kw_3_18 rfl (wX_c4 h cI M) rfl dX10_takeEater_30 ?_
        refine lv_aload_n zhx zhb dX10_takeEater_33 rfl (lv_at zhl 0 rfl) ?_
        refine x_get C zhw inlX10 rfl 4 5 (by decide) kw_11_14 rfl (wX_c4 h cI M) rfl dX10_takeEater_34 ?_
        refine lv_aload_n zhx zhb dX10_takeEater_37 rfl (lv_at zhl 1 rfl) ?_
        refine lv_iconst (v := 0) zhx zhb dX10_takeEater_38 (by decide) ?_
        obtain ⟨zv2, zhp, zhs⟩ := bnd_e zhs
        refine x_cVI (As := [.int 0]) (rest := [.int (M 4 5), .ref (h 18)]) C zhw zhl (cText_number l D cI h 0 M zv2 zhp) (by decide) (by decide) kw_13_14 kw_13_11 kw_13_12 kw_1_15 kw_13_13 md_X9_number rfl 1 (wX_c1 h cI M) rfl rfl rfl rfl (Nat.le_of_ble_eq_true rfl) dX10_takeEater_39 (fun zH zlocs zhw hn9 => ?_)
        refine x_cSNV (As := [.ref (h 18), .int (M 4 5), .int zv2]) (rest := []) C zhw zhl (c_put l D cI (wX h cI) M 18 4 (h 18) (wX_c18 h cI M) (fun j v => wX_a18 h cI M j v) (by decide) (M 4 5) zv2) (by decide) (by decide) (List.mem_of_getElem? (i := 14) rfl) kw_7_0 kw_1_2 kw_7_1 md_X11_put rfl rfl (Nat.le_of_ble_eq_true rfl) dX10_takeEater_42 (fun zH zlocs zhw => ?_)
        obtain ⟨zM3, ze9, zhs⟩ := ltM_e zhs
        rw [← ze9] at zhw; clear ze9
        refine lv_aload_n zhx zhb dX10_takeEater_45 rfl (lv_at zhl 0 rfl) ?_
        refine lv_dup zhx zhb dX10_takeEater_46 rfl ?_
        refine x_get C zhw inlX10 rfl 4 5 (by decide) kw_11_14 rfl (wX_c4 h cI zM3) rfl dX10_takeEater_47 ?_
        refine lv_iconst (v := 1) zhx zhb dX10_takeEater_50 (by decide) ?_
        refine lv_iadd zhx zhb dX10_takeEater_51 ?_
        refine x_put C zhw inlX10 rfl tyX10_ok nmX10 4 5 (by decide) kw_11_14 rfl rfl rfl (wX_c4 h cI zM3) (Nat.le_of_ble_eq_true rfl) (wX_s4_5 h cI zM3 _) dX10_takeEater_52 (fun zH zlocs zhw => ?_)
        obtain ⟨zM4, ze9, zhs⟩ := ltM_e zhs
        rw [← ze9] at zhw; clear ze9
        refine lv_iconst (v := 1) zhx zhb dX10_takeEater_55 (by decide) ?_
        cases zhs
        exact zhret _ _ _ _ dX10_takeEater_56 (by rfl) zhw
      · replace zhs := br_F zhs zc9
        refine lv_iconst (v := 0) zhx zhb dX10_takeEater_27 (by decide) ?_
        cases zhs
        exact zhret _ _ _ _ dX10_takeEater_28 (by rfl) zhw

-- OffFirst$Cells.has in (5, ())
def sCells_has_d (a1 : Int32) (M : Mm) : Option Int32 :=
  (if a1 < 0 then some 0
  else (if (M 5 3) ≤ a1 then some 0
  else some 1))
set_option maxHeartbeats 4000000 in
set_option maxRecDepth 100000 in
theorem cCells_has_d (l : Launch) (D : va_G) (cI : ClassId) (h : Nat → Nat) (a1 : Int32) (M : Mm) (r : Int32) (zhs : sCells_has_d a1 M = some r) : CtI l yX0_has cX0_has 2 (some .boolean) 1 D cI (wX h cI M) (wX h cI M) [.ref (h 5), .int a1] r := by
  unfold sCells_has_d at zhs
  refine CtI_of (by decide +kernel) (Nat.le_of_ble_eq_true rfl) ⟨_, rfl⟩ ?_
  intro p e s m args below meth c A Q zls zH zlocs C zhw zhl zhret
  have zhx := C.1
  have zhb := C.2.1
  have zhown := C.2.2.2.2.1
  have zhtB := C.2.2.2.2.2.2.1
  have zhl : lv_has zls 2 [(0, .ref (h 5)), (1, .int a1)] := zhl
  refine lv_iload_n zhx zhb dX0_has_0 rfl (lv_at zhl 1 rfl) ?_
  refine lv_if_lt (tgt := 16) zhx zhb dX0_has_1 (by decide) (fun zc9 => ?_) (fun zc9 => ?_)
  · replace zhs := br_T zhs zc9
    refine lv_iconst (v := 0) zhx zhb dX0_has_16 (by decide) ?_
    cases zhs
    exact zhret _ _ _ _ dX0_has_17 (by rfl) zhw
  · replace zhs := br_F zhs zc9
    refine lv_iload_n zhx zhb dX0_has_4 rfl (lv_at zhl 1 rfl) ?_
    refine lv_aload_n zhx zhb dX0_has_5 rfl (lv_at zhl 0 rfl) ?_
    refine x_get C zhw inlX0 rfl 5 3 (by decide) kw_6_23 rfl (wX_c5 h cI M) rfl dX0_has_6 ?_
    refine lv_icmp_ge (tgt := 16) zhx zhb dX0_has_9 (by decide) (fun zc9 => ?_) (fun zc9 => ?_)
    · replace zhs := br_T zhs zc9
      refine lv_iconst (v := 0) zhx zhb dX0_has_16 (by decide) ?_
      cases zhs
      exact zhret _ _ _ _ dX0_has_17 (by rfl) zhw
    · replace zhs := br_F zhs zc9
      refine lv_iconst (v := 1) zhx zhb dX0_has_12 (by decide) ?_
      refine lv_goto (tgt := 17) zhx zhb dX0_has_13 (by decide) ?_
      cases zhs
      exact zhret _ _ _ _ dX0_has_17 (by rfl) zhw

-- OffFirst$Foods.add in (9, ())
def sFoods_add_d (a1 : Int32) (a2 : Int32) (a3 : Int32) (a4 : Int32) (a5 : Int32) (a6 : Int32) (M : Mm) : Option (Int32 × Mm) :=
  (if (M 9 7) < 10 then ltM (putf 10 M 10 (M 9 7) a1) fun zM1 =>
  ltM (putf 10 zM1 11 (zM1 9 7) a2) fun zM2 =>
  ltM (putf 10 zM2 12 (zM2 9 7) a3) fun zM3 =>
  ltM (putf 10 zM3 13 (zM3 9 7) a4) fun zM4 =>
  ltM (putf 10 zM4 14 (zM4 9 7) a5) fun zM5 =>
  ltM (putf 10 zM5 15 (zM5 9 7) a6) fun zM6 =>
  ltM (putf 4 zM6 16 a6 ((atf 4 (zM6 16) a6) ||| (1 <<< ((zM6 9 7) &&& 31)))) fun zM7 =>
  ltM (mset zM7 9 7 ((zM7 9 7) + 1)) fun zM8 =>
  some (1, zM8)
  else some (0, M))
set_option maxHeartbeats 4000000 in
set_option maxRecDepth 100000 in
theorem cFoods_add_d (l : Launch) (D : va_G) (cI : ClassId) (h : Nat → Nat) (a1 : Int32) (a2 : Int32) (a3 : Int32) (a4 : Int32) (a5 : Int32) (a6 : Int32) (M : Mm) (r : Int32) (M' : Mm) (zhs : sFoods_add_d a1 a2 a3 a4 a5 a6 M = some (r, M')) : CtI l yX2_add cX2_add 7 (some .boolean) 2 D cI (wX h cI M) (wX h cI M') [.ref (h 9), .int a1, .int a2, .int a3, .int a4, .int a5, .int a6] r := by
  unfold sFoods_add_d at zhs
  refine CtI_of (by decide +kernel) (Nat.le_of_ble_eq_true rfl) ⟨_, rfl⟩ ?_
  intro p e s m args below meth c A Q zls zH zlocs C zhw zhl zhret
  have zhx := C.1
  have zhb := C.2.1
  have zhown := C.2.2.2.2.1
  have zhtB := C.2.2.2.2.2.2.1
  have zhl : lv_has zls 7 [(0, .ref (h 9)), (1, .int a1), (2, .int a2), (3, .int a3), (4, .int a4), (5, .int a5), (6, .int a6)] := zhl
  refine lv_aload_n zhx zhb dX2_add_0 rfl (lv_at zhl 0 rfl) ?_
  refine x_get C zhw inlX2 rfl 9 7 (by decide) kw_7_6 rfl (wX_c9 h cI M) rfl dX2_add_1 ?_
  refine lv_bipush (v := 10) zhx zhb dX2_add_4 (by decide) ?_
  refine lv_icmp_lt (tgt := 11) zhx zhb dX2_add_6 (by decide) (fun zc9 => ?_) (fun zc9 => ?_)
  · replace zhs := br_T zhs zc9
    refine lv_aload_n zhx zhb dX2_add_11 rfl (lv_at zhl 0 rfl) ?_
    refine x_get C zhw inlX2 rfl 9 0 (by decide) kw_4_9 rfl (wX_c9 h cI M) rfl dX2_add_12 ?_
    refine lv_aload_n zhx zhb dX2_add_15 rfl (lv_at zhl 0 rfl) ?_
    refine x_get C zhw inlX2 rfl 9 7 (by decide) kw_7_6 rfl (wX_c9 h cI M) rfl dX2_add_16 ?_
    refine lv_iload_n zhx zhb dX2_add_19 rfl (lv_at zhl 1 rfl) ?_
    refine x_cSNV (As := [.ref (h 10), .int (M 9 7), .int a1]) (rest := []) C zhw zhl (c_put l D cI (wX h cI) M 10 10 (h 10) (wX_c10 h cI M) (fun j v => wX_a10 h cI M j v) (by decide) (M 9 7) a1) (by decide) (by decide) (List.mem_of_getElem? (i := 8) rfl) kw_7_0 kw_1_2 kw_7_1 md_X11_put rfl rfl (Nat.le_of_ble_eq_true rfl) dX2_add_20 (fun zH zlocs zhw => ?_)
    obtain ⟨zM1, ze9, zhs⟩ := ltM_e zhs
    rw [← ze9] at zhw; clear ze9
    refine lv_aload_n zhx zhb dX2_add_23 rfl (lv_at zhl 0 rfl) ?_
    refine x_get C zhw inlX2 rfl 9 1 (by decide) kw_4_10 rfl (wX_c9 h cI zM1) rfl dX2_add_24 ?_
    refine lv_aload_n zhx zhb dX2_add_27 rfl (lv_at zhl 0 rfl) ?_
    refine x_get C zhw inlX2 rfl 9 7 (by decide) kw_7_6 rfl (wX_c9 h cI zM1) rfl dX2_add_28 ?_
    refine lv_iload_n zhx zhb dX2_add_31 rfl (lv_at zhl 2 rfl) ?_
    refine x_cSNV (As := [.ref (h 11), .int (zM1 9 7), .int a2]) (rest := []) C zhw zhl (c_put l D cI (wX h cI) zM1 11 10 (h 11) (wX_c11 h cI zM1) (fun j v => wX_a11 h cI zM1 j v) (by decide) (zM1 9 7) a2) (by decide) (by decide) (List.mem_of_getElem? (i := 8) rfl) kw_7_0 kw_1_2 kw_7_1 md_X11_put rfl rfl (Nat.le_of_ble_eq_true rfl) dX2_add_32 (fun zH zlocs zhw => ?_)
    obtain ⟨zM2, ze9, zhs⟩ := ltM_e zhs
    rw [← ze9] at zhw; clear ze9
    refine lv_aload_n zhx zhb dX2_add_35 rfl (lv_at zhl 0 rfl) ?_
    refine x_get C zhw inlX2 rfl 9 2 (by decide) kw_4_11 rfl (wX_c9 h cI zM2) rfl dX2_add_36 ?_
    refine lv_aload_n zhx zhb dX2_add_39 rfl (lv_at zhl 0 rfl) ?_
    refine x_get C zhw inlX2 rfl 9 7 (by decide) kw_7_6 rfl (wX_c9 h cI zM2) rfl dX2_add_40 ?_
    refine lv_iload_n zhx zhb dX2_add_43 rfl (lv_at zhl 3 rfl) ?_
    refine x_cSNV (As := [.ref (h 12), .int (zM2 9 7), .int a3]) (rest := []) C zhw zhl (c_put l D cI (wX h cI) zM2 12 10 (h 12) (wX_c12 h cI zM2) (fun j v => wX_a12 h cI zM2 j v) (by decide) (zM2 9 7) a3) (by decide) (by decide) (List.mem_of_getElem? (i := 8) rfl) kw_7_0 kw_1_2 kw_7_1 md_X11_put rfl rfl (Nat.le_of_ble_eq_true rfl) dX2_add_44 (fun zH zlocs zhw => ?_)
    obtain ⟨zM3, ze9, zhs⟩ := ltM_e zhs
    rw [← ze9] at zhw; clear ze9
    refine lv_aload_n zhx zhb dX2_add_47 rfl (lv_at zhl 0 rfl) ?_
    refine x_get C zhw inlX2 rfl 9 3 (by decide) kw_4_12 rfl (wX_c9 h cI zM3) rfl dX2_add_48 ?_
    refine lv_aload_n zhx zhb dX2_add_51 rfl (lv_at zhl 0 rfl) ?_
    refine x_get C zhw inlX2 rfl 9 7 (by decide) kw_7_6 rfl (wX_c9 h cI zM3) rfl dX2_add_52 ?_
    refine lv_iload zhx zhb dX2_add_55 (lv_at zhl 4 rfl) ?_
    refine x_cSNV (As := [.ref (h 13), .int (zM3 9 7), .int a4]) (rest := []) C zhw zhl (c_put l D cI (wX h cI) zM3 13 10 (h 13) (wX_c13 h cI zM3) (fun j v => wX_a13 h cI zM3 j v) (by decide) (zM3 9 7) a4) (by decide) (by decide) (List.mem_of_getElem? (i := 8) rfl) kw_7_0 kw_1_2 kw_7_1 md_X11_put rfl rfl (Nat.le_of_ble_eq_true rfl) dX2_add_57 (fun zH zlocs zhw => ?_)
    obtain ⟨zM4, ze9, zhs⟩ := ltM_e zhs
    rw [← ze9] at zhw; clear ze9
    refine lv_aload_n zhx zhb dX2_add_60 rfl (lv_at zhl 0 rfl) ?_
    refine x_get C zhw inlX2 rfl 9 4 (by decide) kw_4_13 rfl (wX_c9 h cI zM4) rfl dX2_add_61 ?_
    refine lv_aload_n zhx zhb dX2_add_64 rfl (lv_at zhl 0 rfl) ?_
    refine x_get C zhw inlX2 rfl 9 7 (by decide) kw_7_6 rfl (wX_c9 h cI zM4) rfl dX2_add_65 ?_
    refine lv_iload zhx zhb dX2_add_68 (lv_at zhl 5 rfl) ?_
    refine x_cSNV (As := [.ref (h 14), .int (zM4 9 7), .int a5]) (rest := []) C zhw zhl (c_put l D cI (wX h cI) zM4 14 10 (h 14) (wX_c14 h cI zM4) (fun j v => wX_a14 h cI zM4 j v) (by decide) (zM4 9 7) a5) (by decide) (by decide) (List.mem_of_getElem? (i := 8) rfl) kw_7_0 kw_1_2 kw_7_1 md_X11_put rfl rfl (Nat.le_of_ble_eq_true rfl) dX2_add_70 (fun zH zlocs zhw => ?_)
    obtain ⟨zM5, ze9, zhs⟩ := ltM_e zhs
    rw [← ze9] at zhw; clear ze9
    refine lv_aload_n zhx zhb dX2_add_73 rfl (lv_at zhl 0 rfl) ?_
    refine x_get C zhw inlX2 rfl 9 5 (by decide) kw_4_14 rfl (wX_c9 h cI zM5) rfl dX2_add_74 ?_
    refine lv_aload_n zhx zhb dX2_add_77 rfl (lv_at zhl 0 rfl) ?_
    refine x_get C zhw inlX2 rfl 9 7 (by decide) kw_7_6 rfl (wX_c9 h cI zM5) rfl dX2_add_78 ?_
    refine lv_iload zhx zhb dX2_add_81 (lv_at zhl 6 rfl) ?_
    refine x_cSNV (As := [.ref (h 15), .int (zM5 9 7), .int a6]) (rest := []) C zhw zhl (c_put l D cI (wX h cI) zM5 15 10 (h 15) (wX_c15 h cI zM5) (fun j v => wX_a15 h cI zM5 j v) (by decide) (zM5 9 7) a6) (by decide) (by decide) (List.mem_of_getElem? (i := 8) rfl) kw_7_0 kw_1_2 kw_7_1 md_X11_put rfl rfl (Nat.le_of_ble_eq_true rfl) dX2_add_83 (fun zH zlocs zhw => ?_)
    obtain ⟨zM6, ze9, zhs⟩ := ltM_e zhs
    rw [← ze9] at zhw; clear ze9
    refine lv_aload_n zhx zhb dX2_add_86 rfl (lv_at zhl 0 rfl) ?_
    refine x_get C zhw inlX2 rfl 9 6 (by decide) kw_4_15 rfl (wX_c9 h cI zM6) rfl dX2_add_87 ?_
    refine lv_iload zhx zhb dX2_add_90 (lv_at zhl 6 rfl) ?_
    refine lv_aload_n zhx zhb dX2_add_92 rfl (lv_at zhl 0 rfl) ?_
    refine x_get C zhw inlX2 rfl 9 6 (by decide) kw_4_15 rfl (wX_c9 h cI zM6) rfl dX2_add_93 ?_
    refine lv_iload zhx zhb dX2_add_96 (lv_at zhl 6 rfl) ?_
    refine x_cSNI (As := [.ref (h 16), .int a6]) (rest := [.int a6, .ref (h 16)]) C zhw zhl (c_at l D cI (wX h cI zM6) 16 4 (h 16) (zM6 16) (wX_c16 h cI zM6) (by decide) a6) (by decide) (by decide) (List.mem_of_getElem? (i := 9) rfl) kw_7_7 kw_1_2 kw_7_8 md_X11_at rfl rfl (Nat.le_of_ble_eq_true rfl) dX2_add_98 (fun zH zlocs zhw hn9 => ?_)
    refine lv_iconst (v := 1) zhx zhb dX2_add_101 (by decide) ?_
    refine lv_aload_n zhx zhb dX2_add_102 rfl (lv_at zhl 0 rfl) ?_
    refine x_get C zhw inlX2 rfl 9 7 (by decide) kw_7_6 rfl (wX_c9 h cI zM6) rfl dX2_add_103 ?_
    refine lv_ishl zhx zhb dX2_add_106 ?_
    refine lv_ior zhx zhb dX2_add_107 ?_
    refine x_cSNV (As := [.ref (h 16), .int a6, .int ((atf 4 (zM6 16) a6) ||| (1 <<< ((zM6 9 7) &&& 31)))]) (rest := []) C zhw zhl (c_put l D cI (wX h cI) zM6 16 4 (h 16) (wX_c16 h cI zM6) (fun j v => wX_a16 h cI zM6 j v) (by decide) a6 ((atf 4 (zM6 16) a6) ||| (1 <<< ((zM6 9 7) &&& 31)))) (by decide) (by decide) (List.mem_of_getElem? (i := 8) rfl) kw_7_0 kw_1_2 kw_7_1 md_X11_put rfl rfl (Nat.le_of_ble_eq_true rfl) dX2_add_108 (fun zH zlocs zhw => ?_)
    obtain ⟨zM7, ze9, zhs⟩ := ltM_e zhs
    rw [← ze9] at zhw; clear ze9
    refine lv_aload_n zhx zhb dX2_add_111 rfl (lv_at zhl 0 rfl) ?_
    refine lv_dup zhx zhb dX2_add_112 rfl ?_
    refine x_get C zhw inlX2 rfl 9 7 (by decide) kw_7_6 rfl (wX_c9 h cI zM7) rfl dX2_add_113 ?_
    refine lv_iconst (v := 1) zhx zhb dX2_add_116 (by decide) ?_
    refine lv_iadd zhx zhb dX2_add_117 ?_
    refine x_put C zhw inlX2 rfl tyX2_ok nmX2 9 7 (by decide) kw_7_6 rfl rfl rfl (wX_c9 h cI zM7) (Nat.le_of_ble_eq_true rfl) (wX_s9_7 h cI zM7 _) dX2_add_118 (fun zH zlocs zhw => ?_)
    obtain ⟨zM8, ze9, zhs⟩ := ltM_e zhs
    rw [← ze9] at zhw; clear ze9
    refine lv_iconst (v := 1) zhx zhb dX2_add_121 (by decide) ?_
    cases zhs
    exact zhret _ _ _ _ dX2_add_122 (by rfl) zhw
  · replace zhs := br_F zhs zc9
    refine lv_iconst (v := 0) zhx zhb dX2_add_9 (by decide) ?_
    cases zhs
    exact zhret _ _ _ _ dX2_add_10 (by rfl) zhw

-- OffFirst$Told.takeFood in (4, (1,))
def sTold_takeFood_d (M : Mm) : Option (Int32 × Mm) :=
  (if (M 1 4) = 6 then (sText_isNumberWithin 0 0 3 M).bind fun zv16 =>
  (if zv16 = 0 then some (0, M)
  else (sText_number 1 M).bind fun zv31 =>
  (sCells_has_d zv31 M).bind fun zv32 =>
  (if zv32 = 0 then some (0, M)
  else (sText_isNumberWithin 2 0 99 M).bind fun zv45 =>
  (if zv45 = 0 then some (0, M)
  else (sText_isNumberWithin 3 1 240 M).bind fun zv57 =>
  (if zv57 = 0 then some (0, M)
  else (sText_isNumberWithin 4 0 99 M).bind fun zv68 =>
  (if zv68 = 0 then some (0, M)
  else (sText_isNumberWithin 5 0 3 M).bind fun zv78 =>
  (if zv78 = 0 then some (0, M)
  else (sText_number 0 M).bind fun zv87 =>
  (sText_number 1 M).bind fun zv88 =>
  (sText_number 2 M).bind fun zv89 =>
  (sText_number 3 M).bind fun zv90 =>
  (sText_number 4 M).bind fun zv91 =>
  (sText_number 5 M).bind fun zv92 =>
  (sFoods_add_d zv87 zv88 zv89 zv90 zv91 zv92 M).bind fun (zv93, zM94) =>
  (if zv93 = 0 then some (0, zM94)
  else some (1, zM94))))))))
  else some (0, M))
set_option maxHeartbeats 4000000 in
set_option maxRecDepth 100000 in
theorem cTold_takeFood_d (l : Launch) (D : va_G) (cI : ClassId) (h : Nat → Nat) (M : Mm) (r : Int32) (M' : Mm) (zhs : sTold_takeFood_d M = some (r, M')) : CtI l yX10_takeFood cX10_takeFood 2 (some .boolean) 4 D cI (wX h cI M) (wX h cI M') [.ref (h 4), .ref (h 1)] r := by
  unfold sTold_takeFood_d at zhs
  refine CtI_of (by decide +kernel) (Nat.le_of_ble_eq_true rfl) ⟨_, rfl⟩ ?_
  intro p e s m args below meth c A Q zls zH zlocs C zhw zhl zhret
  have zhx := C.1
  have zhb := C.2.1
  have zhown := C.2.2.2.2.1
  have zhtB := C.2.2.2.2.2.2.1
  have zhl : lv_has zls 2 [(0, .ref (h 4)), (1, .ref (h 1))] := zhl
  refine lv_aload_n zhx zhb dX10_takeFood_0 rfl (lv_at zhl 1 rfl) ?_
  refine x_getN C zhw inlX9 rfl 1 4 (by decide) (List.mem_of_getElem? (i := 3) rfl) rfl (wX_c1 h cI M) rfl dX10_takeFood_1 ?_
  refine lv_bipush (v := 6) zhx zhb dX10_takeFood_4 (by decide) ?_
  refine lv_icmp_ne (tgt := 122) zhx zhb dX10_takeFood_6 (by decide) (fun zc9 => ?_) (fun zc9 => ?_)
  · replace zhs := br_F zhs zc9
    refine lv_iconst (v := 0) zhx zhb dX10_takeFood_122 (by decide) ?_
    cases zhs
    exact zhret _ _ _ _ dX10_takeFood_123 (by rfl) zhw
  · replace zhs := br_T zhs zc9
    refine lv_aload_n zhx zhb dX10_takeFood_9 rfl (lv_at zhl 1 rfl) ?_
    refine lv_iconst (v := 0) zhx zhb dX10_takeFood_10 (by decide) ?_
    refine lv_iconst (v := 0) zhx zhb dX10_takeFood_11 (by decide) ?_
    refine lv_iconst (v := 3) zhx zhb dX10_takeFood_12 (by decide) ?_
    obtain ⟨zv16, zhp, zhs⟩ := bnd_e zhs
    refine x_cVI (As := [.int 0, .int 0, .int 3]) (rest := []) C zhw zhl (cText_isNumberWithin l D cI h 0 0 3 M zv16 zhp) (by decide) (by decide) kw_13_6 kw_13_7 kw_13_8 kw_1_15 kw_13_9 md_X9_isNumberWithin rfl 1 (wX_c1 h cI M) rfl rfl rfl rfl (Nat.le_of_ble_eq_true rfl) dX10_takeFood_13 (fun zH zlocs zhw hzv16 => ?_)
    refine lv_if_eq (tgt := 122) zhx zhb dX10_takeFood_16 (by decide) (fun zc9 => ?_) (fun zc9 => ?_)
    · replace zhs := br_T zhs zc9
      refine lv_iconst (v := 0) zhx zhb dX10_takeFood_122 (by decide) ?_
      cases zhs
      exact zhret _ _ _ _ dX10_takeFood_123 (by rfl) zhw
    · replace zhs := br_F zhs zc9
      refine lv_aload_n zhx zhb dX10_takeFood_19 rfl (lv_at zhl 0 rfl) ?_
      refine x_get C zhw inlX10 rfl 4 0 (by decide) kw_3_12 rfl (wX_c4 h cI M) rfl dX10_takeFood_20 ?_
      refine lv_aload_n zhx zhb dX10_takeFood_23 rfl (lv_at zhl 1 rfl) ?_
      refine lv_iconst (v := 1) zhx zhb dX10_takeFood_24 (by decide) ?_
      obtain ⟨zv31, zhp, zhs⟩ := bnd_e zhs
      refine x_cVI (As := [.int 1]) (rest := [.ref (h 5)]) C zhw zhl (cText_number l D cI h 1 M zv31 zhp) (by decide) (by decide) kw_13_14 kw_13_11 kw_13_12 kw_1_15 kw_13_13 md_X9_number rfl 1 (wX_c1 h cI M) rfl rfl rfl rfl (Nat.le_of_ble_eq_true rfl) dX10_takeFood_25 (fun zH zlocs zhw hn9 => ?_)
      obtain ⟨zv32, zhp, zhs⟩ := bnd_e zhs
      refine x_cVI (As := [.int zv31]) (rest := []) C zhw zhl (cCells_has_d l D cI h zv31 M zv32 zhp) (by decide) (by decide) kw_14_4 kw_14_5 kw_14_6 kw_3_11 kw_14_7 md_X0_has rfl 5 (wX_c5 h cI M) rfl rfl rfl rfl (Nat.le_of_ble_eq_true rfl) dX10_takeFood_28 (fun zH zlocs zhw hzv32 => ?_)
      refine lv_if_eq (tgt := 122) zhx zhb dX10_takeFood_31 (by decide) (fun zc9 => ?_) (fun zc9 => ?_)
      · replace zhs := br_T zhs zc9
        refine lv_iconst (v := 0) zhx zhb dX10_takeFood_122 (by decide) ?_
        cases zhs
        exact zhret _ _ _ _ dX10_takeFood_123 (by rfl) zhw
      · replace zhs := br_F zhs zc9
        refine lv_aload_n zhx zhb dX10_takeFood_34 rfl (lv_at zhl 1 rfl) ?_
        refine lv_iconst (v := 2) zhx zhb dX10_takeFood_35 (by decide) ?_
        refine lv_iconst (v := 0) zhx zhb dX10_takeFood_36 (by decide) ?_
        refine lv_bipush (v := 99) zhx zhb dX10_takeFood_37 (by decide) ?_
        obtain ⟨zv45, zhp, zhs⟩ := bnd_e zhs
        refine x_cVI (As := [.int 2, .int 0, .int 99]) (rest := []) C zhw zhl (cText_isNumberWithin l D cI h 2 0 99 M zv45 zhp) (by decide) (by decide) kw_13_6 kw_13_7 kw_13_8 kw_1_15 kw_13_9 md_X9_isNumberWithin rfl 1 (wX_c1 h cI M) rfl rfl rfl rfl (Nat.le_of_ble_eq_true rfl) dX10_takeFood_39 (fun zH zlocs zhw hzv45 => ?_)
        refine lv_if_eq (tgt := 122) zhx zhb dX10_takeFood_42 (by decide) (fun zc9 => ?_) (fun zc9 => ?_)
        · replace zhs := br_T zhs zc9
          refine lv_iconst (v := 0) zhx zhb dX10_takeFood_122 (by decide) ?_
          cases zhs
          exact zhret _ _ _ _ dX10_takeFood_123 (by rfl) zhw
        · replace zhs := br_F zhs zc9
          refine lv_aload_n zhx zhb dX10_takeFood_45 rfl (lv_at zhl 1 rfl) ?_
          refine lv_iconst (v := 3) zhx zhb dX10_takeFood_46 (by decide) ?_
          refine lv_iconst (v := 1) zhx zhb dX10_takeFood_47 (by decide) ?_
          refine lv_sipush (v := 240) zhx zhb dX10_takeFood_48 (by decide) ?_
          obtain ⟨zv57, zhp, zhs⟩ := bnd_e zhs
          refine x_cVI (As := [.int 3, .int 1, .int 240]) (rest := []) C zhw zhl (cText_isNumberWithin l D cI h 3 1 240 M zv57 zhp) (by decide) (by decide) kw_13_6 kw_13_7 kw_13_8 kw_1_15 kw_13_9 md_X9_isNumberWithin rfl 1 (wX_c1 h cI M) rfl rfl rfl rfl (Nat.le_of_ble_eq_true rfl) dX10_takeFood_51 (fun zH zlocs zhw hzv57 => ?_)
          refine lv_if_eq (tgt := 122) zhx zhb dX10_takeFood_54 (by decide) (fun zc9 => ?_) (fun zc9 => ?_)
          · replace zhs := br_T zhs zc9
            refine lv_iconst (v := 0) zhx zhb dX10_takeFood_122 (by decide) ?_
            cases zhs
            exact zhret _ _ _ _ dX10_takeFood_123 (by rfl) zhw
          · replace zhs := br_F zhs zc9
            refine lv_aload_n zhx zhb dX10_takeFood_57 rfl (lv_at zhl 1 rfl) ?_
            refine lv_iconst (v := 4) zhx zhb dX10_takeFood_58 (by decide) ?_
            refine lv_iconst (v := 0) zhx zhb dX10_takeFood_59 (by decide) ?_
            refine lv_bipush (v := 99) zhx zhb dX10_takeFood_60 (by decide) ?_
            obtain ⟨zv68, zhp, zhs⟩ := bnd_e zhs
            refine x_cVI (As := [.int 4, .int 0, .int 99]) (rest := []) C zhw zhl (cText_isNumberWithin l D cI h 4 0 99 M zv68 zhp) (by decide) (by decide) kw_13_6 kw_13_7 kw_13_8 kw_1_15 kw_13_9 md_X9_isNumberWithin rfl 1 (wX_c1 h cI M) rfl rfl rfl rfl (Nat.le_of_ble_eq_true rfl) dX10_takeFood_62 (fun zH zlocs zhw hzv68 => ?_)
            refine lv_if_eq (tgt := 122) zhx zhb dX10_takeFood_65 (by decide) (fun zc9 => ?_) (fun zc9 => ?_)
            · replace zhs := br_T zhs zc9
              refine lv_iconst (v := 0) zhx zhb dX10_takeFood_122 (by decide) ?_
              cases zhs
              exact zhret _ _ _ _ dX10_takeFood_123 (by rfl) zhw
            · replace zhs := br_F zhs zc9
              refine lv_aload_n zhx zhb dX10_takeFood_68 rfl (lv_at zhl 1 rfl) ?_
              refine lv_iconst (v := 5) zhx zhb dX10_takeFood_69 (by decide) ?_
              refine lv_iconst (v := 0) zhx zhb dX10_takeFood_70 (by decide) ?_
              refine lv_iconst (v := 3) zhx zhb dX10_takeFood_71 (by decide) ?_
              obtain ⟨zv78, zhp, zhs⟩ := bnd_e zhs
              refine x_cVI (As := [.int 5, .int 0, .int 3]) (rest := []) C zhw zhl (cText_isNumberWithin l D cI h 5 0 3 M zv78 zhp) (by decide) (by decide) kw_13_6 kw_13_7 kw_13_8 kw_1_15 kw_13_9 md_X9_isNumberWithin rfl 1 (wX_c1 h cI M) rfl rfl rfl rfl (Nat.le_of_ble_eq_true rfl) dX10_takeFood_72 (fun zH zlocs zhw hzv78 => ?_)
              refine lv_if_eq (tgt := 122) zhx zhb dX10_takeFood_75 (by decide) (fun zc9 => ?_) (fun zc9 => ?_)
              · replace zhs := br_T zhs zc9
                refine lv_iconst (v := 0) zhx zhb dX10_takeFood_122 (by decide) ?_
                cases zhs
                exact zhret _ _ _ _ dX10_takeFood_123 (by rfl) zhw
              · replace zhs := br_F zhs zc9
                refine lv_aload_n zhx zhb dX10_takeFood_78 rfl (lv_at zhl 0 rfl) ?_
                refine x_get C zhw inlX10 rfl 4 1 (by decide) kw_3_16 rfl (wX_c4 h cI M) rfl dX10_takeFood_79 ?_
                refine lv_aload_n zhx zhb dX10_takeFood_82 rfl (lv_at zhl 1 rfl) ?_
                refine lv_iconst (v := 0) zhx zhb dX10_takeFood_83 (by decide) ?_
                obtain ⟨zv87, zhp, zhs⟩ := bnd_e zhs
                refine x_cVI (As := [.int 0]) (rest := [.ref (h 9)]) C zhw zhl (cText_number l D cI h 0 M zv87 zhp) (by decide) (by decide) kw_13_14 kw_13_11 kw_13_12 kw_1_15 kw_13_13 md_X9_number rfl 1 (wX_c1 h cI M) rfl rfl rfl rfl (Nat.le_of_ble_eq_true rfl) dX10_takeFood_84 (fun zH zlocs zhw hn9 => ?_)
                refine lv_aload_n zhx zhb dX10_takeFood_87 rfl (lv_at zhl 1 rfl) ?_
                refine lv_iconst (v := 1) zhx zhb dX10_takeFood_88 (by decide) ?_
                obtain ⟨zv88, zhp, zhs⟩ := bnd_e zhs
                refine x_cVI (As := [.int 1]) (rest := [.int zv87, .ref (h 9)]) C zhw zhl (cText_number l D cI h 1 M zv88 zhp) (by decide) (by decide) kw_13_14 kw_13_11 kw_13_12 kw_1_15 kw_13_13 md_X9_number rfl 1 (wX_c1 h cI M) rfl rfl rfl rfl (Nat.le_of_ble_eq_true rfl) dX10_takeFood_89 (fun zH zlocs zhw hn9 => ?_)
                refine lv_aload_n zhx zhb dX10_takeFood_92 rfl (lv_at zhl 1 rfl) ?_
                refine lv_iconst (v := 2) zhx zhb dX10_takeFood_93 (by decide) ?_
                obtain ⟨zv89, zhp, zhs⟩ := bnd_e zhs
                refine x_cVI (As := [.int 2]) (rest := [.int zv88, .int zv87, .ref (h 9)]) C zhw zhl (cText_number l D cI h 2 M zv89 zhp) (by decide) (by decide) kw_13_14 kw_13_11 kw_13_12 kw_1_15 kw_13_13 md_X9_number rfl 1 (wX_c1 h cI M) rfl rfl rfl rfl (Nat.le_of_ble_eq_true rfl) dX10_takeFood_94 (fun zH zlocs zhw hn9 => ?_)
                refine lv_aload_n zhx zhb dX10_takeFood_97 rfl (lv_at zhl 1 rfl) ?_
                refine lv_iconst (v := 3) zhx zhb dX10_takeFood_98 (by decide) ?_
                obtain ⟨zv90, zhp, zhs⟩ := bnd_e zhs
                refine x_cVI (As := [.int 3]) (rest := [.int zv89, .int zv88, .int zv87, .ref (h 9)]) C zhw zhl (cText_number l D cI h 3 M zv90 zhp) (by decide) (by decide) kw_13_14 kw_13_11 kw_13_12 kw_1_15 kw_13_13 md_X9_number rfl 1 (wX_c1 h cI M) rfl rfl rfl rfl (Nat.le_of_ble_eq_true rfl) dX10_takeFood_99 (fun zH zlocs zhw hn9 => ?_)
                refine lv_aload_n zhx zhb dX10_takeFood_102 rfl (lv_at zhl 1 rfl) ?_
                refine lv_iconst (v := 4) zhx zhb dX10_takeFood_103 (by decide) ?_
                obtain ⟨zv91, zhp, zhs⟩ := bnd_e zhs
                refine x_cVI (As := [.int 4]) (rest := [.int zv90, .int zv89, .int zv88, .int zv87, .ref (h 9)]) C zhw zhl (cText_number l D cI h 4 M zv91 zhp) (by decide) (by decide) kw_13_14 kw_13_11 kw_13_12 kw_1_15 kw_13_13 md_X9_number rfl 1 (wX_c1 h cI M) rfl rfl rfl rfl (Nat.le_of_ble_eq_true rfl) dX10_takeFood_104 (fun zH zlocs zhw hn9 => ?_)
                refine lv_aload_n zhx zhb dX10_takeFood_107 rfl (lv_at zhl 1 rfl) ?_
                refine lv_iconst (v := 5) zhx zhb dX10_takeFood_108 (by decide) ?_
                obtain ⟨zv92, zhp, zhs⟩ := bnd_e zhs
                refine x_cVI (As := [.int 5]) (rest := [.int zv91, .int zv90, .int zv89, .int zv88, .int zv87, .ref (h 9)]) C zhw zhl (cText_number l D cI h 5 M zv92 zhp) (by decide) (by decide) kw_13_14 kw_13_11 kw_13_12 kw_1_15 kw_13_13 md_X9_number rfl 1 (wX_c1 h cI M) rfl rfl rfl rfl (Nat.le_of_ble_eq_true rfl) dX10_takeFood_109 (fun zH zlocs zhw hn9 => ?_)
                obtain ⟨⟨zv93, zM94⟩, zhp, zhs⟩ := bnd_e zhs
                try dsimp only at zhs
                refine x_cVI (As := [.int zv87, .int zv88, .int zv89, .int zv90, .int zv91, .int zv92]) (rest := []) C zhw zhl (cFoods_add_d l D cI h zv87 zv88 zv89 zv90 zv91 zv92 M zv93 zM94 zhp) (by decide) (by decide) kw_14_8 kw_7_3 kw_7_4 kw_3_15 kw_7_5 md_X2_add rfl 9 (wX_c9 h cI M) rfl rfl rfl rfl (Nat.le_of_ble_eq_true rfl) dX10_takeFood_112 (fun zH zlocs zhw hzv93 => ?_)
                refine lv_if_eq (tgt := 122) zhx zhb dX10_takeFood_115 (by decide) (fun zc9 => ?_) (fun zc9 => ?_)
                · replace zhs := br_T zhs zc9
                  refine lv_iconst (v := 0) zhx zhb dX10_takeFood_122 (by decide) ?_
                  cases zhs
                  exact zhret _ _ _ _ dX10_takeFood_123 (by rfl) zhw
                · replace zhs := br_F zhs zc9
                  refine lv_iconst (v := 1) zhx zhb dX10_takeFood_118 (by decide) ?_
                  refine lv_goto (tgt := 123) zhx zhb dX10_takeFood_119 (by decide) ?_
                  cases zhs
                  exact zhret _ _ _ _ dX10_takeFood_123 (by rfl) zhw

-- OffFirst$Party.add in (19, ())
def sParty_add_d (a1 : Int32) (a2 : Int32) (M : Mm) : Option (Int32 × Mm) :=
  (if (M 19 2) < 6 then ltM (putf 6 M 20 (M 19 2) a1) fun zM1 =>
  ltM (putf 6 zM1 21 (zM1 19 2) a2) fun zM2 =>
  ltM (mset zM2 19 2 ((zM2 19 2) + 1)) fun zM3 =>
  some (1, zM3)
  else some (0, M))
set_option maxHeartbeats 4000000 in
set_option maxRecDepth 100000 in
theorem cParty_add_d (l : Launch) (D : va_G) (cI : ClassId) (h : Nat → Nat) (a1 : Int32) (a2 : Int32) (M : Mm) (r : Int32) (M' : Mm) (zhs : sParty_add_d a1 a2 M = some (r, M')) : CtI l yX5_add cX5_add 3 (some .boolean) 2 D cI (wX h cI M) (wX h cI M') [.ref (h 19), .int a1, .int a2] r := by
  unfold sParty_add_d at zhs
  refine CtI_of (by decide +kernel) (Nat.le_of_ble_eq_true rfl) ⟨_, rfl⟩ ?_
  intro p e s m args below meth c A Q zls zH zlocs C zhw zhl zhret
  have zhx := C.1
  have zhb := C.2.1
  have zhown := C.2.2.2.2.1
  have zhtB := C.2.2.2.2.2.2.1
  have zhl : lv_has zls 3 [(0, .ref (h 19)), (1, .int a1), (2, .int a2)] := zhl
  refine lv_aload_n zhx zhb dX5_add_0 rfl (lv_at zhl 0 rfl) ?_
  refine x_get C zhw inlX5 rfl 19 2 (by decide) kw_12_4 rfl (wX_c19 h cI M) rfl dX5_add_1 ?_
  refine lv_bipush (v := 6) zhx zhb dX5_add_4 (by decide) ?_
  refine lv_icmp_lt (tgt := 11) zhx zhb dX5_add_6 (by decide) (fun zc9 => ?_) (fun zc9 => ?_)
  · replace zhs := br_T zhs zc9
    refine lv_aload_n zhx zhb dX5_add_11 rfl (lv_at zhl 0 rfl) ?_
    refine x_get C zhw inlX5 rfl 19 0 (by decide) kw_4_19 rfl (wX_c19 h cI M) rfl dX5_add_12 ?_
    refine lv_aload_n zhx zhb dX5_add_15 rfl (lv_at zhl 0 rfl) ?_
    refine x_get C zhw inlX5 rfl 19 2 (by decide) kw_12_4 rfl (wX_c19 h cI M) rfl dX5_add_16 ?_
    refine lv_iload_n zhx zhb dX5_add_19 rfl (lv_at zhl 1 rfl) ?_
    refine x_cSNV (As := [.ref (h 20), .int (M 19 2), .int a1]) (rest := []) C zhw zhl (c_put l D cI (wX h cI) M 20 6 (h 20) (wX_c20 h cI M) (fun j v => wX_a20 h cI M j v) (by decide) (M 19 2) a1) (by decide) (by decide) (List.mem_of_getElem? (i := 15) rfl) kw_7_0 kw_1_2 kw_7_1 md_X11_put rfl rfl (Nat.le_of_ble_eq_true rfl) dX5_add_20 (fun zH zlocs zhw => ?_)
    obtain ⟨zM1, ze9, zhs⟩ := ltM_e zhs
    rw [← ze9] at zhw; clear ze9
    refine lv_aload_n zhx zhb dX5_add_23 rfl (lv_at zhl 0 rfl) ?_
    refine x_get C zhw inlX5 rfl 19 1 (by decide) kw_4_20 rfl (wX_c19 h cI zM1) rfl dX5_add_24 ?_
    refine lv_aload_n zhx zhb dX5_add_27 rfl (lv_at zhl 0 rfl) ?_
    refine x_get C zhw inlX5 rfl 19 2 (by decide) kw_12_4 rfl (wX_c19 h cI zM1) rfl dX5_add_28 ?_
    refine lv_iload_n zhx zhb dX5_add_31 rfl (lv_at zhl 2 rfl) ?_
    refine x_cSNV (As := [.ref (h 21), .int (zM1 19 2), .int a2]) (rest := []) C zhw zhl (c_put l D cI (wX h cI) zM1 21 6 (h 21) (wX_c21 h cI zM1) (fun j v => wX_a21 h cI zM1 j v) (by decide) (zM1 19 2) a2) (by decide) (by decide) (List.mem_of_getElem? (i := 15) rfl) kw_7_0 kw_1_2 kw_7_1 md_X11_put rfl rfl (Nat.le_of_ble_eq_true rfl) dX5_add_32 (fun zH zlocs zhw => ?_)
    obtain ⟨zM2, ze9, zhs⟩ := ltM_e zhs
    rw [← ze9] at zhw; clear ze9
    refine lv_aload_n zhx zhb dX5_add_35 rfl (lv_at zhl 0 rfl) ?_
    refine lv_dup zhx zhb dX5_add_36 rfl ?_
    refine x_get C zhw inlX5 rfl 19 2 (by decide) kw_12_4 rfl (wX_c19 h cI zM2) rfl dX5_add_37 ?_
    refine lv_iconst (v := 1) zhx zhb dX5_add_40 (by decide) ?_
    refine lv_iadd zhx zhb dX5_add_41 ?_
    refine x_put C zhw inlX5 rfl tyX5_ok nmX5 19 2 (by decide) kw_12_4 rfl rfl rfl (wX_c19 h cI zM2) (Nat.le_of_ble_eq_true rfl) (wX_s19_2 h cI zM2 _) dX5_add_42 (fun zH zlocs zhw => ?_)
    obtain ⟨zM3, ze9, zhs⟩ := ltM_e zhs
    rw [← ze9] at zhw; clear ze9
    refine lv_iconst (v := 1) zhx zhb dX5_add_45 (by decide) ?_
    cases zhs
    exact zhret _ _ _ _ dX5_add_46 (by rfl) zhw
  · replace zhs := br_F zhs zc9
    refine lv_iconst (v := 0) zhx zhb dX5_add_9 (by decide) ?_
    cases zhs
    exact zhret _ _ _ _ dX5_add_10 (by rfl) zhw

-- OffFirst$Told.takeGuests in (4, (1,))
def sTold_takeGuests_d (M : Mm) : Option (Int32 × Mm) :=
  (if (M 1 4) = 2 then (sText_isNumberWithin 0 0 9 M).bind fun zv7 =>
  (if zv7 = 0 then some (0, M)
  else (sText_isNumberWithin 1 1 99 M).bind fun zv13 =>
  (if zv13 = 0 then some (0, M)
  else (sText_number 0 M).bind fun zv18 =>
  (sText_number 1 M).bind fun zv19 =>
  (sParty_add_d zv18 zv19 M).bind fun (zv20, zM21) =>
  (if zv20 = 0 then some (0, zM21)
  else some (1, zM21))))
  else some (0, M))
set_option maxHeartbeats 4000000 in
set_option maxRecDepth 100000 in
theorem cTold_takeGuests_d (l : Launch) (D : va_G) (cI : ClassId) (h : Nat → Nat) (M : Mm) (r : Int32) (M' : Mm) (zhs : sTold_takeGuests_d M = some (r, M')) : CtI l yX10_takeGuests cX10_takeGuests 2 (some .boolean) 4 D cI (wX h cI M) (wX h cI M') [.ref (h 4), .ref (h 1)] r := by
  unfold sTold_takeGuests_d at zhs
  refine CtI_of (by decide +kernel) (Nat.le_of_ble_eq_true rfl) ⟨_, rfl⟩ ?_
  intro p e s m args below meth c A Q zls zH zlocs C zhw zhl zhret
  have zhx := C.1
  have zhb := C.2.1
  have zhown := C.2.2.2.2.1
  have zhtB := C.2.2.2.2.2.2.1
  have zhl : lv_has zls 2 [(0, .ref (h 4)), (1, .ref (h 1))] := zhl
  refine lv_aload_n zhx zhb dX10_takeGuests_0 rfl (lv_at zhl 1 rfl) ?_
  refine x_getN C zhw inlX9 rfl 1 4 (by decide) (List.mem_of_getElem? (i := 3) rfl) rfl (wX_c1 h cI M) rfl dX10_takeGuests_1 ?_
  refine lv_iconst (v := 2) zhx zhb dX10_takeGuests_4 (by decide) ?_
  refine lv_icmp_ne (tgt := 54) zhx zhb dX10_takeGuests_5 (by decide) (fun zc9 => ?_) (fun zc9 => ?_)
  · replace zhs := br_F zhs zc9
    refine lv_iconst (v := 0) zhx zhb dX10_takeGuests_54 (by decide) ?_
    cases zhs
    exact zhret _ _ _ _ dX10_takeGuests_55 (by rfl) zhw
  · replace zhs := br_T zhs zc9
    refine lv_aload_n zhx zhb dX10_takeGuests_8 rfl (lv_at zhl 1 rfl) ?_
    refine lv_iconst (v := 0) zhx zhb dX10_takeGuests_9 (by decide) ?_
    refine lv_iconst (v := 0) zhx zhb dX10_takeGuests_10 (by decide) ?_
    refine lv_bipush (v := 9) zhx zhb dX10_takeGuests_11 (by decide) ?_
    obtain ⟨zv7, zhp, zhs⟩ := bnd_e zhs
    refine x_cVI (As := [.int 0, .int 0, .int 9]) (rest := []) C zhw zhl (cText_isNumberWithin l D cI h 0 0 9 M zv7 zhp) (by decide) (by decide) kw_13_6 kw_13_7 kw_13_8 kw_1_15 kw_13_9 md_X9_isNumberWithin rfl 1 (wX_c1 h cI M) rfl rfl rfl rfl (Nat.le_of_ble_eq_true rfl) dX10_takeGuests_13 (fun zH zlocs zhw hzv7 => ?_)
    refine lv_if_eq (tgt := 54) zhx zhb dX10_takeGuests_16 (by decide) (fun zc9 => ?_) (fun zc9 => ?_)
    · replace zhs := br_T zhs zc9
      refine lv_iconst (v := 0) zhx zhb dX10_takeGuests_54 (by decide) ?_
      cases zhs
      exact zhret _ _ _ _ dX10_takeGuests_55 (by rfl) zhw
    · replace zhs := br_F zhs zc9
      refine lv_aload_n zhx zhb dX10_takeGuests_19 rfl (lv_at zhl 1 rfl) ?_
      refine lv_iconst (v := 1) zhx zhb dX10_takeGuests_20 (by decide) ?_
      refine lv_iconst (v := 1) zhx zhb dX10_takeGuests_21 (by decide) ?_
      refine lv_bipush (v := 99) zhx zhb dX10_takeGuests_22 (by decide) ?_
      obtain ⟨zv13, zhp, zhs⟩ := bnd_e zhs
      refine x_cVI (As := [.int 1, .int 1, .int 99]) (rest := []) C zhw zhl (cText_isNumberWithin l D cI h 1 1 99 M zv13 zhp) (by decide) (by decide) kw_13_6 kw_13_7 kw_13_8 kw_1_15 kw_13_9 md_X9_isNumberWithin rfl 1 (wX_c1 h cI M) rfl rfl rfl rfl (Nat.le_of_ble_eq_true rfl) dX10_takeGuests_24 (fun zH zlocs zhw hzv13 => ?_)
      refine lv_if_eq (tgt := 54) zhx zhb dX10_takeGuests_27 (by decide) (fun zc9 => ?_) (fun zc9 => ?_)
      · replace zhs := br_T zhs zc9
        refine lv_iconst (v := 0) zhx zhb dX10_takeGuests_54 (by decide) ?_
        cases zhs
        exact zhret _ _ _ _ dX10_takeGuests_55 (by rfl) zhw
      · replace zhs := br_F zhs zc9
        refine lv_aload_n zhx zhb dX10_takeGuests_30 rfl (lv_at zhl 0 rfl) ?_
        refine x_get C zhw inlX10 rfl 4 6 (by decide) kw_3_22 rfl (wX_c4 h cI M) rfl dX10_takeGuests_31 ?_
        refine lv_aload_n zhx zhb dX10_takeGuests_34 rfl (lv_at zhl 1 rfl) ?_
        refine lv_iconst (v := 0) zhx zhb dX10_takeGuests_35 (by decide) ?_
        obtain ⟨zv18, zhp, zhs⟩ := bnd_e zhs
        refine x_cVI (As := [.int 0]) (rest := [.ref (h 19)]) C zhw zhl (cText_number l D cI h 0 M zv18 zhp) (by decide) (by decide) kw_13_14 kw_13_11 kw_13_12 kw_1_15 kw_13_13 md_X9_number rfl 1 (wX_c1 h cI M) rfl rfl rfl rfl (Nat.le_of_ble_eq_true rfl) dX10_takeGuests_36 (fun zH zlocs zhw hn9 => ?_)
        refine lv_aload_n zhx zhb dX10_takeGuests_39 rfl (lv_at zhl 1 rfl) ?_
        refine lv_iconst (v := 1) zhx zhb dX10_takeGuests_40 (by decide) ?_
        obtain ⟨zv19, zhp, zhs⟩ := bnd_e zhs
        refine x_cVI (As := [.int 1]) (rest := [.int zv18, .ref (h 19)]) C zhw zhl (cText_number l D cI h 1 M zv19 zhp) (by decide) (by decide) kw_13_14 kw_13_11 kw_13_12 kw_1_15 kw_13_13 md_X9_number rfl 1 (wX_c1 h cI M) rfl rfl rfl rfl (Nat.le_of_ble_eq_true rfl) dX10_takeGuests_41 (fun zH zlocs zhw hn9 => ?_)
        obtain ⟨⟨zv20, zM21⟩, zhp, zhs⟩ := bnd_e zhs
        try dsimp only at zhs
        refine x_cVI (As := [.int zv18, .int zv19]) (rest := []) C zhw zhl (cParty_add_d l D cI h zv18 zv19 M zv20 zM21 zhp) (by decide) (by decide) kw_14_21 kw_14_22 kw_14_23 kw_3_21 kw_15_0 md_X5_add rfl 19 (wX_c19 h cI M) rfl rfl rfl rfl (Nat.le_of_ble_eq_true rfl) dX10_takeGuests_44 (fun zH zlocs zhw hzv20 => ?_)
        refine lv_if_eq (tgt := 54) zhx zhb dX10_takeGuests_47 (by decide) (fun zc9 => ?_) (fun zc9 => ?_)
        · replace zhs := br_T zhs zc9
          refine lv_iconst (v := 0) zhx zhb dX10_takeGuests_54 (by decide) ?_
          cases zhs
          exact zhret _ _ _ _ dX10_takeGuests_55 (by rfl) zhw
        · replace zhs := br_F zhs zc9
          refine lv_iconst (v := 1) zhx zhb dX10_takeGuests_50 (by decide) ?_
          refine lv_goto (tgt := 55) zhx zhb dX10_takeGuests_51 (by decide) ?_
          cases zhs
          exact zhret _ _ _ _ dX10_takeGuests_55 (by rfl) zhw

-- OffFirst$Cells.openIn in (5, ())
def sCells_openIn_d (a1 : Int32) (M : Mm) : Option Mm :=
  ltM (mset M 5 4 ((M 5 4) ||| (1 <<< (a1 &&& 31)))) fun zM1 =>
  some zM1
set_option maxHeartbeats 4000000 in
set_option maxRecDepth 100000 in
theorem cCells_openIn_d (l : Launch) (D : va_G) (cI : ClassId) (h : Nat → Nat) (a1 : Int32) (M : Mm) (M' : Mm) (zhs : sCells_openIn_d a1 M = some M') : CtV l yX0_openIn cX0_openIn 2 1 D cI (wX h cI M) (wX h cI M') [.ref (h 5), .int a1] := by
  unfold sCells_openIn_d at zhs
  refine CtV_of (by decide +kernel) (Nat.le_of_ble_eq_true rfl) ?_
  intro p e s m args below meth c A Q zls zH zlocs C zhw zhl zhret
  have zhx := C.1
  have zhb := C.2.1
  have zhown := C.2.2.2.2.1
  have zhtB := C.2.2.2.2.2.2.1
  have zhl : lv_has zls 2 [(0, .ref (h 5)), (1, .int a1)] := zhl
  refine lv_aload_n zhx zhb dX0_openIn_0 rfl (lv_at zhl 0 rfl) ?_
  refine lv_dup zhx zhb dX0_openIn_1 rfl ?_
  refine x_get C zhw inlX0 rfl 5 4 (by decide) kw_11_19 rfl (wX_c5 h cI M) rfl dX0_openIn_2 ?_
  refine lv_iconst (v := 1) zhx zhb dX0_openIn_5 (by decide) ?_
  refine lv_iload_n zhx zhb dX0_openIn_6 rfl (lv_at zhl 1 rfl) ?_
  refine lv_ishl zhx zhb dX0_openIn_7 ?_
  refine lv_ior zhx zhb dX0_openIn_8 ?_
  refine x_put C zhw inlX0 rfl tyX0_ok nmX0 5 4 (by decide) kw_11_19 rfl rfl rfl (wX_c5 h cI M) (Nat.le_of_ble_eq_true rfl) (wX_s5_4 h cI M _) dX0_openIn_9 (fun zH zlocs zhw => ?_)
  obtain ⟨zM1, ze9, zhs⟩ := ltM_e zhs
  rw [← ze9] at zhw; clear ze9
  cases zhs
  exact zhret _ _ _ _ dX0_openIn_12 zhw

-- OffFirst$Told.takeOpenedHour in (4, (1,))
def sTold_takeOpenedHour_d (M : Mm) : Option (Int32 × Mm) :=
  (if (M 1 4) = 1 then (sText_isNumberWithin 0 0 23 M).bind fun zv1 =>
  (if zv1 = 0 then some (0, M)
  else (sText_number 0 M).bind fun zv2 =>
  (sCells_openIn_d zv2 M).bind fun zM3 =>
  some (1, zM3))
  else some (0, M))
set_option maxHeartbeats 4000000 in
set_option maxRecDepth 100000 in
theorem cTold_takeOpenedHour_d (l : Launch) (D : va_G) (cI : ClassId) (h : Nat → Nat) (M : Mm) (r : Int32) (M' : Mm) (zhs : sTold_takeOpenedHour_d M = some (r, M')) : CtI l yX10_takeOpenedHour cX10_takeOpenedHour 2 (some .boolean) 4 D cI (wX h cI M) (wX h cI M') [.ref (h 4), .ref (h 1)] r := by
  unfold sTold_takeOpenedHour_d at zhs
  refine CtI_of (by decide +kernel) (Nat.le_of_ble_eq_true rfl) ⟨_, rfl⟩ ?_
  intro p e s m args below meth c A Q zls zH zlocs C zhw zhl zhret
  have zhx := C.1
  have zhb := C.2.1
  have zhown := C.2.2.2.2.1
  have zhtB := C.2.2.2.2.2.2.1
  have zhl : lv_has zls 2 [(0, .ref (h 4)), (1, .ref (h 1))] := zhl
  refine lv_aload_n zhx zhb dX10_takeOpenedHour_0 rfl (lv_at zhl 1 rfl) ?_
  refine x_getN C zhw inlX9 rfl 1 4 (by decide) (List.mem_of_getElem? (i := 3) rfl) rfl (wX_c1 h cI M) rfl dX10_takeOpenedHour_1 ?_
  refine lv_iconst (v := 1) zhx zhb dX10_takeOpenedHour_4 (by decide) ?_
  refine lv_icmp_ne (tgt := 19) zhx zhb dX10_takeOpenedHour_5 (by decide) (fun zc9 => ?_) (fun zc9 => ?_)
  · replace zhs := br_F zhs zc9
    refine lv_iconst (v := 0) zhx zhb dX10_takeOpenedHour_19 (by decide) ?_
    cases zhs
    exact zhret _ _ _ _ dX10_takeOpenedHour_20 (by rfl) zhw
  · replace zhs := br_T zhs zc9
    refine lv_aload_n zhx zhb dX10_takeOpenedHour_8 rfl (lv_at zhl 1 rfl) ?_
    refine lv_iconst (v := 0) zhx zhb dX10_takeOpenedHour_9 (by decide) ?_
    refine lv_iconst (v := 0) zhx zhb dX10_takeOpenedHour_10 (by decide) ?_
    refine lv_bipush (v := 23) zhx zhb dX10_takeOpenedHour_11 (by decide) ?_
    obtain ⟨zv1, zhp, zhs⟩ := bnd_e zhs
    refine x_cVI (As := [.int 0, .int 0, .int 23]) (rest := []) C zhw zhl (cText_isNumberWithin l D cI h 0 0 23 M zv1 zhp) (by decide) (by decide) kw_13_6 kw_13_7 kw_13_8 kw_1_15 kw_13_9 md_X9_isNumberWithin rfl 1 (wX_c1 h cI M) rfl rfl rfl rfl (Nat.le_of_ble_eq_true rfl) dX10_takeOpenedHour_13 (fun zH zlocs zhw hzv1 => ?_)
    refine lv_if_ne (tgt := 21) zhx zhb dX10_takeOpenedHour_16 (by decide) (fun zc9 => ?_) (fun zc9 => ?_)
    · replace zhs := br_F zhs zc9
      refine lv_aload_n zhx zhb dX10_takeOpenedHour_21 rfl (lv_at zhl 0 rfl) ?_
      refine x_get C zhw inlX10 rfl 4 0 (by decide) kw_3_12 rfl (wX_c4 h cI M) rfl dX10_takeOpenedHour_22 ?_
      refine lv_aload_n zhx zhb dX10_takeOpenedHour_25 rfl (lv_at zhl 1 rfl) ?_
      refine lv_iconst (v := 0) zhx zhb dX10_takeOpenedHour_26 (by decide) ?_
      obtain ⟨zv2, zhp, zhs⟩ := bnd_e zhs
      refine x_cVI (As := [.int 0]) (rest := [.ref (h 5)]) C zhw zhl (cText_number l D cI h 0 M zv2 zhp) (by decide) (by decide) kw_13_14 kw_13_11 kw_13_12 kw_1_15 kw_13_13 md_X9_number rfl 1 (wX_c1 h cI M) rfl rfl rfl rfl (Nat.le_of_ble_eq_true rfl) dX10_takeOpenedHour_27 (fun zH zlocs zhw hn9 => ?_)
      obtain ⟨zM3, zhp, zhs⟩ := bnd_e zhs
      refine x_cVV (As := [.int zv2]) (rest := []) C zhw zhl (cCells_openIn_d l D cI h zv2 M zM3 zhp) (by decide) (by decide) kw_13_20 kw_13_21 kw_13_22 kw_3_11 kw_13_23 md_X0_openIn rfl 5 (wX_c5 h cI M) rfl rfl rfl rfl (Nat.le_of_ble_eq_true rfl) dX10_takeOpenedHour_30 (fun zH zlocs zhw => ?_)
      refine lv_iconst (v := 1) zhx zhb dX10_takeOpenedHour_33 (by decide) ?_
      cases zhs
      exact zhret _ _ _ _ dX10_takeOpenedHour_34 (by rfl) zhw
    · replace zhs := br_T zhs zc9
      refine lv_iconst (v := 0) zhx zhb dX10_takeOpenedHour_19 (by decide) ?_
      cases zhs
      exact zhret _ _ _ _ dX10_takeOpenedHour_20 (by rfl) zhw

