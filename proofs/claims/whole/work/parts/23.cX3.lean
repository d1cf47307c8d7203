-- OffFirst$Told.takeDish in (22, (1,))
def sTold_takeDish_l (M : Mm) : Option (Int32 × Mm) :=
  (if (M 1 4) = 1 then (sText_isNumberWithin 0 1 15 M).bind fun zv1 =>
  (if zv1 = 0 then some (0, M)
  else (if (M 22 3) < 5 then (sText_number 0 M).bind fun zv2 =>
  ltM (putf 5 M 35 (M 22 3) zv2) fun zM3 =>
  ltM (mset zM3 22 3 ((zM3 22 3) + 1)) fun zM4 =>
  some (1, zM4)
  else some (0, M)))
  else some (0, M))
set_option maxHeartbeats 4000000 in
set_option maxRecDepth 100000 in
theorem cTold_takeDish_l (l : Launch) (D : va_G) (cI : ClassId) (h : Nat → Nat) (M : Mm) (r : Int32) (M' : Mm) (zhs : sTold_takeDish_l M = some (r, M')) : CtI l yX10_takeDish cX10_takeDish 2 (some .boolean) 4 D cI (wX h cI M) (wX h cI M') [.ref (h 22), .ref (h 1)] r := by
  unfold sTold_takeDish_l at zhs
  refine CtI_of (by decide +kernel) (Nat.le_of_ble_eq_true rfl) ⟨_, rfl⟩ ?_
  intro p e s m args below meth c A Q zls zH zlocs C zhw zhl zhret
  have zhx := C.1
  have zhb := C.2.1
  have zhown := C.2.2.2.2.1
  have zhtB := C.2.2.2.2.2.2.1
  have zhl : lv_has zls 2 [(0, .ref (h 22)), (1, .ref (h 1))] := zhl
  refine lv_aload_n zhx zhb dX10_takeDish_0 rfl (lv_at zhl 1 rfl) ?_
  refine x_getN C zhw inlX9 rfl 1 4 (by decide) (List.mem_of_getElem? (i := 3) rfl) rfl (wX_c1 h cI M) rfl dX10_takeDish_1 ?_
  refine lv_iconst (v := 1) zhx zhb dX10_takeDish_4 (by decide) ?_
  refine lv_icmp_ne (tgt := 27) zhx zhb dX10_takeDish_5 (by decide) (fun zc9 => ?_) (fun zc9 => ?_)
  · replace zhs := br_F zhs zc9
    refine lv_iconst (v := 0) zhx zhb dX10_takeDish_27 (by decide) ?_
    cases zhs
    exact zhret _ _ _ _ dX10_takeDish_28 (by rfl) zhw
  · replace zhs := br_T zhs zc9
    refine lv_aload_n zhx zhb dX10_takeDish_8 rfl (lv_at zhl 1 rfl) ?_
    refine lv_iconst (v := 0) zhx zhb dX10_takeDish_9 (by decide) ?_
    refine lv_iconst (v := 1) zhx zhb dX10_takeDish_10 (by decide) ?_
    refine lv_bipush (v := 15) zhx zhb dX10_takeDish_11 (by decide) ?_
    obtain ⟨zv1, zhp, zhs⟩ := bnd_e zhs
    refine x_cVI (As := [.int 0, .int 1, .int 15]) (rest := []) C zhw zhl (cText_isNumberWithin l D cI h 0 1 15 M zv1 zhp) (by decide) (by decide) kw_13_6 kw_13_7 kw_13_8 kw_1_15 kw_13_9 md_X9_isNumberWithin rfl 1 (wX_c1 h cI M) rfl rfl rfl rfl (Nat.le_of_ble_eq_true rfl) dX10_takeDish_13 (fun zH zlocs zhw hzv1 => ?_)
    refine lv_if_eq (tgt := 27) zhx zhb dX10_takeDish_16 (by decide) (fun zc9 => ?_) (fun zc9 => ?_)
    · replace zhs := br_T zhs zc9
      refine lv_iconst (v := 0) zhx zhb dX10_takeDish_27 (by decide) ?_
      cases zhs
      exact zhret _ _ _ _ dX10_takeDish_28 (by rfl) zhw
    · replace zhs := br_F zhs zc9
      refine lv_aload_n zhx zhb dX10_takeDish_19 rfl (lv_at zhl 0 rfl) ?_
      refine x_get C zhw inlX10 rfl 22 3 (by decide) kw_11_13 rfl (wX_c22 h cI M) rfl dX10_takeDish_20 ?_
      refine lv_iconst (v := 5) zhx zhb dX10_takeDish_23 (by decide) ?_
      refine lv_icmp_lt (tgt := 29) zhx zhb dX10_takeDish_24 (by decide) (fun zc9 => ?_) (fun zc9 => ?_)
      · replace zhs := br_T zhs zc9
        refine lv_aload_n zhx zhb dX10_takeDish_29 rfl (lv_at zhl 0 rfl) ?_
        refine x_get C zhw inlX10 rfl 22 2 (by decide) kw_3_17 rfl (wX_c22 h cI M) rfl dX10_takeDish_30 ?_
        refine lv_aload_n zhx zhb dX10_takeDish_33 rfl (lv_at zhl 0 rfl) ?_
        refine x_get C zhw inlX10 rfl 22 3 (by decide) kw_11_13 rfl (wX_c22 h cI M) rfl dX10_takeDish_34 ?_
        refine lv_aload_n zhx zhb dX10_takeDish_37 rfl (lv_at zhl 1 rfl) ?_
        refine lv_iconst (v := 0) zhx zhb dX10_takeDish_38 (by decide) ?_
        obtain ⟨zv2, zhp, zhs⟩ := bnd_e zhs
        refine x_cVI (As := [.int 0]) (rest := [.int (M 22 3), .ref (h 35)]) C zhw zhl (cText_number l D cI h 0 M zv2 zhp) (by decide) (by decide) kw_13_14 kw_13_11 kw_13_12 kw_1_15 kw_13_13 md_X9_number rfl 1 (wX_c1 h cI M) rfl rfl rfl rfl (Nat.le_of_ble_eq_true rfl) dX10_takeDish_39 (fun zH zlocs zhw hn9 => ?_)
        refine x_cSNV (As := [.ref (h 35), .int (M 22 3), .int zv2]) (rest := []) C zhw zhl (c_put l D cI (wX h cI) M 35 5 (h 35) (wX_c35 h cI M) (fun j v => wX_a35 h cI M j v) (by decide) (M 22 3) zv2) (by decide) (by decide) (List.mem_of_getElem? (i := 14) rfl) kw_7_0 kw_1_2 kw_7_1 md_X11_put rfl rfl (Nat.le_of_ble_eq_true rfl) dX10_takeDish_42 (fun zH zlocs zhw => ?_)
        obtain ⟨zM3, ze9, zhs⟩ := ltM_e zhs
        rw [← ze9] at zhw; clear ze9
        refine lv_aload_n zhx zhb dX10_takeDish_45 rfl (lv_at zhl 0 rfl) ?_
        refine lv_dup zhx zhb dX10_takeDish_46 rfl ?_
        refine x_get C zhw inlX10 rfl 22 3 (by decide) kw_11_13 rfl (wX_c22 h cI zM3) rfl dX10_takeDish_47 ?_
        refine lv_iconst (v := 1) zhx zhb dX10_takeDish_50 (by decide) ?_
        refine lv_iadd zhx zhb dX10_takeDish_51 ?_
        refine x_put C zhw inlX10 rfl tyX10_ok nmX10 22 3 (by decide) kw_11_13 rfl rfl rfl (wX_c22 h cI zM3) (Nat.le_of_ble_eq_true rfl) (wX_s22_3 h cI zM3 _) dX10_takeDish_52 (fun zH zlocs zhw => ?_)
        obtain ⟨zM4, ze9, zhs⟩ := ltM_e zhs
        rw [← ze9] at zhw; clear ze9
        refine lv_iconst (v := 1) zhx zhb dX10_takeDish_55 (by decide) ?_
        cases zhs
        exact zhret _ _ _ _ dX10_takeDish_56 (by rfl) zhw
      · replace zhs := br_F zhs zc9
        refine lv_iconst (v := 0) zhx zhb dX10_takeDish_27 (by decide) ?_
        cases zhs
        exact zhret _ _ _ _ dX10_takeDish_28 (by rfl) zhw

-- OffFirst$Told.takeEater in (22, (1,))
def sTold_takeEater_l (M : Mm) : Option (Int32 × Mm) :=
  (if (M 1 4) = 1 then (sText_isNumberWithin 0 0 15 M).bind fun zv1 =>
  (if zv1 = 0 then some (0, M)
  else (if (M 22 5) < 4 then (sText_number 0 M).bind fun zv2 =>
  ltM (putf 4 M 36 (M 22 5) zv2) fun zM3 =>
  ltM (mset zM3 22 5 ((zM3 22 5) + 1)) fun zM4 =>
  some (1, zM4)
  else some (0, M)))
  else some (0, M))
set_option maxHeartbeats 4000000 in
set_option maxRecDepth 100000 in
theorem cTold_takeEater_l (l : Launch) (D : va_G) (cI : ClassId) (h : Nat → Nat) (M : Mm) (r : Int32) (M' : Mm) (zhs : sTold_takeEater_l M = some (r, M')) : CtI l yX10_takeEater cX10_takeEater 2 (some .boolean) 4 D cI (wX h cI M) (wX h cI M') [.ref (h 22), .ref (h 1)] r := by
  unfold sTold_takeEater_l at zhs
  refine CtI_of (by decide +kernel) (Nat.le_of_ble_eq_true rfl) ⟨_, rfl⟩ ?_
  intro p e s m args below meth c A Q zls zH zlocs C zhw zhl zhret
  have zhx := C.1
  have zhb := C.2.1
  have zhown := C.2.2.2.2.1
  have zhtB := C.2.2.2.2.2.2.1
  have zhl : lv_has zls 2 [(0, .ref (h 22)), (1, .ref (h 1))] := zhl
  refine lv_aload_n zhx zhb dX10_takeEater_0 rfl (lv_at zhl 1 rfl) ?_
  refine x_getN C zhw inlX9 rfl 1 4 (by decide) (List.mem_of_getElem? (i := 3) rfl) rfl (wX_c1 h cI M) rfl dX10_takeEater_1 ?_
  refine lv_iconst (v := 1) zhx zhb dX10_takeEater_4 (by decide) ?_
  refine lv_icmp_ne (tgt := 27) zhx zhb dX10_takeEater_5 (by decide) (fun zc9 => ?_) (fun zc9 => ?_)
  · replace zhs := br_F zhs zc9
    refine lv_iconst (v := 0) zhx zhb dX10_takeEater_27 (by decide) ?_
    cases zhs
    exact zhret _ _ _ _ dX10_takeEater_28 (by rfl) zhw
  · replace zhs := br_T zhs zc9
    refine lv_aload_n zhx zhb dX10_takeEater_8 rfl (lv_at zhl 1 rfl) ?_
    refine lv_iconst (v := 0) zhx zhb dX10_takeEater_9 (by decide) ?_
    refine lv_iconst (v := 0) zhx zhb dX10_takeEater_10 (by decide) ?_
    refine lv_bipush (v := 15) zhx zhb dX10_takeEater_11 (by decide) ?_
    obtain ⟨zv1, zhp, zhs⟩ := bnd_e zhs
    refine x_cVI (As := [.int 0, .int 0, .int 15]) (rest := []) C zhw zhl (cText_isNumberWithin l D cI h 0 0 15 M zv1 zhp) (by decide) (by decide) kw_13_6 kw_13_7 kw_13_8 kw_1_15 kw_13_9 md_X9_isNumberWithin rfl 1 (wX_c1 h cI M) rfl rfl rfl rfl (Nat.le_of_ble_eq_true rfl) dX10_takeEater_13 (fun zH zlocs zhw hzv1 => ?_)
    refine lv_if_eq (tgt := 27) zhx zhb dX10_takeEater_16 (by decide) (fun zc9 => ?_) (fun zc9 => ?_)
    · replace zhs := br_T zhs zc9
      refine lv_iconst (v := 0) zhx zhb dX10_takeEater_27 (by decide) ?_
      cases zhs
      exact zhret _ _ _ _ dX10_takeEater_28 (by rfl) zhw
    · replace zhs := br_F zhs zc9
      refine lv_aload_n zhx zhb dX10_takeEater_19 rfl (lv_at zhl 0 rfl) ?_
      refine x_get C zhw inlX10 rfl 22 5 (by decide) kw_11_14 rfl (wX_c22 h cI M) rfl dX10_takeEater_20 ?_
      refine lv_iconst (v := 4) zhx zhb dX10_takeEater_23 (by decide) ?_
      refine lv_icmp_lt (tgt := 29) zhx zhb dX10_takeEater_24 (by decide) (fun zc9 => ?_) (fun zc9 => ?_)
      · replace zhs := br_T zhs zc9
        refine lv_aload_n zhx zhb dX10_takeEater_29 rfl (lv_at zhl 0 rfl) ?_
        refine x_get C zhw inlX10 rfl 22 4 (by decide) kw_3_18 rfl (wX_c22 h cI M) rfl dX10_takeEater_30 ?_
        refine lv_aload_n zhx zhb dX10_takeEater_33 rfl (lv_at zhl 0 rfl) ?_
        refine x_get C zhw inlX10 rfl 22 5 (by decide) kw_11_14 rfl (wX_c22 h cI M) rfl dX10_takeEater_34 ?_
        refine lv_aload_n zhx zhb dX10_takeEater_37 rfl (lv_at zhl 1 rfl) ?_
        refine lv_iconst (v := 0) zhx zhb dX10_takeEater_38 (by decide) ?_
        obtain ⟨zv2, zhp, zhs⟩ := bnd_e zhs
        refine x_cVI (As := [.int 0]) (rest := [.int (M 22 5), .ref (h 36)]) C zhw zhl (cText_number l D cI h 0 M zv2 zhp) (by decide) (by decide) kw_13_14 kw_13_11 kw_13_12 kw_1_15 kw_13_13 md_X9_number rfl 1 (wX_c1 h cI M) rfl rfl rfl rfl (Nat.le_of_ble_eq_true rfl) dX10_takeEater_39 (fun zH zlocs zhw hn9 => ?_)
        refine x_cSNV (As := [.ref (h 36), .int (M 22 5), .int zv2]) (rest := []) C zhw zhl (c_put l D cI (wX h cI) M 36 4 (h 36) (wX_c36 h cI M) (fun j v => wX_a36 h cI M j v) (by decide) (M 22 5) zv2) (by decide) (by decide) (List.mem_of_getElem? (i := 14) rfl) kw_7_0 kw_1_2 kw_7_1 md_X11_put rfl rfl (Nat.le_of_ble_eq_true rfl) dX10_takeEater_42 (fun zH zlocs zhw => ?_)
        obtain ⟨zM3, ze9, zhs⟩ := ltM_e zhs
        rw [← ze9] at zhw; clear ze9
        refine lv_aload_n zhx zhb dX10_takeEater_45 rfl (lv_at zhl 0 rfl) ?_
        refine lv_dup zhx zhb dX10_takeEater_46 rfl ?_
        refine x_get C zhw inlX10 rfl 22 5 (by decide) kw_11_14 rfl (wX_c22 h cI zM3) rfl dX10_takeEater_47 ?_
        refine lv_iconst (v := 1) zhx zhb dX10_takeEater_50 (by decide) ?_
        refine lv_iadd zhx zhb dX10_takeEater_51 ?_
        refine x_put C zhw inlX10 rfl tyX10_ok nmX10 22 5 (by decide) kw_11_14 rfl rfl rfl (wX_c22 h cI zM3) (Nat.le_of_ble_eq_true rfl) (wX_s22_5 h cI zM3 _) dX10_takeEater_52 (fun zH zlocs zhw => ?_)
        obtain ⟨zM4, ze9, zhs⟩ := ltM_e zhs
        rw [← ze9] at zhw; clear ze9
        refine lv_iconst (v := 1) zhx zhb dX10_takeEater_55 (by decide) ?_
        cases zhs
        exact zhret _ _ _ _ dX10_takeEater_56 (by rfl) zhw
      · replace zhs := br_F zhs zc9
        refine lv_iconst (v := 0) zhx zhb dX10_takeEater_27 (by decide) ?_
        cases zhs
        exact zhret _ _ _ _ dX10_takeEater_28 (by rfl) zhw

-- OffFirst$Cells.has in (23, ())
def sCells_has_l (a1 : Int32) (M : Mm) : Option Int32 :=
  (if a1 < 0 then some 0
  else (if (M 23 3) ≤ a1 then some 0
  else some 1))
set_option maxHeartbeats 4000000 in
set_option maxRecDepth 100000 in
theorem cCells_has_l (l : Launch) (D : va_G) (cI : ClassId) (h : Nat → Nat) (a1 : Int32) (M : Mm) (r : Int32) (zhs : sCells_has_l a1 M = some r) : CtI l yX0_has cX0_has 2 (some .boolean) 1 D cI (wX h cI M) (wX h cI M) [.ref (h 23), .int a1] r := by
  unfold sCells_has_l at zhs
  refine CtI_of (by decide +kernel) (Nat.le_of_ble_eq_true rfl) ⟨_, rfl⟩ ?_
  intro p e s m args below meth c A Q zls zH zlocs C zhw zhl zhret
  have zhx := C.1
  have zhb := C.2.1
  have zhown := C.2.2.2.2.1
  have zhtB := C.2.2.2.2.2.2.1
  have zhl : lv_has zls 2 [(0, .ref (h 23)), (1, .int a1)] := zhl
  refine lv_iload_n zhx zhb dX0_has_0 rfl (lv_at zhl 1 rfl) ?_
  refine lv_if_lt (tgt := 16) zhx zhb dX0_has_1 (by decide) (fun zc9 => ?_) (fun zc9 => ?_)
  · replace zhs := br_T zhs zc9
    refine lv_iconst (v := 0) zhx zhb dX0_has_16 (by decide) ?_
    cases zhs
    exact zhret _ _ _ _ dX0_has_17 (by rfl) zhw
  · replace zhs := br_F zhs zc9
    refine lv_iload_n zhx zhb dX0_has_4 rfl (lv_at zhl 1 rfl) ?_
    refine lv_aload_n zhx zhb dX0_has_5 rfl (lv_at zhl 0 rfl) ?_
    refine x_get C zhw inlX0 rfl 23 3 (by decide) kw_6_23 rfl (wX_c23 h cI M) rfl dX0_has_6 ?_
    refine lv_icmp_ge (tgt := 16) zhx zhb dX0_has_9 (by decide) (fun zc9 => ?_) (fun zc9 => ?_)
    · replace zhs := br_T zhs zc9
      refine lv_iconst (v := 0) zhx zhb dX0_has_16 (by decide) ?_
      cases zhs
      exact zhret _ _ _ _ dX0_has_17 (by rfl) zhw
    · replace zhs := br_F zhs zc9
      refine lv_iconst (v := 1) zhx zhb dX0_has_12 (by decide) ?_
      refine lv_goto (tgt := 17) zhx zhb dX0_has_13 (by decide) ?_
      cases zhs
      exact zhret _ _ _ _ dX0_has_17 (by rfl) zhw

-- OffFirst$Foods.add in (27, ())
def sFoods_add_l (a1 : Int32) (a2 : Int32) (a3 : Int32) (a4 : Int32) (a5 : Int32) (a6 : Int32) (M : Mm) : Option (Int32 × Mm) :=
  (if (M 27 7) < 10 then ltM (putf 10 M 28 (M 27 7) a1) fun zM1 =>
  ltM (putf 10 zM1 29 (zM1 27 7) a2) fun zM2 =>
  ltM (putf 10 zM2 30 (zM2 27 7) a3) fun zM3 =>
  ltM (putf 10 zM3 31 (zM3 27 7) a4) fun zM4 =>
  ltM (putf 10 zM4 32 (zM4 27 7) a5) fun zM5 =>
  ltM (putf 10 zM5 33 (zM5 27 7) a6) fun zM6 =>
  ltM (putf 4 zM6 34 a6 ((atf 4 (zM6 34) a6) ||| (1 <<< ((zM6 27 7) &&& 31)))) fun zM7 =>
  ltM (mset zM7 27 7 ((zM7 27 7) + 1)) fun zM8 =>
  some (1, zM8)
  else some (0, M))
set_option maxHeartbeats 4000000 in
set_option maxRecDepth 100000 in
theorem cFoods_add_l (l : Launch) (D : va_G) (cI : ClassId) (h : Nat → Nat) (a1 : Int32) (a2 : Int32) (a3 : Int32) (a4 : Int32) (a5 : Int32) (a6 : Int32) (M : Mm) (r : Int32) (M' : Mm) (zhs : sFoods_add_l a1 a2 a3 a4 a5 a6 M = some (r, M')) : CtI l yX2_add cX2_add 7 (some .boolean) 2 D cI (wX h cI M) (wX h cI M') [.ref (h 27), .int a1, .int a2, .int a3, .int a4, .int a5, .int a6] r := by
  unfold sFoods_add_l at zhs
  refine CtI_of (by decide +kernel) (Nat.le_of_ble_eq_true rfl) ⟨_, rfl⟩ ?_
  intro p e s m args below meth c A Q zls zH zlocs C zhw zhl zhret
  have zhx := C.1
  have zhb := C.2.1
  have zhown := C.2.2.2.2.1
  have zhtB := C.2.2.2.2.2.2.1
  have zhl : lv_has zls 7 [(0, .ref (h 27)), (1, .int a1), (2, .int a2), (3, .int a3), (4, .int a4), (5, .int a5), (6, .int a6)] := zhl
  refine lv_aload_n zhx zhb dX2_add_0 rfl (lv_at zhl 0 rfl) ?_
  refine x_get C zhw inlX2 rfl 27 7 (by decide) kw_7_6 rfl (wX_c27 h cI M) rfl dX2_add_1 ?_
  refine lv_bipush (v := 10) zhx zhb dX2_add_4 (by decide) ?_
  refine lv_icmp_lt (tgt := 11) zhx zhb dX2_add_6 (by decide) (fun zc9 => ?_) (fun zc9 => ?_)
  · replace zhs := br_T zhs zc9
    refine lv_aload_n zhx zhb dX2_add_11 rfl (lv_at zhl 0 rfl) ?_
    refine x_get C zhw inlX2 rfl 27 0 (by decide) kw_4_9 rfl (wX_c27 h cI M) rfl dX2_add_12 ?_
    refine lv_aload_n zhx zhb dX2_add_15 rfl (lv_at zhl 0 rfl) ?_
    refine x_get C zhw inlX2 rfl 27 7 (by decide) kw_7_6 rfl (wX_c27 h cI M) rfl dX2_add_16 ?_
    refine lv_iload_n zhx zhb dX2_add_19 rfl (lv_at zhl 1 rfl) ?_
    refine x_cSNV (As := [.ref (h 28), .int (M 27 7), .int a1]) (rest := []) C zhw zhl (c_put l D cI (wX h cI) M 28 10 (h 28) (wX_c28 h cI M) (fun j v => wX_a28 h cI M j v) (by decide) (M 27 7) a1) (by decide) (by decide) (List.mem_of_getElem? (i := 8) rfl) kw_7_0 kw_1_2 kw_7_1 md_X11_put rfl rfl (Nat.le_of_ble_eq_true rfl) dX2_add_20 (fun zH zlocs zhw => ?_)
    obtain ⟨zM1, ze9, zhs⟩ := ltM_e zhs
    rw [← ze9] at zhw; clear ze9
    refine lv_aload_n zhx zhb dX2_add_23 rfl (lv_at zhl 0 rfl) ?_
    refine x_get C zhw inlX2 rfl 27 1 (by decide) kw_4_10 rfl (wX_c27 h cI zM1) rfl dX2_add_24 ?_
    refine lv_aload_n zhx zhb dX2_add_27 rfl (lv_at zhl 0 rfl) ?_
    refine x_get C zhw inlX2 rfl 27 7 (by decide) kw_7_6 rfl (wX_c27 h cI zM1) rfl dX2_add_28 ?_
    refine lv_iload_n zhx zhb dX2_add_31 rfl (lv_at zhl 2 rfl) ?_
    refine x_cSNV (As := [.ref (h 29), .int (zM1 27 7), .int a2]) (rest := []) C zhw zhl (c_put l D cI (wX h cI) zM1 29 10 (h 29) (wX_c29 h cI zM1) (fun j v => wX_a29 h cI zM1 j v) (by decide) (zM1 27 7) a2) (by decide) (by decide) (List.mem_of_getElem? (i := 8) rfl) kw_7_0 kw_1_2 kw_7_1 md_X11_put rfl rfl (Nat.le_of_ble_eq_true rfl) dX2_add_32 (fun zH zlocs zhw => ?_)
    obtain ⟨zM2, ze9, zhs⟩ := ltM_e zhs
    rw [← ze9] at zhw; clear ze9
    refine lv_aload_n zhx zhb dX2_add_35 rfl (lv_at zhl 0 rfl) ?_
    refine x_get C zhw inlX2 rfl 27 2 (by decide) kw_4_11 rfl (wX_c27 h cI zM2) rfl dX2_add_36 ?_
    refine lv_aload_n zhx zhb dX2_add_39 rfl (lv_at zhl 0 rfl) ?_
    refine x_get C zhw inlX2 rfl 27 7 (by decide) kw_7_6 rfl (wX_c27 h cI zM2) rfl dX2_add_40 ?_
    refine lv_iload_n zhx zhb dX2_add_43 rfl (lv_at zhl 3 rfl) ?_
    refine x_cSNV (As := [.ref (h 30), .int (zM2 27 7), .int a3]) (rest := []) C zhw zhl (c_put l D cI (wX h cI) zM2 30 10 (h 30) (wX_c30 h cI zM2) (fun j v => wX_a30 h cI zM2 j v) (by decide) (zM2 27 7) a3) (by decide) (by decide) (List.mem_of_getElem? (i := 8) rfl) kw_7_0 kw_1_2 kw_7_1 md_X11_put rfl rfl (Nat.le_of_ble_eq_true rfl) dX2_add_44 (fun zH zlocs zhw => ?_)
    obtain ⟨zM3, ze9, zhs⟩ := ltM_e zhs
    rw [← ze9] at zhw; clear ze9
    refine lv_aload_n zhx zhb dX2_add_47 rfl (lv_at zhl 0 rfl) ?_
    refine x_get C zhw inlX2 rfl 27 3 (by decide) kw_4_12 rfl (wX_c27 h cI zM3) rfl dX2_add_48 ?_
    refine lv_aload_n zhx zhb dX2_add_51 rfl (lv_at zhl 0 rfl) ?_
    refine x_get C zhw inlX2 rfl 27 7 (by decide) kw_7_6 rfl (wX_c27 h cI zM3) rfl dX2_add_52 ?_
    refine lv_iload zhx zhb dX2_add_55 (lv_at zhl 4 rfl) ?_
    refine x_cSNV (As := [.ref (h 31), .int (zM3 27 7), .int a4]) (rest := []) C zhw zhl (c_put l D cI (wX h cI) zM3 31 10 (h 31) (wX_c31 h cI zM3) (fun j v => wX_a31 h cI zM3 j v) (by decide) (zM3 27 7) a4) (by decide) (by decide) (List.mem_of_getElem? (i := 8) rfl) kw_7_0 kw_1_2 kw_7_1 md_X11_put rfl rfl (Nat.le_of_ble_eq_true rfl) dX2_add_57 (fun zH zlocs zhw => ?_)
    obtain ⟨zM4, ze9, zhs⟩ := ltM_e zhs
    rw [← ze9] at zhw; clear ze9
    refine lv_aload_n zhx zhb dX2_add_60 rfl (lv_at zhl 0 rfl) ?_
    refine x_get C zhw inlX2 rfl 27 4 (by decide) kw_4_13 rfl (wX_c27 h cI zM4) rfl dX2_add_61 ?_
    refine lv_aload_n zhx zhb dX2_add_64 rfl (lv_at zhl 0 rfl) ?_
    refine x_get C zhw inlX2 rfl 27 7 (by decide) kw_7_6 rfl (wX_c27 h cI zM4) rfl dX2_add_65 ?_
    refine lv_iload zhx zhb dX2_add_68 (lv_at zhl 5 rfl) ?_
    refine x_cSNV (As := [.ref (h 32), .int (zM4 27 7), .int a5]) (rest := []) C zhw zhl (c_put l D cI (wX h cI) zM4 32 10 (h 32) (wX_c32 h cI zM4) (fun j v => wX_a32 h cI zM4 j v) (by decide) (zM4 27 7) a5) (by decide) (by decide) (List.mem_of_getElem? (i := 8) rfl) kw_7_0 kw_1_2 kw_7_1 md_X11_put rfl rfl (Nat.le_of_ble_eq_true rfl) dX2_add_70 (fun zH zlocs zhw => ?_)
    obtain ⟨zM5, ze9, zhs⟩ := ltM_e zhs
    rw [← ze9] at zhw; clear ze9
    refine lv_aload_n zhx zhb dX2_add_73 rfl (lv_at zhl 0 rfl) ?_
    refine x_get C zhw inlX2 rfl 27 5 (by decide) kw_4_14 rfl (wX_c27 h cI zM5) rfl dX2_add_74 ?_
    refine lv_aload_n zhx zhb dX2_add_77 rfl (lv_at zhl 0 rfl) ?_
    refine x_get C zhw inlX2 rfl 27 7 (by decide) kw_7_6 rfl (wX_c27 h cI zM5) rfl dX2_add_78 ?_
    refine lv_iload zhx zhb dX2_add_81 (lv_at zhl 6 rfl) ?_
    refine x_cSNV (As := [.ref (h 33), .int (zM5 27 7), .int a6]) (rest := []) C zhw zhl (c_put l D cI (wX h cI) zM5 33 10 (h 33) (wX_c33 h cI zM5) (fun j v => wX_a33 h cI zM5 j v) (by decide) (zM5 27 7) a6) (by decide) (by decide) (List.mem_of_getElem? (i := 8) rfl) kw_7_0 kw_1_2 kw_7_1 md_X11_put rfl rfl (Nat.le_of_ble_eq_true rfl) dX2_add_83 (fun zH zlocs zhw => ?_)
    obtain ⟨zM6, ze9, zhs⟩ := ltM_e zhs
    rw [← ze9] at zhw; clear ze9
    refine lv_aload_n zhx zhb dX2_add_86 rfl (lv_at zhl 0 rfl) ?_
    refine x_get C zhw inlX2 rfl 27 6 (by decide) kw_4_15 rfl (wX_c27 h cI zM6) rfl dX2_add_87 ?_
    refine lv_iload zhx zhb dX2_add_90 (lv_at zhl 6 rfl) ?_
    refine lv_aload_n zhx zhb dX2_add_92 rfl (lv_at zhl 0 rfl) ?_
    refine x_get C zhw inlX2 rfl 27 6 (by decide) kw_4_15 rfl (wX_c27 h cI zM6) rfl dX2_add_93 ?_
    refine lv_iload zhx zhb dX2_add_96 (lv_at zhl 6 rfl) ?_
    refine x_cSNI (As := [.ref (h 34), .int a6]) (rest := [.int a6, .ref (h 34)]) C zhw zhl (c_at l D cI (wX h cI zM6) 34 4 (h 34) (zM6 34) (wX_c34 h cI zM6) (by decide) a6) (by decide) (by decide) (List.mem_of_getElem? (i := 9) rfl) kw_7_7 kw_1_2 kw_7_8 md_X11_at rfl rfl (Nat.le_of_ble_eq_true rfl) dX2_add_98 (fun zH zlocs zhw hn9 => ?_)
    refine lv_iconst (v := 1) zhx zhb dX2_add_101 (by decide) ?_
    refine lv_aload_n zhx zhb dX2_add_102 rfl (lv_at zhl 0 rfl) ?_
    refine x_get C zhw inlX2 rfl 27 7 (by decide) kw_7_6 rfl (wX_c27 h cI zM6) rfl dX2_add_103 ?_
    refine lv_ishl zhx zhb dX2_add_106 ?_
    refine lv_ior zhx zhb dX2_add_107 ?_
    refine x_cSNV (As := [.ref (h 34), .int a6, .int ((atf 4 (zM6 34) a6) ||| (1 <<< ((zM6 27 7) &&& 31)))]) (rest := []) C zhw zhl (c_put l D cI (wX h cI) zM6 34 4 (h 34) (wX_c34 h cI zM6) (fun j v => wX_a34 h cI zM6 j v) (by decide) a6 ((atf 4 (zM6 34) a6) ||| (1 <<< ((zM6 27 7) &&& 31)))) (by decide) (by decide) (List.mem_of_getElem? (i := 8) rfl) kw_7_0 kw_1_2 kw_7_1 md_X11_put rfl rfl (Nat.le_of_ble_eq_true rfl) dX2_add_108 (fun zH zlocs zhw => ?_)
    obtain ⟨zM7, ze9, zhs⟩ := ltM_e zhs
    rw [← ze9] at zhw; clear ze9
    refine lv_aload_n zhx zhb dX2_add_111 rfl (lv_at zhl 0 rfl) ?_
    refine lv_dup zhx zhb dX2_add_112 rfl ?_
    refine x_get C zhw inlX2 rfl 27 7 (by decide) kw_7_6 rfl (wX_c27 h cI zM7) rfl dX2_add_113 ?_
    refine lv_iconst (v := 1) zhx zhb dX2_add_116 (by decide) ?_
    refine lv_iadd zhx zhb dX2_add_117 ?_
    refine x_put C zhw inlX2 rfl tyX2_ok nmX2 27 7 (by decide) kw_7_6 rfl rfl rfl (wX_c27 h cI zM7) (Nat.le_of_ble_eq_true rfl) (wX_s27_7 h cI zM7 _) dX2_add_118 (fun zH zlocs zhw => ?_)
    obtain ⟨zM8, ze9, zhs⟩ := ltM_e zhs
    rw [← ze9] at zhw; clear ze9
    refine lv_iconst (v := 1) zhx zhb dX2_add_121 (by decide) ?_
    cases zhs
    exact zhret _ _ _ _ dX2_add_122 (by rfl) zhw
  · replace zhs := br_F zhs zc9
    refine lv_iconst (v := 0) zhx zhb dX2_add_9 (by decide) ?_
    cases zhs
    exact zhret _ _ _ _ dX2_add_10 (by rfl) zhw

-- OffFirst$Told.takeFood in (22, (1,))
def sTold_takeFood_l (M : Mm) : Option (Int32 × Mm) :=
  (if (M 1 4) = 6 then (sText_isNumberWithin 0 0 3 M).bind fun zv16 =>
  (if zv16 = 0 then some (0, M)
  else (sText_number 1 M).bind fun zv31 =>
  (sCells_has_l zv31 M).bind fun zv32 =>
  (if zv32 = 0 then some (0, M)
  else (sText_isNumberWithin 2 0 99 M).bind fun zv45 =>
  (if zv45 = 0 then some (0, M)
  else (sText_isNumberWithin 3 1 240 M).bind fun zv57 =>
  (if zv57 = 0 then some (0, M)
  else (sText_isNumberWithin 4 0 99 M).bind fun zv68 =>
  (if zv68 = 0 then some (0, M)
  else (sText_isNumberWithin 5 0 3 M).bind fun zv78 =>
  (if zv78 = 0 then some (0, M)
  else (sText_number 0 M).bind fun zv87 =>
  (sText_number 1 M).bind fun zv88 =>
  (sText_number 2 M).bind fun zv89 =>
  (sText_number 3 M).bind fun zv90 =>
  (sText_number 4 M).bind fun zv91 =>
  (sText_number 5 M).bind fun zv92 =>
  (sFoods_add_l zv87 zv88 zv89 zv90 zv91 zv92 M).bind fun (zv93, zM94) =>
  (if zv93 = 0 then some (0, zM94)
  else some (1, zM94))))))))
  else some (0, M))
set_option maxHeartbeats 4000000 in
set_option maxRecDepth 100000 in
theorem cTold_takeFood_l (l : Launch) (D : va_G) (cI : ClassId) (h : Nat → Nat) (M : Mm) (r : Int32) (M' : Mm) (zhs : sTold_takeFood_l M = some (r, M')) : CtI l yX10_takeFood cX10_takeFood 2 (some .boolean) 4 D cI (wX h cI M) (wX h cI M') [.ref (h 22), .ref (h 1)] r := by
  unfold sTold_takeFood_l at zhs
  refine CtI_of (by decide +kernel) (Nat.le_of_ble_eq_true rfl) ⟨_, rfl⟩ ?_
  intro p e s m args below meth c A Q zls zH zlocs C zhw zhl zhret
  have zhx := C.1
  have zhb := C.2.1
  have zhown := C.2.2.2.2.1
  have zhtB := C.2.2.2.2.2.2.1
  have zhl : lv_has zls 2 [(0, .ref (h 22)), (1, .ref (h 1))] := zhl
  refine lv_aload_n zhx zhb dX10_takeFood_0 rfl (lv_at zhl 1 rfl) ?_
  refine x_getN C zhw inlX9 rfl 1 4 (by decide) (List.mem_of_getElem? (i := 3) rfl) rfl (wX_c1 h cI M) rfl dX10_takeFood_1 ?_
  refine lv_bipush (v := 6) zhx zhb dX10_takeFood_4 (by decide) ?_
  refine lv_icmp_ne (tgt := 122) zhx zhb dX10_takeFood_6 (by decide) (fun zc9 => ?_) (fun zc9 => ?_)
  · replace zhs := br_F zhs zc9
    refine lv_iconst (v := 0) zhx zhb dX10_takeFood_122 (by decide) ?_
    cases zhs
    exact zhret _ _ _ _ dX10_takeFood_123 (by rfl) zhw
  · replace zhs := br_T zhs zc9
    refine lv_aload_n zhx zhb dX10_takeFood_9 rfl (lv_at zhl 1 rfl) ?_
    refine lv_iconst (v := 0) zhx zhb dX10_takeFood_10 (by decide) ?_
    refine lv_iconst (v := 0) zhx zhb dX10_takeFood_11 (by decide) ?_
    refine lv_iconst (v := 3) zhx zhb dX10_takeFood_12 (by decide) ?_
    obtain ⟨zv16, zhp, zhs⟩ := bnd_e zhs
    refine x_cVI (As := [.int 0, .int 0, .int 3]) (rest := []) C zhw zhl (cText_isNumberWithin l D cI h 0 0 3 M zv16 zhp) (by decide) (by decide) kw_13_6 kw_13_7 kw_13_8 kw_1_15 kw_13_9 md_X9_isNumberWithin rfl 1 (wX_c1 h cI M) rfl rfl rfl rfl (Nat.le_of_ble_eq_true rfl) dX10_takeFood_13 (fun zH zlocs zhw hzv16 => ?_)
    refine lv_if_eq (tgt := 122) zhx zhb dX10_takeFood_16 (by decide) (fun zc9 => ?_) (fun zc9 => ?_)
    · replace zhs := br_T zhs zc9
      refine lv_iconst (v := 0) zhx zhb dX10_takeFood_122 (by decide) ?_
      cases zhs
      exact zhret _ _ _ _ dX10_takeFood_123 (by rfl) zhw
    · replace zhs := br_F zhs zc9
      refine lv_aload_n zhx zhb dX10_takeFood_19 rfl (lv_at zhl 0 rfl) ?_
      refine x_get C zhw inlX10 rfl 22 0 (by decide) kw_3_12 rfl (wX_c22 h cI M) rfl dX10_takeFood_20 ?_
      refine lv_aload_n zhx zhb dX10_takeFood_23 rfl (lv_at zhl 1 rfl) ?_
      refine lv_iconst (v := 1) zhx zhb dX10_takeFood_24 (by decide) ?_
      obtain ⟨zv31, zhp, zhs⟩ := bnd_e zhs
      refine x_cVI (As := [.int 1]) (rest := [.ref (h 23)]) C zhw zhl (cText_number l D cI h 1 M zv31 zhp) (by decide) (by decide) kw_13_14 kw_13_11 kw_13_12 kw_1_15 kw_13_13 md_X9_number rfl 1 (wX_c1 h cI M) rfl rfl rfl rfl (Nat.le_of_ble_eq_true rfl) dX10_takeFood_25 (fun zH zlocs zhw hn9 => ?_)
      obtain ⟨zv32, zhp, zhs⟩ := bnd_e zhs
      refine x_cVI (As := [.int zv31]) (rest := []) C zhw zhl (cCells_has_l l D cI h zv31 M zv32 zhp) (by decide) (by decide) kw_14_4 kw_14_5 kw_14_6 kw_3_11 kw_14_7 md_X0_has rfl 23 (wX_c23 h cI M) rfl rfl rfl rfl (Nat.le_of_ble_eq_true rfl) dX10_takeFood_28 (fun zH zlocs zhw hzv32 => ?_)
      refine lv_if_eq (tgt := 122) zhx zhb dX10_takeFood_31 (by decide) (fun zc9 => ?_) (fun zc9 => ?_)
      · replace zhs := br_T zhs zc9
        refine lv_iconst (v := 0) zhx zhb dX10_takeFood_122 (by decide) ?_
        cases zhs
        exact zhret _ _ _ _ dX10_takeFood_123 (by rfl) zhw
      · replace zhs := br_F zhs zc9
        refine lv_aload_n zhx zhb dX10_takeFood_34 rfl (lv_at zhl 1 rfl) ?_
        refine lv_iconst (v := 2) zhx zhb dX10_takeFood_35 (by decide) ?_
        refine lv_iconst (v := 0) zhx zhb dX10_takeFood_36 (by decide) ?_
        refine lv_bipush (v := 99) zhx zhb dX10_takeFood_37 (by decide) ?_
        obtain ⟨zv45, zhp, zhs⟩ := bnd_e zhs
        refine x_cVI (As := [.int 2, .int 0, .int 99]) (rest := []) C zhw zhl (cText_isNumberWithin l D cI h 2 0 99 M zv45 zhp) (by decide) (by decide) kw_13_6 kw_13_7 kw_13_8 kw_1_15 kw_13_9 md_X9_isNumberWithin rfl 1 (wX_c1 h cI M) rfl rfl rfl rfl (Nat.le_of_ble_eq_true rfl) dX10_takeFood_39 (fun zH zlocs zhw hzv45 => ?_)
        refine lv_if_eq (tgt := 122) zhx zhb dX10_takeFood_42 (by decide) (fun zc9 => ?_) (fun zc9 => ?_)
        · replace zhs := br_T zhs zc9
          refine lv_iconst (v := 0) zhx zhb dX10_takeFood_122 (by decide) ?_
          cases zhs
          exact zhret _ _ _ _ dX10_takeFood_123 (by rfl) zhw
        · replace zhs := br_F zhs zc9
          refine lv_aload_n zhx zhb dX10_takeFood_45 rfl (lv_at zhl 1 rfl) ?_
          refine lv_iconst (v := 3) zhx zhb dX10_takeFood_46 (by decide) ?_
          refine lv_iconst (v := 1) zhx zhb dX10_takeFood_47 (by decide) ?_
          refine lv_sipush (v := 240) zhx zhb dX10_takeFood_48 (by decide) ?_
          obtain ⟨zv57, zhp, zhs⟩ := bnd_e zhs
          refine x_cVI (As := [.int 3, .int 1, .int 240]) (rest := []) C zhw zhl (cText_isNumberWithin l D cI h 3 1 240 M zv57 zhp) (by decide) (by decide) kw_13_6 kw_13_7 kw_13_8 kw_1_15 kw_13_9 md_X9_isNumberWithin rfl 1 (wX_c1 h cI M) rfl rfl rfl rfl (Nat.le_of_ble_eq_true rfl) dX10_takeFood_51 (fun zH zlocs zhw hzv57 => ?_)
          refine lv_if_eq (tgt := 122) zhx zhb dX10_takeFood_54 (by decide) (fun zc9 => ?_) (fun zc9 => ?_)
          · replace zhs := br_T zhs zc9
            refine lv_iconst (v := 0) zhx zhb dX10_takeFood_122 (by decide) ?_
            cases zhs
            exact zhret _ _ _ _ dX10_takeFood_123 (by rfl) zhw
          · replace zhs := br_F zhs zc9
            refine lv_aload_n zhx zhb dX10_takeFood_57 rfl (lv_at zhl 1 rfl) ?_
            refine lv_iconst (v := 4) zhx zhb dX10_takeFood_58 (by decide) ?_
            refine lv_iconst (v := 0) zhx zhb dX10_takeFood_59 (by decide) ?_
            refine lv_bipush (v := 99) zhx zhb dX10_takeFood_60 (by decide) ?_
            obtain ⟨zv68, zhp, zhs⟩ := bnd_e zhs
            refine x_cVI (As := [.int 4, .int 0, .int 99]) (rest := []) C zhw zhl (cText_isNumberWithin l D cI h 4 0 99 M zv68 zhp) (by decide) (by decide) kw_13_6 kw_13_7 kw_13_8 kw_1_15 kw_13_9 md_X9_isNumberWithin rfl 1 (wX_c1 h cI M) rfl rfl rfl rfl (Nat.le_of_ble_eq_true rfl) dX10_takeFood_62 (fun zH zlocs zhw hzv68 => ?_)
            refine lv_if_eq (tgt := 122) zhx zhb dX10_takeFood_65 (by decide) (fun zc9 => ?_) (fun zc9 => ?_)
            · replace zhs := br_T zhs zc9
              refine lv_iconst (v := 0) zhx zhb dX10_takeFood_122 (by decide) ?_
              cases zhs
              exact zhret _ _ _ _ dX10_takeFood_123 (by rfl) zhw
            · replace zhs := br_F zhs zc9
              refine lv_aload_n zhx zhb dX10_takeFood_68 rfl (lv_at zhl 1 rfl) ?_
              refine lv_iconst (v := 5) zhx zhb dX10_takeFood_69 (by decide) ?_
              refine lv_iconst (v := 0) zhx zhb dX10_takeFood_70 (by decide) ?_
              refine lv_iconst (v := 3) zhx zhb dX10_takeFood_71 (by decide) ?_
              obtain ⟨zv78, zhp, zhs⟩ := bnd_e zhs
              refine x_cVI (As := [.int 5, .int 0, .int 3]) (rest := []) C zhw zhl (cText_isNumberWithin l D cI h 5 0 3 M zv78 zhp) (by decide) (by decide) kw_13_6 kw_13_7 kw_13_8 kw_1_15 kw_13_9 md_X9_isNumberWithin rfl 1 (wX_c1 h cI M) rfl rfl rfl rfl (Nat.le_of_ble_eq_true rfl) dX10_takeFood_72 (fun zH zlocs zhw hzv78 => ?_)
              refine lv_if_eq (tgt := 122) zhx zhb dX10_takeFood_75 (by decide) (fun zc9 => ?_) (fun zc9 => ?_)
              · replace zhs := br_T zhs zc9
                refine lv_iconst (v := 0) zhx zhb dX10_takeFood_122 (by decide) ?_
                cases zhs
                exact zhret _ _ _ _ dX10_takeFood_123 (by rfl) zhw
              · replace zhs := br_F zhs zc9
                refine lv_aload_n zhx zhb dX10_takeFood_78 rfl (lv_at zhl 0 rfl) ?_
                refine x_get C zhw inlX10 rfl 22 1 (by decide) kw_3_16 rfl (wX_c22 h cI M) rfl dX10_takeFood_79 ?_
                refine lv_aload_n zhx zhb dX10_takeFood_82 rfl (lv_at zhl 1 rfl) ?_
                refine lv_iconst (v := 0) zhx zhb dX10_takeFood_83 (by decide) ?_
                obtain ⟨zv87, zhp, zhs⟩ := bnd_e zhs
                refine x_cVI (As := [.int 0]) (rest := [.ref (h 27)]) C zhw zhl (cText_number l D cI h 0 M zv87 zhp) (by decide) (by decide) kw_13_14 kw_13_11 kw_13_12 kw_1_15 kw_13_13 md_X9_number rfl 1 (wX_c1 h cI M) rfl rfl rfl rfl (Nat.le_of_ble_eq_true rfl) dX10_takeFood_84 (fun zH zlocs zhw hn9 => ?_)
                refine lv_aload_n zhx zhb dX10_takeFood_87 rfl (lv_at zhl 1 rfl) ?_
                refine lv_iconst (v := 1) zhx zhb dX10_takeFood_88 (by decide) ?_
                obtain ⟨zv88, zhp, zhs⟩ := bnd_e zhs
                refine x_cVI (As := [.int 1]) (rest := [.int zv87, .ref (h 27)]) C zhw zhl (cText_number l D cI h 1 M zv88 zhp) (by decide) (by decide) kw_13_14 kw_13_11 kw_13_12 kw_1_15 kw_13_13 md_X9_number rfl 1 (wX_c1 h cI M) rfl rfl rfl rfl (Nat.le_of_ble_eq_true rfl) dX10_takeFood_89 (fun zH zlocs zhw hn9 => ?_)
                refine lv_aload_n zhx zhb dX10_takeFood_92 rfl (lv_at zhl 1 rfl) ?_
                refine lv_iconst (v := 2) zhx zhb dX10_takeFood_93 (by decide) ?_
                obtain ⟨zv89, zhp, zhs⟩ := bnd_e zhs
                refine x_cVI (As := [.int 2]) (rest := [.int zv88, .int zv87, .ref (h 27)]) C zhw zhl (cText_number l D cI h 2 M zv89 zhp) (by decide) (by decide) kw_13_14 kw_13_11 kw_13_12 kw_1_15 kw_13_13 md_X9_number rfl 1 (wX_c1 h cI M) rfl rfl rfl rfl (Nat.le_of_ble_eq_true rfl) dX10_takeFood_94 (fun zH zlocs zhw hn9 => ?_)
                refine lv_aload_n zhx zhb dX10_takeFood_97 rfl (lv_at zhl 1 rfl) ?_
                refine lv_iconst (v := 3) zhx zhb dX10_takeFood_98 (by decide) ?_
                obtain ⟨zv90, zhp, zhs⟩ := bnd_e zhs
                refine x_cVI (As := [.int 3]) (rest := [.int zv89, .int zv88, .int zv87, .ref (h 27)]) C zhw zhl (cText_number l D cI h 3 M zv90 zhp) (by decide) (by decide) kw_13_14 kw_13_11 kw_13_12 kw_1_15 kw_13_13 md_X9_number rfl 1 (wX_c1 h cI M) rfl rfl rfl rfl (Nat.le_of_ble_eq_true rfl) dX10_takeFood_99 (fun zH zlocs zhw hn9 => ?_)
                refine lv_aload_n zhx zhb dX10_takeFood_102 rfl (lv_at zhl 1 rfl) ?_
                refine lv_iconst (v := 4) zhx zhb dX10_takeFood_103 (by decide) ?_
                obtain ⟨zv91, zhp, zhs⟩ := bnd_e zhs
                refine x_cVI (As := [.int 4]) (rest := [.int zv90, .int zv89, .int zv88, .int zv87, .ref (h 27)]) C zhw zhl (cText_number l D cI h 4 M zv91 zhp) (by decide) (by decide) kw_13_14 kw_13_11 kw_13_12 kw_1_15 kw_13_13 md_X9_number rfl 1 (wX_c1 h cI M) rfl rfl rfl rfl (Nat.le_of_ble_eq_true rfl) dX10_takeFood_104 (fun zH zlocs zhw hn9 => ?_)
                refine lv_aload_n zhx zhb dX10_takeFood_107 rfl (lv_at zhl 1 rfl) ?_
                refine lv_iconst (v := 5) zhx zhb dX10_takeFood_108 (by decide) ?_
                obtain ⟨zv92, zhp, zhs⟩ := bnd_e zhs
                refine x_cVI (As := [.int 5]) (rest := [.int zv91, .int zv90, .int zv89, .int zv88, .int zv87, .ref (h 27)]) C zhw zhl (cText_number l D cI h 5 M zv92 zhp) (by decide) (by decide) kw_13_14 kw_13_11 kw_13_12 kw_1_15 kw_13_13 md_X9_number rfl 1 (wX_c1 h cI M) rfl rfl rfl rfl (Nat.le_of_ble_eq_true rfl) dX10_takeFood_109 (fun zH zlocs zhw hn9 => ?_)
                obtain ⟨⟨zv93, zM94⟩, zhp, zhs⟩ := bnd_e zhs
                try dsimp only at zhs
                refine x_cVI (As := [.int zv87, .int zv88, .int zv89, .int zv90, .int zv91, .int zv92]) (rest := []) C zhw zhl (cFoods_add_l l D cI h zv87 zv88 zv89 zv90 zv91 zv92 M zv93 zM94 zhp) (by decide) (by decide) kw_14_8 kw_7_3 kw_7_4 kw_3_15 kw_7_5 md_X2_add rfl 27 (wX_c27 h cI M) rfl rfl rfl rfl (Nat.le_of_ble_eq_true rfl) dX10_takeFood_112 (fun zH zlocs zhw hzv93 => ?_)
                refine lv_if_eq (tgt := 122) zhx zhb dX10_takeFood_115 (by decide) (fun zc9 => ?_) (fun zc9 => ?_)
                · replace zhs := br_T zhs zc9
                  refine lv_iconst (v := 0) zhx zhb dX10_takeFood_122 (by decide) ?_
                  cases zhs
                  exact zhret _ _ _ _ dX10_takeFood_123 (by rfl) zhw
                · replace zhs := br_F zhs zc9
                  refine lv_iconst (v := 1) zhx zhb dX10_takeFood_118 (by decide) ?_
                  refine lv_goto (tgt := 123) zhx zhb dX10_takeFood_119 (by decide) ?_
                  cases zhs
                  exact zhret _ _ _ _ dX10_takeFood_123 (by rfl) zhw

-- OffFirst$Party.add in (37, ())
def sParty_add_l (a1 : Int32) (a2 : Int32) (M : Mm) : Option (Int32 × Mm) :=
  (if (M 37 2) < 6 then ltM (putf 6 M 38 (M 37 2) a1) fun zM1 =>
  ltM (putf 6 zM1 39 (zM1 37 2) a2) fun zM2 =>
  ltM (mset zM2 37 2 ((zM2 37 2) + 1)) fun zM3 =>
  some (1, zM3)
  else some (0, M))
set_option maxHeartbeats 4000000 in
set_option maxRecDepth 100000 in
theorem cParty_add_l (l : Launch) (D : va_G) (cI : ClassId) (h : Nat → Nat) (a1 : Int32) (a2 : Int32) (M : Mm) (r : Int32) (M' : Mm) (zhs : sParty_add_l a1 a2 M = some (r, M')) : CtI l yX5_add cX5_add 3 (some .boolean) 2 D cI (wX h cI M) (wX h cI M') [.ref (h 37), .int a1, .int a2] r := by
  unfold sParty_add_l at zhs
  refine CtI_of (by decide +kernel) (Nat.le_of_ble_eq_true rfl) ⟨_, rfl⟩ ?_
  intro p e s m args below meth c A Q zls zH zlocs C zhw zhl zhret
  have zhx := C.1
  have zhb := C.2.1
  have zhown := C.2.2.2.2.1
  have zhtB := C.2.2.2.2.2.2.1
  have zhl : lv_has zls 3 [(0, .ref (h 37)), (1, .int a1), (2, .int a2)] := zhl
  refine lv_aload_n zhx zhb dX5_add_0 rfl (lv_at zhl 0 rfl) ?_
  refine x_get C zhw inlX5 rfl 37 2 (by decide) kw_12_4 rfl (wX_c37 h cI M) rfl dX5_add_1 ?_
  refine lv_bipush (v := 6) zhx zhb dX5_add_4 (by decide) ?_
  refine lv_icmp_lt (tgt := 11) zhx zhb dX5_add_6 (by decide) (fun zc9 => ?_) (fun zc9 => ?_)
  · replace zhs := br_T zhs zc9
    refine lv_aload_n zhx zhb dX5_add_11 rfl (lv_at zhl 0 rfl) ?_
    refine x_get C zhw inlX5 rfl 37 0 (by decide) kw_4_19 rfl (wX_c37 h cI M) rfl dX5_add_12 ?_
    refine lv_aload_n zhx zhb dX5_add_15 rfl (lv_at zhl 0 rfl) ?_
    refine x_get C zhw inlX5 rfl 37 2 (by decide) kw_12_4 rfl (wX_c37 h cI M) rfl dX5_add_16 ?_
    refine lv_iload_n zhx zhb dX5_add_19 rfl (lv_at zhl 1 rfl) ?_
    refine x_cSNV (As := [.ref (h 38), .int (M 37 2), .int a1]) (rest := []) C zhw zhl (c_put l D cI (wX h cI) M 38 6 (h 38) (wX_c38 h cI M) (fun j v => wX_a38 h cI M j v) (by decide) (M 37 2) a1) (by decide) (by decide) (List.mem_of_getElem? (i := 15) rfl) kw_7_0 kw_1_2 kw_7_1 md_X11_put rfl rfl (Nat.le_of_ble_eq_true rfl) dX5_add_20 (fun zH zlocs zhw => ?_)
    obtain ⟨zM1, ze9, zhs⟩ := ltM_e zhs
    rw [← ze9] at zhw; clear ze9
    refine lv_aload_n zhx zhb dX5_add_23 rfl (lv_at zhl 0 rfl) ?_
    refine x_get C zhw inlX5 rfl 37 1 (by decide) kw_4_20 rfl (wX_c37 h cI zM1) rfl dX5_add_24 ?_
    refine lv_aload_n zhx zhb dX5_add_27 rfl (lv_at zhl 0 rfl) ?_
    refine x_get C zhw inlX5 rfl 37 2 (by decide) kw_12_4 rfl (wX_c37 h cI zM1) rfl dX5_add_28 ?_
    refine lv_iload_n zhx zhb dX5_add_31 rfl (lv_at zhl 2 rfl) ?_
    refine x_cSNV (As := [.ref (h 39), .int (zM1 37 2), .int a2]) (rest := []) C zhw zhl (c_put l D cI (wX h cI) zM1 39 6 (h 39) (wX_c39 h cI zM1) (fun j v => wX_a39 h cI zM1 j v) (by decide) (zM1 37 2) a2) (by decide) (by decide) (List.mem_of_getElem? (i := 15) rfl) kw_7_0 kw_1_2 kw_7_1 md_X11_put rfl rfl (Nat.le_of_ble_eq_true rfl) dX5_add_32 (fun zH zlocs zhw => ?_)
    obtain ⟨zM2, ze9, zhs⟩ := ltM_e zhs
    rw [← ze9] at zhw; clear ze9
    refine lv_aload_n zhx zhb dX5_add_35 rfl (lv_at zhl 0 rfl) ?_
    refine lv_dup zhx zhb dX5_add_36 rfl ?_
    refine x_get C zhw inlX5 rfl 37 2 (by decide) kw_12_4 rfl (wX_c37 h cI zM2) rfl dX5_add_37 ?_
    refine lv_iconst (v := 1) zhx zhb dX5_add_40 (by decide) ?_
    refine lv_iadd zhx zhb dX5_add_41 ?_
    refine x_put C zhw inlX5 rfl tyX5_ok nmX5 37 2 (by decide) kw_12_4 rfl rfl rfl (wX_c37 h cI zM2) (Nat.le_of_ble_eq_true rfl) (wX_s37_2 h cI zM2 _) dX5_add_42 (fun zH zlocs zhw => ?_)
    obtain ⟨zM3, ze9, zhs⟩ := ltM_e zhs
    rw [← ze9] at zhw; clear ze9
    refine lv_iconst (v := 1) zhx zhb dX5_add_45 (by decide) ?_
    cases zhs
    exact zhret _ _ _ _ dX5_add_46 (by rfl) zhw
  · replace zhs := br_F zhs zc9
    refine lv_iconst (v := 0) zhx zhb dX5_add_9 (by decide) ?_
    cases zhs
    exact zhret _ _ _ _ dX5_add_10 (by rfl) zhw

-- OffFirst$Told.takeGuests in (22, (1,))
def sTold_takeGuests_l (M : Mm) : Option (Int32 × Mm) :=
  (if (M 1 4) = 2 then (sText_isNumberWithin 0 0 9 M).bind fun zv7 =>
  (if zv7 = 0 then some (0, M)
  else (sText_isNumberWithin 1 1 99 M).bind fun zv13 =>
  (if zv13 = 0 then some (0, M)
  else (sText_number 0 M).bind fun zv18 =>
  (sText_number 1 M).bind fun zv19 =>
  (sParty_add_l zv18 zv19 M).bind fun (zv20, zM21) =>
  (if zv20 = 0 then some (0, zM21)
  else some (1, zM21))))
  else some (0, M))
set_option maxHeartbeats 4000000 in
set_option maxRecDepth 100000 in
theorem cTold_takeGuests_l (l : Launch) (D : va_G) (cI : ClassId) (h : Nat → Nat) (M : Mm) (r : Int32) (M' : Mm) (zhs : sTold_takeGuests_l M = some (r, M')) : CtI l yX10_takeGuests cX10_takeGuests 2 (some .boolean) 4 D cI (wX h cI M) (wX h cI M') [.ref (h 22), .ref (h 1)] r := by
  unfold sTold_takeGuests_l at zhs
  refine CtI_of (by decide +kernel) (Nat.le_of_ble_eq_true rfl) ⟨_, rfl⟩ ?_
  intro p e s m args below meth c A Q zls zH zlocs C zhw zhl zhret
  have zhx := C.1
  have zhb := C.2.1
  have zhown := C.2.2.2.2.1
  have zhtB := C.2.2.2.2.2.2.1
  have zhl : lv_has zls 2 [(0, .ref (h 22)), (1, .ref (h 1))] := zhl
  refine lv_aload_n zhx zhb dX10_takeGuests_0 rfl (lv_at zhl 1 rfl) ?_
  refine x_getN C zhw inlX9 rfl 1 4 (by decide) (List.mem_of_getElem? (i := 3) rfl) rfl (wX_c1 h cI M) rfl dX10_takeGuests_1 ?_
  refine lv_iconst (v := 2) zhx zhb dX10_takeGuests_4 (by decide) ?_
  refine lv_icmp_ne (tgt := 54) zhx zhb dX10_takeGuests_5 (by decide) (fun zc9 => ?_) (fun zc9 => ?_)
  · replace zhs := br_F zhs zc9
    refine lv_iconst (v := 0) zhx zhb dX10_takeGuests_54 (by decide) ?_
    cases zhs
    exact zhret _ _ _ _ dX10_takeGuests_55 (by rfl) zhw
  · replace zhs := br_T zhs zc9
    refine lv_aload_n zhx zhb dX10_takeGuests_8 rfl (lv_at zhl 1 rfl) ?_
    refine lv_iconst (v := 0) zhx zhb dX10_takeGuests_9 (by decide) ?_
    refine lv_iconst (v := 0) zhx zhb dX10_takeGuests_10 (by decide) ?_
    refine lv_bipush (v := 9) zhx zhb dX10_takeGuests_11 (by decide) ?_
    obtain ⟨zv7, zhp, zhs⟩ := bnd_e zhs
    refine x_cVI (As := [.int 0, .int 0, .int 9]) (rest := []) C zhw zhl (cText_isNumberWithin l D cI h 0 0 9 M zv7 zhp) (by decide) (by decide) kw_13_6 kw_13_7 kw_13_8 kw_1_15 kw_13_9 md_X9_isNumberWithin rfl 1 (wX_c1 h cI M) rfl rfl rfl rfl (Nat.le_of_ble_eq_true rfl) dX10_takeGuests_13 (fun zH zlocs zhw hzv7 => ?_)
    refine lv_if_eq (tgt := 54) zhx zhb dX10_takeGuests_16 (by decide) (fun zc9 => ?_) (fun zc9 => ?_)
    · replace zhs := br_T zhs zc9
      refine lv_iconst (v := 0) zhx zhb dX10_takeGuests_54 (by decide) ?_
      cases zhs
      exact zhret _ _ _ _ dX10_takeGuests_55 (by rfl) zhw
    · replace zhs := br_F zhs zc9
      refine lv_aload_n zhx zhb dX10_takeGuests_19 rfl (lv_at zhl 1 rfl) ?_
      refine lv_iconst (v := 1) zhx zhb dX10_takeGuests_20 (by decide) ?_
      refine lv_iconst (v := 1) zhx zhb dX10_takeGuests_21 (by decide) ?_
      refine lv_bipush (v := 99) zhx zhb dX10_takeGuests_22 (by decide) ?_
      obtain ⟨zv13, zhp, zhs⟩ := bnd_e zhs
      refine x_cVI (As := [.int 1, .int 1, .int 99]) (rest := []) C zhw zhl (cText_isNumberWithin l D cI h 1 1 99 M zv13 zhp) (by decide) (by decide) kw_13_6 kw_13_7 kw_13_8 kw_1_15 kw_13_9 md_X9_isNumberWithin rfl 1 (wX_c1 h cI M) rfl rfl rfl rfl (Nat.le_of_ble_eq_true rfl) dX10_takeGuests_24 (fun zH zlocs zhw hzv13 => ?_)
      refine lv_if_eq (tgt := 54) zhx zhb dX10_takeGuests_27 (by decide) (fun zc9 => ?_) (fun zc9 => ?_)
      · replace zhs := br_T zhs zc9
        refine lv_iconst (v := 0) zhx zhb dX10_takeGuests_54 (by decide) ?_
        cases zhs
        exact zhret _ _ _ _ dX10_takeGuests_55 (by rfl) zhw
      · replace zhs := br_F zhs zc9
        refine lv_aload_n zhx zhb dX10_takeGuests_30 rfl (lv_at zhl 0 rfl) ?_
        refine x_get C zhw inlX10 rfl 22 6 (by decide) kw_3_22 rfl (wX_c22 h cI M) rfl dX10_takeGuests_31 ?_
        refine lv_aload_n zhx zhb dX10_takeGuests_34 rfl (lv_at zhl 1 rfl) ?_
        refine lv_iconst (v := 0) zhx zhb dX10_takeGuests_35 (by decide) ?_
        obtain ⟨zv18, zhp, zhs⟩ := bnd_e zhs
        refine x_cVI (As := [.int 0]) (rest := [.ref (h 37)]) C zhw zhl (cText_number l D cI h 0 M zv18 zhp) (by decide) (by decide) kw_13_14 kw_13_11 kw_13_12 kw_1_15 kw_13_13 md_X9_number rfl 1 (wX_c1 h cI M) rfl rfl rfl rfl (Nat.le_of_ble_eq_true rfl) dX10_takeGuests_36 (fun zH zlocs zhw hn9 => ?_)
        refine lv_aload_n zhx zhb dX10_takeGuests_39 rfl (lv_at zhl 1 rfl) ?_
        refine lv_iconst (v := 1) zhx zhb dX10_takeGuests_40 (by decide) ?_
        obtain ⟨zv19, zhp, zhs⟩ := bnd_e zhs
        refine x_cVI (As := [.int 1]) (rest := [.int zv18, .ref (h 37)]) C zhw zhl (cText_number l D cI h 1 M zv19 zhp) (by decide) (by decide) kw_13_14 kw_13_11 kw_13_12 kw_1_15 kw_13_13 md_X9_number rfl 1 (wX_c1 h cI M) rfl rfl rfl rfl (Nat.le_of_ble_eq_true rfl) dX10_takeGuests_41 (fun zH zlocs zhw hn9 => ?_)
        obtain ⟨⟨zv20, zM21⟩, zhp, zhs⟩ := bnd_e zhs
        try dsimp only at zhs
        refine x_cVI (As := [.int zv18, .int zv19]) (rest := []) C zhw zhl (cParty_add_l l D cI h zv18 zv19 M zv20 zM21 zhp) (by decide) (by decide) kw_14_21 kw_14_22 kw_14_23 kw_3_21 kw_15_0 md_X5_add rfl 37 (wX_c37 h cI M) rfl rfl rfl rfl (Nat.le_of_ble_eq_true rfl) dX10_takeGuests_44 (fun zH zlocs zhw hzv20 => ?_)
        refine lv_if_eq (tgt := 54) zhx zhb dX10_takeGuests_47 (by decide) (fun zc9 => ?_) (fun zc9 => ?_)
        · replace zhs := br_T zhs zc9
          refine lv_iconst (v := 0) zhx zhb dX10_takeGuests_54 (by decide) ?_
          cases zhs
          exact zhret _ _ _ _ dX10_takeGuests_55 (by rfl) zhw
        · replace zhs := br_F zhs zc9
          refine lv_iconst (v := 1) zhx zhb dX10_takeGuests_50 (by decide) ?_
          refine lv_goto (tgt := 55) zhx zhb dX10_takeGuests_51 (by decide) ?_
          cases zhs
          exact zhret _ _ _ _ dX10_takeGuests_55 (by rfl) zhw

-- OffFirst$Cells.openIn in (23, ())
def sCells_openIn_l (a1 : Int32) (M : Mm) : Option Mm :=
  ltM (mset M 23 4 ((M 23 4) ||| (1 <<< (a1 &&& 31)))) fun zM1 =>
  some zM1
set_option maxHeartbeats 4000000 in
set_option maxRecDepth 100000 in
theorem cCells_openIn_l (l : Launch) (D : va_G) (cI : ClassId) (h : Nat → Nat) (a1 : Int32) (M : Mm) (M' : Mm) (zhs : sCells_openIn_l a1 M = some M') : CtV l yX0_openIn cX0_openIn 2 1 D cI (wX h cI M) (wX h cI M') [.ref (h 23), .int a1] := by
  unfold sCells_openIn_l at zhs
  refine CtV_of (by decide +kernel) (Nat.le_of_ble_eq_true rfl) ?_
  intro p e s m args below meth c A Q zls zH zlocs C zhw zhl zhret
  have zhx := C.1
  have zhb := C.2.1
  have zhown := C.2.2.2.2.1
  have zhtB := C.2.2.2.2.2.2.1
  have zhl : lv_has zls 2 [(0, .ref (h 23)), (1, .int a1)] := zhl
  refine lv_aload_n zhx zhb dX0_openIn_0 rfl (lv_at zhl 0 rfl) ?_
  refine lv_dup zhx zhb dX0_openIn_1 rfl ?_
  refine x_get C zhw inlX0 rfl 23 4 (by decide) kw_11_19 rfl (wX_c23 h cI M) rfl dX0_openIn_2 ?_
  refine lv_iconst (v := 1) zhx zhb dX0_openIn_5 (by decide) ?_
  refine lv_iload_n zhx zhb dX0_openIn_6 rfl (lv_at zhl 1 rfl) ?_
  refine lv_ishl zhx zhb dX0_openIn_7 ?_
  refine lv_ior zhx zhb dX0_openIn_8 ?_
  refine x_put C zhw inlX0 rfl tyX0_ok nmX0 23 4 (by decide) kw_11_19 rfl rfl rfl (wX_c23 h cI M) (Nat.le_of_ble_eq_true rfl) (wX_s23_4 h cI M _) dX0_openIn_9 (fun zH zlocs zhw => ?_)
  obtain ⟨zM1, ze9, zhs⟩ := ltM_e zhs
  rw [← ze9] at zhw; clear ze9
  cases zhs
  exact zhret _ _ _ _ dX0_openIn_12 zhw

-- OffFirst$Told.takeOpenedHour in (22, (1,))
def sTold_takeOpenedHour_l (M : Mm) : Option (Int32 × Mm) :=
  (if (M 1 4) = 1 then (sText_isNumberWithin 0 0 23 M).bind fun zv1 =>
  (if zv1 = 0 then some (0, M)
  else (sText_number 0 M).bind fun zv2 =>
  (sCells_openIn_l zv2 M).bind fun zM3 =>
  some (1, zM3))
  else some (0, M))
set_option maxHeartbeats 4000000 in
set_option maxRecDepth 100000 in
theorem cTold_takeOpenedHour_l (l : Launch) (D : va_G) (cI : ClassId) (h : Nat → Nat) (M : Mm) (r : Int32) (M' : Mm) (zhs : sTold_takeOpenedHour_l M = some (r, M')) : CtI l yX10_takeOpenedHour cX10_takeOpenedHour 2 (some .boolean) 4 D cI (wX h cI M) (wX h cI M') [.ref (h 22), .ref (h 1)] r := by
  unfold sTold_takeOpenedHour_l at zhs
  refine CtI_of (by decide +kernel) (Nat.le_of_ble_eq_true rfl) ⟨_, rfl⟩ ?_
  intro p e s m args below meth c A Q zls zH zlocs C zhw zhl zhret
  have zhx := C.1
  have zhb := C.2.1
  have zhown := C.2.2.2.2.1
  have zhtB := C.2.2.2.2.2.2.1
  have zhl : lv_has zls 2 [(0, .ref (h 22)), (1, .ref (h 1))] := zhl
  refine lv_aload_n zhx zhb dX10_takeOpenedHour_0 rfl (lv_at zhl 1 rfl) ?_
  refine x_getN C zhw inlX9 rfl 1 4 (by decide) (List.mem_of_getElem? (i := 3) rfl) rfl (wX_c1 h cI M) rfl dX10_takeOpenedHour_1 ?_
  refine lv_iconst (v := 1) zhx zhb dX10_takeOpenedHour_4 (by decide) ?_
  refine lv_icmp_ne (tgt := 19) zhx zhb dX10_takeOpenedHour_5 (by decide) (fun zc9 => ?_) (fun zc9 => ?_)
  · replace zhs := br_F zhs zc9
    refine lv_iconst (v := 0) zhx zhb dX10_takeOpenedHour_19 (by decide) ?_
    cases zhs
    exact zhret _ _ _ _ dX10_takeOpenedHour_20 (by rfl) zhw
  · replace zhs := br_T zhs zc9
    refine lv_aload_n zhx zhb dX10_takeOpenedHour_8 rfl (lv_at zhl 1 rfl) ?_
    refine lv_iconst (v := 0) zhx zhb dX10_takeOpenedHour_9 (by decide) ?_
    refine lv_iconst (v := 0) zhx zhb dX10_takeOpenedHour_10 (by decide) ?_
    refine lv_bipush (v := 23) zhx zhb dX10_takeOpenedHour_11 (by decide) ?_
    obtain ⟨zv1, zhp, zhs⟩ := bnd_e zhs
    refine x_cVI (As := [.int 0, .int 0, .int 23]) (rest := []) C zhw zhl (cText_isNumberWithin l D cI h 0 0 23 M zv1 zhp) (by decide) (by decide) kw_13_6 kw_13_7 kw_13_8 kw_1_15 kw_13_9 md_X9_isNumberWithin rfl 1 (wX_c1 h cI M) rfl rfl rfl rfl (Nat.le_of_ble_eq_true rfl) dX10_takeOpenedHour_13 (fun zH zlocs zhw hzv1 => ?_)
    refine lv_if_ne (tgt := 21) zhx zhb dX10_takeOpenedHour_16 (by decide) (fun zc9 => ?_) (fun zc9 => ?_)
    · replace zhs := br_F zhs zc9
      refine lv_aload_n zhx zhb dX10_takeOpenedHour_21 rfl (lv_at zhl 0 rfl) ?_
      refine x_get C zhw inlX10 rfl 22 0 (by decide) kw_3_12 rfl (wX_c22 h cI M) rfl dX10_takeOpenedHour_22 ?_
      refine lv_aload_n zhx zhb dX10_takeOpenedHour_25 rfl (lv_at zhl 1 rfl) ?_
      refine lv_iconst (v := 0) zhx zhb dX10_takeOpenedHour_26 (by decide) ?_
      obtain ⟨zv2, zhp, zhs⟩ := bnd_e zhs
      refine x_cVI (As := [.int 0]) (rest := [.ref (h 23)]) C zhw zhl (cText_number l D cI h 0 M zv2 zhp) (by decide) (by decide) kw_13_14 kw_13_11 kw_13_12 kw_1_15 kw_13_13 md_X9_number rfl 1 (wX_c1 h cI M) rfl rfl rfl rfl (Nat.le_of_ble_eq_true rfl) dX10_takeOpenedHour_27 (fun zH zlocs zhw hn9 => ?_)
      obtain ⟨zM3, zhp, zhs⟩ := bnd_e zhs
      refine x_cVV (As := [.int zv2]) (rest := []) C zhw zhl (cCells_openIn_l l D cI h zv2 M zM3 zhp) (by decide) (by decide) kw_13_20 kw_13_21 kw_13_22 kw_3_11 kw_13_23 md_X0_openIn rfl 23 (wX_c23 h cI M) rfl rfl rfl rfl (Nat.le_of_ble_eq_true rfl) dX10_takeOpenedHour_30 (fun zH zlocs zhw => ?_)
      refine lv_iconst (v := 1) zhx zhb dX10_takeOpenedHour_33 (by decide) ?_
      cases zhs
      exact zhret _ _ _ _ dX10_takeOpenedHour_34 (by rfl) zhw
    · replace zhs := br_T zhs zc9
      refine lv_iconst (v := 0) zhx zhb dX10_takeOpenedHour_19 (by decide) ?_
      cases zhs
      exact zhret _ _ _ _ dX10_takeOpenedHour_20 (by rfl) zhw

-- OffFirst$Told.takeSlip in (22, (1,))
def sTold_takeSlip_l (M : Mm) : Option (Int32 × Mm) :=
  (if (M 1 4) = 1 then (sText_isNumberWithin 0 0 4 M).bind fun zv1 =>
  (if zv1 = 0 then some (0, M)
  else (sText_number 0 M).bind fun zv2 =>
  ltM (mset M 22 7 zv2) fun zM3 =>
  some (1, zM3))
  else some (0, M))
set_option maxHeartbeats 4000000 in
set_option maxRecDepth 100000 in
theorem cTold_takeSlip_l (l : Launch) (D : va_G) (cI : ClassId) (h : Nat → Nat) (M : Mm) (r : Int32) (M' : Mm) (zhs : sTold_takeSlip_l M = some (r, M')) : CtI l yX10_takeSlip cX10_takeSlip 2 (some .boolean) 4 D cI (wX h cI M) (wX h cI M') [.ref (h 22), .ref (h 1)] r := by
  unfold sTold_takeSlip_l at zhs
  refine CtI_of (by decide +kernel) (Nat.le_of_ble_eq_true rfl) ⟨_, rfl⟩ ?_
  intro p e s m args below meth c A Q zls zH zlocs C zhw zhl zhret
  have zhx := C.1
  have zhb := C.2.1
  have zhown := C.2.2.2.2.1
  have zhtB := C.2.2.2.2.2.2.1
  have zhl : lv_has zls 2 [(0, .ref (h 22)), (1, .ref (h 1))] := zhl
  refine lv_aload_n zhx zhb dX10_takeSlip_0 rfl (lv_at zhl 1 rfl) ?_
  refine x_getN C zhw inlX9 rfl 1 4 (by decide) (List.mem_of_getElem? (i := 3) rfl) rfl (wX_c1 h cI M) rfl dX10_takeSlip_1 ?_
  refine lv_iconst (v := 1) zhx zhb dX10_takeSlip_4 (by decide) ?_
  refine lv_icmp_ne (tgt := 18) zhx zhb dX10_takeSlip_5 (by decide) (fun zc9 => ?_) (fun zc9 => ?_)
  · replace zhs := br_F zhs zc9
    refine lv_iconst (v := 0) zhx zhb dX10_takeSlip_18 (by decide) ?_
    cases zhs
    exact zhret _ _ _ _ dX10_takeSlip_19 (by rfl) zhw
  · replace zhs := br_T zhs zc9
    refine lv_aload_n zhx zhb dX10_takeSlip_8 rfl (lv_at zhl 1 rfl) ?_
    refine lv_iconst (v := 0) zhx zhb dX10_takeSlip_9 (by decide) ?_
    refine lv_iconst (v := 0) zhx zhb dX10_takeSlip_10 (by decide) ?_
    refine lv_iconst (v := 4) zhx zhb dX10_takeSlip_11 (by decide) ?_
    obtain ⟨zv1, zhp, zhs⟩ := bnd_e zhs
    refine x_cVI (As := [.int 0, .int 0, .int 4]) (rest := []) C zhw zhl (cText_isNumberWithin l D cI h 0 0 4 M zv1 zhp) (by decide) (by decide) kw_13_6 kw_13_7 kw_13_8 kw_1_15 kw_13_9 md_X9_isNumberWithin rfl 1 (wX_c1 h cI M) rfl rfl rfl rfl (Nat.le_of_ble_eq_true rfl) dX10_takeSlip_12 (fun zH zlocs zhw hzv1 => ?_)
    refine lv_if_ne (tgt := 20) zhx zhb dX10_takeSlip_15 (by decide) (fun zc9 => ?_) (fun zc9 => ?_)
    · replace zhs := br_F zhs zc9
      refine lv_aload_n zhx zhb dX10_takeSlip_20 rfl (lv_at zhl 0 rfl) ?_
      refine lv_aload_n zhx zhb dX10_takeSlip_21 rfl (lv_at zhl 1 rfl) ?_
      refine lv_iconst (v := 0) zhx zhb dX10_takeSlip_22 (by decide) ?_
      obtain ⟨zv2, zhp, zhs⟩ := bnd_e zhs
      refine x_cVI (As := [.int 0]) (rest := [.ref (h 22)]) C zhw zhl (cText_number l D cI h 0 M zv2 zhp) (by decide) (by decide) kw_13_14 kw_13_11 kw_13_12 kw_1_15 kw_13_13 md_X9_number rfl 1 (wX_c1 h cI M) rfl rfl rfl rfl (Nat.le_of_ble_eq_true rfl) dX10_takeSlip_23 (fun zH zlocs zhw hn9 => ?_)
      refine x_put C zhw inlX10 rfl tyX10_ok nmX10 22 7 (by decide) kw_3_23 rfl rfl rfl (wX_c22 h cI M) (Nat.le_of_ble_eq_true rfl) (wX_s22_7 h cI M _) dX10_takeSlip_26 (fun zH zlocs zhw => ?_)
      obtain ⟨zM3, ze9, zhs⟩ := ltM_e zhs
      rw [← ze9] at zhw; clear ze9
      refine lv_iconst (v := 1) zhx zhb dX10_takeSlip_29 (by decide) ?_
      cases zhs
      exact zhret _ _ _ _ dX10_takeSlip_30 (by rfl) zhw
    · replace zhs := br_T zhs zc9
      refine lv_iconst (v := 0) zhx zhb dX10_takeSlip_18 (by decide) ?_
      cases zhs
      exact zhret _ _ _ _ dX10_takeSlip_19 (by rfl) zhw

-- OffFirst$Told.takeItem in (22, (1,))
def sTold_takeItem_l (M : Mm) : Option (Int32 × Mm) :=
  ltI (M 1 2) fun zv1 =>
  (if zv1 = 98 then (sTold_takePacks_l M).bind fun (zv2, zM3) =>
  some (zv2, zM3)
  else (if zv1 = 99 then (sTold_takeCell_l M).bind fun (zv4, zM5) =>
  some (zv4, zM5)
  else (if zv1 = 100 then (sTold_takeDish_l M).bind fun (zv6, zM7) =>
  some (zv6, zM7)
  else (if zv1 = 101 then (sTold_takeEater_l M).bind fun (zv8, zM9) =>
  some (zv8, zM9)
  else (if zv1 = 102 then (sTold_takeFood_l M).bind fun (zv10, zM11) =>
  some (zv10, zM11)
  else (if zv1 = 103 then (sTold_takeGuests_l M).bind fun (zv12, zM13) =>
  some (zv12, zM13)
  else (if zv1 = 111 then (sTold_takeOpenedHour_l M).bind fun (zv14, zM15) =>
  some (zv14, zM15)
  else (if zv1 = 115 then (sTold_takeSlip_l M).bind fun (zv16, zM17) =>
  some (zv16, zM17)
  else some (0, M)))))))))
set_option maxHeartbeats 4000000 in
set_option maxRecDepth 100000 in
theorem cTold_takeItem_l (l : Launch) (D : va_G) (cI : ClassId) (h : Nat → Nat) (M : Mm) (r : Int32) (M' : Mm) (zhs : sTold_takeItem_l M = some (r, M')) : CtI l yX10_takeItem cX10_takeItem 2 (some .boolean) 5 D cI (wX h cI M) (wX h cI M') [.ref (h 22), .ref (h 1)] r := by
  unfold sTold_takeItem_l at zhs
  refine CtI_of (by decide +kernel) (Nat.le_of_ble_eq_true rfl) ⟨_, rfl⟩ ?_
  intro p e s m args below meth c A Q zls zH zlocs C zhw zhl zhret
  have zhx := C.1
  have zhb := C.2.1
  have zhown := C.2.2.2.2.1
  have zhtB := C.2.2.2.2.2.2.1
  have zhl : lv_has zls 2 [(0, .ref (h 22)), (1, .ref (h 1))] := zhl
  refine lv_aload_n zhx zhb dX10_takeItem_0 rfl (lv_at zhl 1 rfl) ?_
  refine x_getN C zhw inlX9 rfl 1 2 (by decide) (List.mem_of_getElem? (i := 2) rfl) rfl (wX_c1 h cI M) rfl dX10_takeItem_1 ?_
  obtain ⟨zv1, ze9, zhs⟩ := ltI_e zhs
  refine lv_topi (fun zy9 ze8 => ?_)
  obtain rfl : zv1 = zy9 := ze9.trans ze8.symm
  clear ze9 ze8
  rcases Decidable.em (zv1 = 98) with zc9 | c1098
  · replace zhs := br_T zhs zc9
    refine lv_tableIn (tgt := 128) (off := 124) zhx zhb dX10_takeItem_4 (by rw [zc9]; decide) (by rw [zc9]; decide) (by rw [zc9]; decide) (by decide) ?_
    refine lv_aload_n zhx zhb dX10_takeItem_128 rfl (lv_at zhl 0 rfl) ?_
    refine lv_aload_n zhx zhb dX10_takeItem_129 rfl (lv_at zhl 1 rfl) ?_
    obtain ⟨⟨zv2, zM3⟩, zhp, zhs⟩ := bnd_e zhs
    try dsimp only at zhs
    refine x_cVI (As := [.ref (h 1)]) (rest := []) C zhw zhl (cTold_takePacks_l l D cI h M zv2 zM3 zhp) (by decide) (by decide) kw_15_1 kw_15_2 kw_15_3 kw_1_19 kw_15_4 md_X10_takePacks rfl 22 (wX_c22 h cI M) rfl rfl rfl rfl (Nat.le_of_ble_eq_true rfl) dX10_takeItem_130 (fun zH zlocs zhw hzv2 => ?_)
    cases zhs
    exact zhret _ _ _ _ dX10_takeItem_133 hzv2 zhw
  replace zhs := br_F zhs c1098
  rcases Decidable.em (zv1 = 99) with zc9 | c1099
  · replace zhs := br_T zhs zc9
    refine lv_tableIn (tgt := 92) (off := 88) zhx zhb dX10_takeItem_4 (by rw [zc9]; decide) (by rw [zc9]; decide) (by rw [zc9]; decide) (by decide) ?_
    refine lv_aload_n zhx zhb dX10_takeItem_92 rfl (lv_at zhl 0 rfl) ?_
    refine lv_aload_n zhx zhb dX10_takeItem_93 rfl (lv_at zhl 1 rfl) ?_
    obtain ⟨⟨zv4, zM5⟩, zhp, zhs⟩ := bnd_e zhs
    try dsimp only at zhs
    refine x_cVI (As := [.ref (h 1)]) (rest := []) C zhw zhl (cTold_takeCell_l l D cI h M zv4 zM5 zhp) (by decide) (by decide) kw_13_2 kw_13_3 kw_13_4 kw_1_19 kw_13_5 md_X10_takeCell rfl 22 (wX_c22 h cI M) rfl rfl rfl rfl (Nat.le_of_ble_eq_true rfl) dX10_takeItem_94 (fun zH zlocs zhw hzv4 => ?_)
    cases zhs
    exact zhret _ _ _ _ dX10_takeItem_97 hzv4 zhw
  replace zhs := br_F zhs c1099
  rcases Decidable.em (zv1 = 100) with zc9 | c1100
  · replace zhs := br_T zhs zc9
    refine lv_tableIn (tgt := 110) (off := 106) zhx zhb dX10_takeItem_4 (by rw [zc9]; decide) (by rw [zc9]; decide) (by rw [zc9]; decide) (by decide) ?_
    refine lv_aload_n zhx zhb dX10_takeItem_110 rfl (lv_at zhl 0 rfl) ?_
    refine lv_aload_n zhx zhb dX10_takeItem_111 rfl (lv_at zhl 1 rfl) ?_
    obtain ⟨⟨zv6, zM7⟩, zhp, zhs⟩ := bnd_e zhs
    try dsimp only at zhs
    refine x_cVI (As := [.ref (h 1)]) (rest := []) C zhw zhl (cTold_takeDish_l l D cI h M zv6 zM7 zhp) (by decide) (by decide) kw_14_9 kw_14_10 kw_14_11 kw_1_19 kw_14_12 md_X10_takeDish rfl 22 (wX_c22 h cI M) rfl rfl rfl rfl (Nat.le_of_ble_eq_true rfl) dX10_takeItem_112 (fun zH zlocs zhw hzv6 => ?_)
    cases zhs
    exact zhret _ _ _ _ dX10_takeItem_115 hzv6 zhw
  replace zhs := br_F zhs c1100
  rcases Decidable.em (zv1 = 101) with zc9 | c1101
  · replace zhs := br_T zhs zc9
    refine lv_tableIn (tgt := 116) (off := 112) zhx zhb dX10_takeItem_4 (by rw [zc9]; decide) (by rw [zc9]; decide) (by rw [zc9]; decide) (by decide) ?_
    refine lv_aload_n zhx zhb dX10_takeItem_116 rfl (lv_at zhl 0 rfl) ?_
    refine lv_aload_n zhx zhb dX10_takeItem_117 rfl (lv_at zhl 1 rfl) ?_
    obtain ⟨⟨zv8, zM9⟩, zhp, zhs⟩ := bnd_e zhs
    try dsimp only at zhs
    refine x_cVI (As := [.ref (h 1)]) (rest := []) C zhw zhl (cTold_takeEater_l l D cI h M zv8 zM9 zhp) (by decide) (by decide) kw_14_13 kw_14_14 kw_14_15 kw_1_19 kw_14_16 md_X10_takeEater rfl 22 (wX_c22 h cI M) rfl rfl rfl rfl (Nat.le_of_ble_eq_true rfl) dX10_takeItem_118 (fun zH zlocs zhw hzv8 => ?_)
    cases zhs
    exact zhret _ _ _ _ dX10_takeItem_121 hzv8 zhw
  replace zhs := br_F zhs c1101
  rcases Decidable.em (zv1 = 102) with zc9 | c1102
  · replace zhs := br_T zhs zc9
    refine lv_tableIn (tgt := 104) (off := 100) zhx zhb dX10_takeItem_4 (by rw [zc9]; decide) (by rw [zc9]; decide) (by rw [zc9]; decide) (by decide) ?_
    refine lv_aload_n zhx zhb dX10_takeItem_104 rfl (lv_at zhl 0 rfl) ?_
    refine lv_aload_n zhx zhb dX10_takeItem_105 rfl (lv_at zhl 1 rfl) ?_
    obtain ⟨⟨zv10, zM11⟩, zhp, zhs⟩ := bnd_e zhs
    try dsimp only at zhs
    refine x_cVI (As := [.ref (h 1)]) (rest := []) C zhw zhl (cTold_takeFood_l l D cI h M zv10 zM11 zhp) (by decide) (by decide) kw_14_0 kw_14_1 kw_14_2 kw_1_19 kw_14_3 md_X10_takeFood rfl 22 (wX_c22 h cI M) rfl rfl rfl rfl (Nat.le_of_ble_eq_true rfl) dX10_takeItem_106 (fun zH zlocs zhw hzv10 => ?_)
    cases zhs
    exact zhret _ _ _ _ dX10_takeItem_109 hzv10 zhw
  replace zhs := br_F zhs c1102
  rcases Decidable.em (zv1 = 103) with zc9 | c1103
  · replace zhs := br_T zhs zc9
    refine lv_tableIn (tgt := 122) (off := 118) zhx zhb dX10_takeItem_4 (by rw [zc9]; decide) (by rw [zc9]; decide) (by rw [zc9]; decide) (by decide) ?_
    refine lv_aload_n zhx zhb dX10_takeItem_122 rfl (lv_at zhl 0 rfl) ?_
    refine lv_aload_n zhx zhb dX10_takeItem_123 rfl (lv_at zhl 1 rfl) ?_
    obtain ⟨⟨zv12, zM13⟩, zhp, zhs⟩ := bnd_e zhs
    try dsimp only at zhs
    refine x_cVI (As := [.ref (h 1)]) (rest := []) C zhw zhl (cTold_takeGuests_l l D cI h M zv12 zM13 zhp) (by decide) (by decide) kw_14_17 kw_14_18 kw_14_19 kw_1_19 kw_14_20 md_X10_takeGuests rfl 22 (wX_c22 h cI M) rfl rfl rfl rfl (Nat.le_of_ble_eq_true rfl) dX10_takeItem_124 (fun zH zlocs zhw hzv12 => ?_)
    cases zhs
    exact zhret _ _ _ _ dX10_takeItem_127 hzv12 zhw
  replace zhs := br_F zhs c1103
  rcases Decidable.em (zv1 = 111) with zc9 | c1111
  · replace zhs := br_T zhs zc9
    refine lv_tableIn (tgt := 98) (off := 94) zhx zhb dX10_takeItem_4 (by rw [zc9]; decide) (by rw [zc9]; decide) (by rw [zc9]; decide) (by decide) ?_
    refine lv_aload_n zhx zhb dX10_takeItem_98 rfl (lv_at zhl 0 rfl) ?_
    refine lv_aload_n zhx zhb dX10_takeItem_99 rfl (lv_at zhl 1 rfl) ?_
    obtain ⟨⟨zv14, zM15⟩, zhp, zhs⟩ := bnd_e zhs
    try dsimp only at zhs
    refine x_cVI (As := [.ref (h 1)]) (rest := []) C zhw zhl (cTold_takeOpenedHour_l l D cI h M zv14 zM15 zhp) (by decide) (by decide) kw_13_16 kw_13_17 kw_13_18 kw_1_19 kw_13_19 md_X10_takeOpenedHour rfl 22 (wX_c22 h cI M) rfl rfl rfl rfl (Nat.le_of_ble_eq_true rfl) dX10_takeItem_100 (fun zH zlocs zhw hzv14 => ?_)
    cases zhs
    exact zhret _ _ _ _ dX10_takeItem_103 hzv14 zhw
  replace zhs := br_F zhs c1111
  rcases Decidable.em (zv1 = 115) with zc9 | c1115
  · replace zhs := br_T zhs zc9
    refine lv_tableIn (tgt := 134) (off := 130) zhx zhb dX10_takeItem_4 (by rw [zc9]; decide) (by rw [zc9]; decide) (by rw [zc9]; decide) (by decide) ?_
    refine lv_aload_n zhx zhb dX10_takeItem_134 rfl (lv_at zhl 0 rfl) ?_
    refine lv_aload_n zhx zhb dX10_takeItem_135 rfl (lv_at zhl 1 rfl) ?_
    obtain ⟨⟨zv16, zM17⟩, zhp, zhs⟩ := bnd_e zhs
    try dsimp only at zhs
    refine x_cVI (As := [.ref (h 1)]) (rest := []) C zhw zhl (cTold_takeSlip_l l D cI h M zv16 zM17 zhp) (by decide) (by decide) kw_15_5 kw_15_6 kw_15_7 kw_1_19 kw_15_8 md_X10_takeSlip rfl 22 (wX_c22 h cI M) rfl rfl rfl rfl (Nat.le_of_ble_eq_true rfl) dX10_takeItem_136 (fun zH zlocs zhw hzv16 => ?_)
    cases zhs
    exact zhret _ _ _ _ dX10_takeItem_139 hzv16 zhw
  replace zhs := br_F zhs c1115
  refine x_tabD (tgt := 140) zhx zhb dX10_takeItem_4 (fun h1 h2 => ?_) (by decide) ?_
  · have zhz : ∀ j : Nat, j < 18 → (¬ j = 0 ∧ ¬ j = 1 ∧ ¬ j = 2 ∧ ¬ j = 3 ∧ ¬ j = 4 ∧ ¬ j = 5 ∧ ¬ j = 13 ∧ ¬ j = 17) → (#[124, 88, 106, 112, 100, 118, 136, 136, 136, 136, 136, 136, 136, 94, 136, 136, 136, 130] : Array Int)[j]? = some (136 : Int) := by decide
    refine zhz _ (by omega) ⟨fun zq9 => c1098 (Int32.toInt_inj.mp (show zv1.toInt = (98 : Int32).toInt from by rw [show (98 : Int32).toInt = 98 from rfl]; omega)), fun zq9 => c1099 (Int32.toInt_inj.mp (show zv1.toInt = (99 : Int32).toInt from by rw [show (99 : Int32).toInt = 99 from rfl]; omega)), fun zq9 => c1100 (Int32.toInt_inj.mp (show zv1.toInt = (100 : Int32).toInt from by rw [show (100 : Int32).toInt = 100 from rfl]; omega)), fun zq9 => c1101 (Int32.toInt_inj.mp (show zv1.toInt = (101 : Int32).toInt from by rw [show (101 : Int32).toInt = 101 from rfl]; omega)), fun zq9 => c1102 (Int32.toInt_inj.mp (show zv1.toInt = (102 : Int32).toInt from by rw [show (102 : Int32).toInt = 102 from rfl]; omega)), fun zq9 => c1103 (Int32.toInt_inj.mp (show zv1.toInt = (103 : Int32).toInt from by rw [show (103 : Int32).toInt = 103 from rfl]; omega)), fun zq9 => c1111 (Int32.toInt_inj.mp (show zv1.toInt = (111 : Int32).toInt from by rw [show (111 : Int32).toInt = 111 from rfl]; omega)), fun zq9 => c1115 (Int32.toInt_inj.mp (show zv1.toInt = (115 : Int32).toInt from by rw [show (115 : Int32).toInt = 115 from rfl]; omega))⟩
  refine lv_iconst (v := 0) zhx zhb dX10_takeItem_140 (by decide) ?_
  cases zhs
  exact zhret _ _ _ _ dX10_takeItem_141 (by rfl) zhw

