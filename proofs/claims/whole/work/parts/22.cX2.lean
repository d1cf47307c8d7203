-- OffFirst$Told.takeSlip in (4, (1,))
def sTold_takeSlip_d (M : Mm) : Option (Int32 × Mm) :=
  (if (M 1 4) = 1 then (sText_isNumberWithin 0 0 4 M).bind fun zv1 =>
  (if zv1 = 0 then some (0, M)
  else (sText_number 0 M).bind fun zv2 =>
  ltM (mset M 4 7 zv2) fun zM3 =>
  some (1, zM3))
  else some (0, M))
set_option maxHeartbeats 4000000 in
set_option maxRecDepth 100000 in
theorem cTold_takeSlip_d (l : Launch) (D : va_G) (cI : ClassId) (h : Nat → Nat) (M : Mm) (r : Int32) (M' : Mm) (zhs : sTold_takeSlip_d M = some (r, M')) : CtI l yX10_takeSlip cX10_takeSlip 2 (some .boolean) 4 D cI (wX h cI M) (wX h cI M') [.ref (h 4), .ref (h 1)] r := by
  unfold sTold_takeSlip_d at zhs
  refine CtI_of (by decide +kernel) (Nat.le_of_ble_eq_true rfl) ⟨_, rfl⟩ ?_
  intro p e s m args below meth c A Q zls zH zlocs C zhw zhl zhret
  have zhx := C.1
  have zhb := C.2.1
  have zhown := C.2.2.2.2.1
  have zhtB := C.2.2.2.2.2.2.1
  have zhl : lv_has zls 2 [(0, .ref (h 4)), (1, .ref (h 1))] := zhl
  refine lv_aload_n zhx zhb dX10_takeSlip_0 rfl (lv_at zhl 1 rfl) ?_
  refine x_getN C zhw inlX9 rfl 1 4 (by decide) (List.mem_of_getElem? (i := 3) rfl) rfl (wX_c1 h cI M) rfl dX10_takeSlip_1 ?_
  refine lv_iconst (v := 1) zhx zhb dX10_takeSlip_4 (by decide) ?_
  refine lv_icmp_ne (tgt := 18) zhx zhb dX10_takeSlip_5 (by decide) (fun zc9 => ?_) (fun zc9 => ?_)
  · replace zhs := br_F zhs zc9
    refine lv_iconst (v := 0) zhx zhb dX10_takeSlip_18 (by decide) ?_
    cases zhs
    exact zhret _ _ _ _ dX10_takeSlip_19 (by rfl) zhw
  · replace zhs := br_T zhs zc9
    refine lv_aload_n zhx zhb dX10_takeSlip_8 rfl (lv_at zhl 1 rfl) ?_
    refine lv_iconst (v := 0) zhx zhb dX10_takeSlip_9 (by decide) ?_
    refine lv_iconst (v := 0) zhx zhb dX10_takeSlip_10 (by decide) ?_
    refine lv_iconst (v := 4) zhx zhb dX10_takeSlip_11 (by decide) ?_
    obtain ⟨zv1, zhp, zhs⟩ := bnd_e zhs
    refine x_cVI (As := [.int 0, .int 0, .int 4]) (rest := []) C zhw zhl (cText_isNumberWithin l D cI h 0 0 4 M zv1 zhp) (by decide) (by decide) kw_13_6 kw_13_7 kw_13_8 kw_1_15 kw_13_9 md_X9_isNumberWithin rfl 1 (wX_c1 h cI M) rfl rfl rfl rfl (Nat.le_of_ble_eq_true rfl) dX10_takeSlip_12 (fun zH zlocs zhw hzv1 => ?_)
    refine lv_if_ne (tgt := 20) zhx zhb dX10_takeSlip_15 (by decide) (fun zc9 => ?_) (fun zc9 => ?_)
    · replace zhs := br_F zhs zc9
      refine lv_aload_n zhx zhb dX10_takeSlip_20 rfl (lv_at zhl 0 rfl) ?_
      refine lv_aload_n zhx zhb dX10_takeSlip_21 rfl (lv_at zhl 1 rfl) ?_
      refine lv_iconst (v := 0) zhx zhb dX10_takeSlip_22 (by decide) ?_
      obtain ⟨zv2, zhp, zhs⟩ := bnd_e zhs
      refine x_cVI (As := [.int 0]) (rest := [.ref (h 4)]) C zhw zhl (cText_number l D cI h 0 M zv2 zhp) (by decide) (by decide) kw_13_14 kw_13_11 kw_13_12 kw_1_15 kw_13_13 md_X9_number rfl 1 (wX_c1 h cI M) rfl rfl rfl rfl (Nat.le_of_ble_eq_true rfl) dX10_takeSlip_23 (fun zH zlocs zhw hn9 => ?_)
      refine x_put C zhw inlX10 rfl tyX10_ok nmX10 4 7 (by decide) kw_3_23 rfl rfl rfl (wX_c4 h cI M) (Nat.le_of_ble_eq_true rfl) (wX_s4_7 h cI M _) dX10_takeSlip_26 (fun zH zlocs zhw => ?_)
      obtain ⟨zM3, ze9, zhs⟩ := ltM_e zhs
      rw [← ze9] at zhw; clear ze9
      refine lv_iconst (v := 1) zhx zhb dX10_takeSlip_29 (by decide) ?_
      cases zhs
      exact zhret _ _ _ _ dX10_takeSlip_30 (by rfl) zhw
    · replace zhs := br_T zhs zc9
      refine lv_iconst (v := 0) zhx zhb dX10_takeSlip_18 (by decide) ?_
      cases zhs
      exact zhret _ _ _ _ dX10_takeSlip_19 (by rfl) zhw

-- OffFirst$Told.takeItem in (4, (1,))
def sTold_takeItem_d (M : Mm) : Option (Int32 × Mm) :=
  ltI (M 1 2) fun zv1 =>
  (if zv1 = 98 then (sTold_takePacks_d M).bind fun (zv2, zM3) =>
  some (zv2, zM3)
  else (if zv1 = 99 then (sTold_takeCell_d M).bind fun (zv4, zM5) =>
  some (zv4, zM5)
  else (if zv1 = 100 then (sTold_takeDish_d M).bind fun (zv6, zM7) =>
  some (zv6, zM7)
  else (if zv1 = 101 then (sTold_takeEater_d M).bind fun (zv8, zM9) =>
  some (zv8, zM9)
  else (if zv1 = 102 then (sTold_takeFood_d M).bind fun (zv10, zM11) =>
  some (zv10, zM11)
  else (if zv1 = 103 then (sTold_takeGuests_d M).bind fun (zv12, zM13) =>
  some (zv12, zM13)
  else (if zv1 = 111 then (sTold_takeOpenedHour_d M).bind fun (zv14, zM15) =>
  some (zv14, zM15)
  else (if zv1 = 115 then (sTold_takeSlip_d M).bind fun (zv16, zM17) =>
  some (zv16, zM17)
  else some (0, M)))))))))
set_option maxHeartbeats 4000000 in
set_option maxRecDepth 100000 in
theorem cTold_takeItem_d (l : Launch) (D : va_G) (cI : ClassId) (h : Nat → Nat) (M : Mm) (r : Int32) (M' : Mm) (zhs : sTold_takeItem_d M = some (r, M')) : CtI l yX10_takeItem cX10_takeItem 2 (some .boolean) 5 D cI (wX h cI M) (wX h cI M') [.ref (h 4), .ref (h 1)] r := by
  unfold sTold_takeItem_d at zhs
  refine CtI_of (by decide +kernel) (Nat.le_of_ble_eq_true rfl) ⟨_, rfl⟩ ?_
  intro p e s m args below meth c A Q zls zH zlocs C zhw zhl zhret
  have zhx := C.1
  have zhb := C.2.1
  have zhown := C.2.2.2.2.1
  have zhtB := C.2.2.2.2.2.2.1
  have zhl : lv_has zls 2 [(0, .ref (h 4)), (1, .ref (h 1))] := zhl
  refine lv_aload_n zhx zhb dX10_takeItem_0 rfl (lv_at zhl 1 rfl) ?_
  refine x_getN C zhw inlX9 rfl 1 2 (by decide) (List.mem_of_getElem? (i := 2) rfl) rfl (wX_c1 h cI M) rfl dX10_takeItem_1 ?_
  obtain ⟨zv1, ze9, zhs⟩ := ltI_e zhs
  refine lv_topi (fun zy9 ze8 => ?_)
  obtain rfl : zv1 = zy9 := ze9.trans ze8.symm
  clear ze9 ze8
  rcases Decidable.em (zv1 = 98) with zc9 | c1098
  · replace zhs := br_T zhs zc9
    refine lv_tableIn (tgt := 128) (off := 124) zhx zhb dX10_takeItem_4 (by rw [zc9]; decide) (by rw [zc9]; decide) (by rw [zc9]; decide) (by decide) ?_
    refine lv_aload_n zhx zhb dX10_takeItem_128 rfl (lv_at zhl 0 rfl) ?_
    refine lv_aload_n zhx zhb dX10_takeItem_129 rfl (lv_at zhl 1 rfl) ?_
    obtain ⟨⟨zv2, zM3⟩, zhp, zhs⟩ := bnd_e zhs
    try dsimp only at zhs
    refine x_cVI (As := [.ref (h 1)]) (rest := []) C zhw zhl (cTold_takePacks_d l D cI h M zv2 zM3 zhp) (by decide) (by decide) kw_15_1 kw_15_2 kw_15_3 kw_1_19 kw_15_4 md_X10_takePacks rfl 4 (wX_c4 h cI M) rfl rfl rfl rfl (Nat.le_of_ble_eq_true rfl) dX10_takeItem_130 (fun zH zlocs zhw hzv2 => ?_)
    cases zhs
    exact zhret _ _ _ _ dX10_takeItem_133 hzv2 zhw
  replace zhs := br_F zhs c1098
  rcases Decidable.em (zv1 = 99) with zc9 | c1099
  · replace zhs := br_T zhs zc9
    refine lv_tableIn (tgt := 92) (off := 88) zhx zhb dX10_takeItem_4 (by rw [zc9]; decide) (by rw [zc9]; decide) (by rw [zc9]; decide) (by decide) ?_
    refine lv_aload_n zhx zhb dX10_takeItem_92 rfl (lv_at zhl 0 rfl) ?_
    refine lv_aload_n zhx zhb dX10_takeItem_93 rfl (lv_at zhl 1 rfl) ?_
    obtain ⟨⟨zv4, zM5⟩, zhp, zhs⟩ := bnd_e zhs
    try dsimp only at zhs
    refine x_cVI (As := [.ref (h 1)]) (rest := []) C zhw zhl (cTold_takeCell_d l D cI h M zv4 zM5 zhp) (by decide) (by decide) kw_13_2 kw_13_3 kw_13_4 kw_1_19 kw_13_5 md_X10_takeCell rfl 4 (wX_c4 h cI M) rfl rfl rfl rfl (Nat.le_of_ble_eq_true rfl) dX10_takeItem_94 (fun zH zlocs zhw hzv4 => ?_)
    cases zhs
    exact zhret _ _ _ _ dX10_takeItem_97 hzv4 zhw
  replace zhs := br_F zhs c1099
  rcases Decidable.em (zv1 = 100) with zc9 | c1100
  · replace zhs := br_T zhs zc9
    refine lv_tableIn (tgt := 110) (off := 106) zhx zhb dX10_takeItem_4 (by rw [zc9]; decide) (by rw [zc9]; decide) (by rw [zc9]; decide) (by decide) ?_
    refine lv_aload_n zhx zhb dX10_takeItem_110 rfl (lv_at zhl 0 rfl) ?_
    refine lv_aload_n zhx zhb dX10_takeItem_111 rfl (lv_at zhl 1 rfl) ?_
    obtain ⟨⟨zv6, zM7⟩, zhp, zhs⟩ := bnd_e zhs
    try dsimp only at zhs
    refine x_cVI (As := [.ref (h 1)]) (rest := []) C zhw zhl (cTold_takeDish_d l D cI h M zv6 zM7 zhp) (by decide) (by decide) kw_14_9 kw_14_10 kw_14_11 kw_1_19 kw_14_12 md_X10_takeDish rfl 4 (wX_c4 h cI M) rfl rfl rfl rfl (Nat.le_of_ble_eq_true rfl) dX10_takeItem_112 (fun zH zlocs zhw hzv6 => ?_)
    cases zhs
    exact zhret _ _ _ _ dX10_takeItem_115 hzv6 zhw
  replace zhs := br_F zhs c1100
  rcases Decidable.em (zv1 = 101) with zc9 | c1101
  · replace zhs := br_T zhs zc9
    refine lv_tableIn (tgt := 116) (off := 112) zhx zhb dX10_takeItem_4 (by rw [zc9]; decide) (by rw [zc9]; decide) (by rw [zc9]; decide) (by decide) ?_
    refine lv_aload_n zhx zhb dX10_takeItem_116 rfl (lv_at zhl 0 rfl) ?_
    refine lv_aload_n zhx zhb dX10_takeItem_117 rfl (lv_at zhl 1 rfl) ?_
    obtain ⟨⟨zv8, zM9⟩, zhp, zhs⟩ := bnd_e zhs
    try dsimp only at zhs
    refine x_cVI (As := [.ref (h 1)]) (rest := []) C zhw zhl (cTold_takeEater_d l D cI h M zv8 zM9 zhp) (by decide) (by decide) kw_14_13 kw_14_14 kw_14_15 kw_1_19 kw_14_16 md_X10_takeEater rfl 4 (wX_c4 h cI M) rfl rfl rfl rfl (Nat.le_of_ble_eq_true rfl) dX10_takeItem_118 (fun zH zlocs zhw hzv8 => ?_)
    cases zhs
    exact zhret _ _ _ _ dX10_takeItem_121 hzv8 zhw
  replace zhs := br_F zhs c1101
  rcases Decidable.em (zv1 = 102) with zc9 | c1102
  · replace zhs := br_T zhs zc9
    refine lv_tableIn (tgt := 104) (off := 100) zhx zhb dX10_takeItem_4 (by rw [zc9]; decide) (by rw [zc9]; decide) (by rw [zc9]; decide) (by decide) ?_
    refine lv_aload_n zhx zhb dX10_takeItem_104 rfl (lv_at zhl 0 rfl) ?_
    refine lv_aload_n zhx zhb dX10_takeItem_105 rfl (lv_at zhl 1 rfl) ?_
    obtain ⟨⟨zv10, zM11⟩, zhp, zhs⟩ := bnd_e zhs
    try dsimp only at zhs
    refine x_cVI (As := [.ref (h 1)]) (rest := []) C zhw zhl (cTold_takeFood_d l D cI h M zv10 zM11 zhp) (by decide) (by decide) kw_14_0 kw_14_1 kw_14_2 kw_1_19 kw_14_3 md_X10_takeFood rfl 4 (wX_c4 h cI M) rfl rfl rfl rfl (Nat.le_of_ble_eq_true rfl) dX10_takeItem_106 (fun zH zlocs zhw hzv10 => ?_)
    cases zhs
    exact zhret _ _ _ _ dX10_takeItem_109 hzv10 zhw
  replace zhs := br_F zhs c1102
  rcases Decidable.em (zv1 = 103) with zc9 | c1103
  · replace zhs := br_T zhs zc9
    refine lv_tableIn (tgt := 122) (off := 118) zhx zhb dX10_takeItem_4 (by rw [zc9]; decide) (by rw [zc9]; decide) (by rw [zc9]; decide) (by decide) ?_
    refine lv_aload_n zhx zhb dX10_takeItem_122 rfl (lv_at zhl 0 rfl) ?_
    refine lv_aload_n zhx zhb dX10_takeItem_123 rfl (lv_at zhl 1 rfl) ?_
    obtain ⟨⟨zv12, zM13⟩, zhp, zhs⟩ := bnd_e zhs
    try dsimp only at zhs
    refine x_cVI (As := [.ref (h 1)]) (rest := []) C zhw zhl (cTold_takeGuests_d l D cI h M zv12 zM13 zhp) (by decide) (by decide) kw_14_17 kw_14_18 kw_14_19 kw_1_19 kw_14_20 md_X10_takeGuests rfl 4 (wX_c4 h cI M) rfl rfl rfl rfl (Nat.le_of_ble_eq_true rfl) dX10_takeItem_124 (fun zH zlocs zhw hzv12 => ?_)
    cases zhs
    exact zhret _ _ _ _ dX10_takeItem_127 hzv12 zhw
  replace zhs := br_F zhs c1103
  rcases Decidable.em (zv1 = 111) with zc9 | c1111
  · replace zhs := br_T zhs zc9
    refine lv_tableIn (tgt := 98) (off := 94) zhx zhb dX10_takeItem_4 (by rw [zc9]; decide) (by rw [zc9]; decide) (by rw [zc9]; decide) (by decide) ?_
    refine lv_aload_n zhx zhb dX10_takeItem_98 rfl (lv_at zhl 0 rfl) ?_
    refine lv_aload_n zhx zhb dX10_takeItem_99 rfl (lv_at zhl 1 rfl) ?_
    obtain ⟨⟨zv14, zM15⟩, zhp, zhs⟩ := bnd_e zhs
    try dsimp only at zhs
    refine x_cVI (As := [.ref (h 1)]) (rest := []) C zhw zhl (cTold_takeOpenedHour_d l D cI h M zv14 zM15 zhp) (by decide) (by decide) kw_13_16 kw_13_17 kw_13_18 kw_1_19 kw_13_19 md_X10_takeOpenedHour rfl 4 (wX_c4 h cI M) rfl rfl rfl rfl (Nat.le_of_ble_eq_true rfl) dX10_takeItem_100 (fun zH zlocs zhw hzv14 => ?_)
    cases zhs
    exact zhret _ _ _ _ dX10_takeItem_103 hzv14 zhw
  replace zhs := br_F zhs c1111
  rcases Decidable.em (zv1 = 115) with zc9 | c1115
  · replace zhs := br_T zhs zc9
    refine lv_tableIn (tgt := 134) (off := 130) zhx zhb dX10_takeItem_4 (by rw [zc9]; decide) (by rw [zc9]; decide) (by rw [zc9]; decide) (by decide) ?_
    refine lv_aload_n zhx zhb dX10_takeItem_134 rfl (lv_at zhl 0 rfl) ?_
    refine lv_aload_n zhx zhb dX10_takeItem_135 rfl (lv_at zhl 1 rfl) ?_
    obtain ⟨⟨zv16, zM17⟩, zhp, zhs⟩ := bnd_e zhs
    try dsimp only at zhs
    refine x_cVI (As := [.ref (h 1)]) (rest := []) C zhw zhl (cTold_takeSlip_d l D cI h M zv16 zM17 zhp) (by decide) (by decide) kw_15_5 kw_15_6 kw_15_7 kw_1_19 kw_15_8 md_X10_takeSlip rfl 4 (wX_c4 h cI M) rfl rfl rfl rfl (Nat.le_of_ble_eq_true rfl) dX10_takeItem_136 (fun zH zlocs zhw hzv16 => ?_)
    cases zhs
    exact zhret _ _ _ _ dX10_takeItem_139 hzv16 zhw
  replace zhs := br_F zhs c1115
  refine x_tabD (tgt := 140) zhx zhb dX10_takeItem_4 (fun h1 h2 => ?_) (by decide) ?_
  · have zhz : ∀ j : Nat, j < 18 → (¬ j = 0 ∧ ¬ j = 1 ∧ ¬ j = 2 ∧ ¬ j = 3 ∧ ¬ j = 4 ∧ ¬ j = 5 ∧ ¬ j = 13 ∧ ¬ j = 17) → (#[124, 88, 106, 112, 100, 118, 136, 136, 136, 136, 136, 136, 136, 94, 136, 136, 136, 130] : Array Int)[j]? = some (136 : Int) := by decide
    refine zhz _ (by omega) ⟨fun zq9 => c1098 (Int32.toInt_inj.mp (show zv1.toInt = (98 : Int32).toInt from by rw [show (98 : Int32).toInt = 98 from rfl]; omega)), fun zq9 => c1099 (Int32.toInt_inj.mp (show zv1.toInt = (99 : Int32).toInt from by rw [show (99 : Int32).toInt = 99 from rfl]; omega)), fun zq9 => c1100 (Int32.toInt_inj.mp (show zv1.toInt = (100 : Int32).toInt from by rw [show (100 : Int32).toInt = 100 from rfl]; omega)), fun zq9 => c1101 (Int32.toInt_inj.mp (show zv1.toInt = (101 : Int32).toInt from by rw [show (101 : Int32).toInt = 101 from rfl]; omega)), fun zq9 => c1102 (Int32.toInt_inj.mp (show zv1.toInt = (102 : Int32).toInt from by rw [show (102 : Int32).toInt = 102 from rfl]; omega)), fun zq9 => c1103 (Int32.toInt_inj.mp (show zv1.toInt = (103 : Int32).toInt from by rw [show (103 : Int32).toInt = 103 from rfl]; omega)), fun zq9 => c1111 (Int32.toInt_inj.mp (show zv1.toInt = (111 : Int32).toInt from by rw [show (111 : Int32).toInt = 111 from rfl]; omega)), fun zq9 => c1115 (Int32.toInt_inj.mp (show zv1.toInt = (115 : Int32).toInt from by rw [show (115 : Int32).toInt = 115 from rfl]; omega))⟩
  refine lv_iconst (v := 0) zhx zhb dX10_takeItem_140 (by decide) ?_
  cases zhs
  exact zhret _ _ _ _ dX10_takeItem_141 (by rfl) zhw

-- OffFirst$Told.read in (4, (1,))
def LTold_read_d_8_15 (N : Nat) (zx2 : Int32) (zx3 : Int32) (zM4 : Mm) : Option ((Int32 × Int32 × Mm) ⊕ ((Int32 × Mm) ⊕ (Mm))) :=
  (if 400 ≤ zx3 then some (.inr (.inr zM4))
  else (if (zM4 1 1) ≤ zx2 then some (.inr (.inr zM4))
  else (sText_readItem N zx2 zM4).bind fun (zv10, zM11) =>
  (if zv10 < 0 then some (.inr (.inl (zx2, zM11)))
  else (sTold_takeItem_d zM11).bind fun (zv12, zM13) =>
  (if zv12 = 0 then some (.inr (.inl (zx2, zM13)))
  else ltI (zx3 + 1) fun zv14 =>
  some (.inl (zv10, zv14, zM13))))))
def sTold_read_d (N : Nat) (M : Mm) : Option (Int32 × Mm) :=
  (sTold_clear_d N M).bind fun zM1 =>
  ((itr (fun z : Int32 × Int32 × Mm => LTold_read_d_8_15 N z.1 z.2.1 z.2.2) N (0, 0, zM1)).bind fun q => match q with
  | .inl (zv16, zM17) => some (zv16, zM17)
  | .inr zM18 => some ((-4), zM18))
set_option maxHeartbeats 4000000 in
set_option maxRecDepth 100000 in
theorem cTold_read_d (l : Launch) (D : va_G) (cI : ClassId) (h : Nat → Nat) (N : Nat) (M : Mm) (r : Int32) (M' : Mm) (zhs : sTold_read_d N M = some (r, M')) : CtI l yX10_read cX10_read 5 (some .int) 6 D cI (wX h cI M) (wX h cI M') [.ref (h 4), .ref (h 1)] r := by
  unfold sTold_read_d at zhs
  refine CtI_of (by decide +kernel) (Nat.le_of_ble_eq_true rfl) ⟨_, rfl⟩ ?_
  intro p e s m args below meth c A Q zls zH zlocs C zhw zhl zhret
  have zhx := C.1
  have zhb := C.2.1
  have zhown := C.2.2.2.2.1
  have zhtB := C.2.2.2.2.2.2.1
  have zhl : lv_has zls 5 [(0, .ref (h 4)), (1, .ref (h 1))] := zhl
  refine lv_aload_n zhx zhb dX10_read_0 rfl (lv_at zhl 0 rfl) ?_
  obtain ⟨zM1, zhp, zhs⟩ := bnd_e zhs
  refine x_cVV (As := []) (rest := []) C zhw zhl (cTold_clear_d l D cI h N M zM1 zhp) (by decide) (by decide) kw_11_9 kw_11_10 kw_11_11 kw_1_19 kw_11_12 md_X10_clear rfl 4 (wX_c4 h cI M) rfl rfl rfl rfl (Nat.le_of_ble_eq_true rfl) dX10_read_1 (fun zH zlocs zhw => ?_)
  refine lv_iconst (v := 0) zhx zhb dX10_read_4 (by decide) ?_
  refine lv_istore_n (lv' := [(2, .int 0), (0, .ref (h 4)), (1, .ref (h 1))]) zhx zhb dX10_read_5 rfl zhl (by decide) rfl (fun zls zhl => ?_)
  refine lv_iconst (v := 0) zhx zhb dX10_read_6 (by decide) ?_
  refine lv_istore_n (lv' := [(3, .int 0), (2, .int 0), (0, .ref (h 4)), (1, .ref (h 1))]) zhx zhb dX10_read_7 rfl zhl (by decide) rfl (fun zls zhl => ?_)
  obtain ⟨zq15, zhq15, zhs⟩ := bnd_e zhs
  have hloop15 : ∀ (zn : Nat) (zx2 : Int32) (zx3 : Int32) (zM4 : Mm) (zq : (Int32 × Mm) ⊕ (Mm)), itr (fun z : Int32 × Int32 × Mm => LTold_read_d_8_15 N z.1 z.2.1 z.2.2) zn (zx2, zx3, zM4) = some zq → (∀ (zy1 : Int32) (zy2 : Mm), (.inl (zy1, zy2)) = zq → ∀ (zH : Heap) (zlocs : List Loc) (zls : Array Slot), lv_has zls 5 [(2, .int zy1)] → Hw D (wX h cI zy2) A s.heap zH zlocs → W p l e (RM 6) s m args below meth c zH zlocs 0 0 Q (F0 m 43 zls [])) → (∀ (zy1 : Mm), (.inr zy1) = zq → ∀ (zH : Heap) (zlocs : List Loc) (zls : Array Slot), lv_has zls 5 [] → Hw D (wX h cI zy1) A s.heap zH zlocs → W p l e (RM 6) s m args below meth c zH zlocs 0 0 Q (F0 m 54 zls [])) → ∀ (zH : Heap) (zlocs : List Loc) (zls : Array Slot), lv_has zls 5 [(3, .int zx3), (2, .int zx2), (0, .ref (h 4)), (1, .ref (h 1))] → Hw D (wX h cI zM4) A s.heap zH zlocs → W p l e (RM 6) s m args below meth c zH zlocs 0 0 Q (F0 m 8 zls []) := by
    intro zn
    induction zn with
    | zero => intro zx2 zx3 zM4 zq zhq; exact absurd zhq (fun h9 => itr_0 h9)
    | succ zn zih =>
        intro zx2 zx3 zM4 zq zhq k8_43 k8_54 zH zlocs zls zhl zhw
        obtain ⟨zy9, zhs, zhq⟩ := itr_s zhq
        replace zhs : LTold_read_d_8_15 N zx2 zx3 zM4 = some zy9 := zhs
        unfold LTold_read_d_8_15 at zhs
        refine lv_iload_n zhx zhb dX10_read_8 rfl (lv_at zhl 0 rfl) ?_
        refine lv_sipush (v := 400) zhx zhb dX10_read_9 (by decide) ?_
        refine lv_icmp_ge (tgt := 54) zhx zhb dX10_read_12 (by decide) (fun zc9 => ?_) (fun zc9 => ?_)
        · replace zhs := br_T zhs zc9
          cases zhs
          exact k8_54 zM4 (itk_q zhq) zH zlocs zls (lv_sub zhl [] rfl) zhw
        · replace zhs := br_F zhs zc9
          refine lv_iload_n zhx zhb dX10_read_15 rfl (lv_at zhl 1 rfl) ?_
          refine lv_aload_n zhx zhb dX10_read_16 rfl (lv_at zhl 3 rfl) ?_
          refine x_getN C zhw inlX9 rfl 1 1 (by decide) (List.mem_of_getElem? (i := 0) rfl) rfl (wX_c1 h cI zM4) rfl dX10_read_17 ?_
          refine lv_icmp_ge (tgt := 54) zhx zhb dX10_read_20 (by decide) (fun zc9 => ?_) (fun zc9 => ?_)
          · replace zhs := br_T zhs zc9
            cases zhs
            exact k8_54 zM4 (itk_q zhq) zH zlocs zls (lv_sub zhl [] rfl) zhw
          · replace zhs := br_F zhs zc9
            refine lv_aload_n zhx zhb dX10_read_23 rfl (lv_at zhl 3 rfl) ?_
            refine lv_iload_n zhx zhb dX10_read_24 rfl (lv_at zhl 1 rfl) ?_
            obtain ⟨⟨zv10, zM11⟩, zhp, zhs⟩ := bnd_e zhs
            try dsimp only at zhs
            refine x_cVI (As := [.int zx2]) (rest := []) C zhw zhl (cText_readItem l D cI h N zx2 zM4 zv10 zM11 zhp) (by decide) (by decide) kw_12_5 kw_12_6 kw_12_7 kw_1_15 kw_12_8 md_X9_readItem rfl 1 (wX_c1 h cI zM4) rfl rfl rfl rfl (Nat.le_of_ble_eq_true rfl) dX10_read_25 (fun zH zlocs zhw hn9 => ?_)
            refine lv_istore (lv' := [(4, .int zv10), (3, .int zx3), (2, .int zx2), (0, .ref (h 4)), (1, .ref (h 1))]) zhx zhb dX10_read_28 zhl (by decide) rfl (fun zls zhl => ?_)
            refine lv_iload zhx zhb dX10_read_30 (lv_at zhl 0 rfl) ?_
            refine lv_if_lt (tgt := 43) zhx zhb dX10_read_32 (by decide) (fun zc9 => ?_) (fun zc9 => ?_)
            · replace zhs := br_T zhs zc9
              cases zhs
              exact k8_43 zx2 zM11 (itk_q zhq) zH zlocs zls (lv_sub zhl [2] rfl) zhw
            · replace zhs := br_F zhs zc9
              refine lv_aload_n zhx zhb dX10_read_35 rfl (lv_at zhl 3 rfl) ?_
              refine lv_aload_n zhx zhb dX10_read_36 rfl (lv_at zhl 4 rfl) ?_
              obtain ⟨⟨zv12, zM13⟩, zhp, zhs⟩ := bnd_e zhs
              try dsimp only at zhs
              refine x_cVI (As := [.ref (h 1)]) (rest := []) C zhw zhl (cTold_takeItem_d l D cI h zM11 zv12 zM13 zhp) (by decide) (by decide) kw_12_22 kw_12_23 kw_13_0 kw_1_19 kw_13_1 md_X10_takeItem rfl 4 (wX_c4 h cI zM11) rfl rfl rfl rfl (Nat.le_of_ble_eq_true rfl) dX10_read_37 (fun zH zlocs zhw hzv12 => ?_)
              refine lv_if_ne (tgt := 45) zhx zhb dX10_read_40 (by decide) (fun zc9 => ?_) (fun zc9 => ?_)
              · replace zhs := br_F zhs zc9
                refine lv_iload zhx zhb dX10_read_45 (lv_at zhl 0 rfl) ?_
                refine lv_istore_n (lv' := [(2, .int zv10), (4, .int zv10), (3, .int zx3), (0, .ref (h 4)), (1, .ref (h 1))]) zhx zhb dX10_read_47 rfl zhl (by decide) rfl (fun zls zhl => ?_)
                obtain ⟨zv14, ze9, zhs⟩ := ltI_e zhs
                refine lv_iinc (v := zv14) (lv' := [(3, .int zv14), (2, .int zv10), (4, .int zv10), (0, .ref (h 4)), (1, .ref (h 1))]) zhx zhb dX10_read_48 zhl (k := 2) rfl (by rw [ze9]; rfl) (by decide) rfl (fun zls zhl => ?_)
                clear ze9
                refine lv_goto (tgt := 8) zhx zhb dX10_read_51 (by decide) ?_
                cases zhs
                exact zih zv10 zv14 zM13 zq (itk_l zhq) k8_43 k8_54 zH zlocs zls (lv_sub zhl [0, 1, 3, 4] rfl) zhw
              · replace zhs := br_T zhs zc9
                cases zhs
                exact k8_43 zx2 zM13 (itk_q zhq) zH zlocs zls (lv_sub zhl [2] rfl) zhw
  refine hloop15 N 0 0 zM1 zq15 zhq15 (fun zv16 zM17 zhqe zH zlocs zls zhl zhw => ?_) (fun zM18 zhqe zH zlocs zls zhl zhw => ?_) zH zlocs zls zhl zhw
  · subst zhqe
    try dsimp only at zhs
    refine lv_iload_n zhx zhb dX10_read_43 rfl (lv_at zhl 0 rfl) ?_
    cases zhs
    exact zhret _ _ _ _ dX10_read_44 (by rfl) zhw
  · subst zhqe
    try dsimp only at zhs
    refine lv_bipush (v := (-4)) zhx zhb dX10_read_54 (by decide) ?_
    cases zhs
    exact zhret _ _ _ _ dX10_read_56 (by rfl) zhw

-- OffFirst.fault in (0, ())
def sOff_fault (N : Nat) (M : Mm) : Option (Int32 × Mm) :=
  (sTold_read_d N M).bind fun (zv1, zM2) =>
  some (zv1, zM2)
set_option maxHeartbeats 4000000 in
set_option maxRecDepth 100000 in
theorem cOff_fault (l : Launch) (D : va_G) (cI : ClassId) (h : Nat → Nat) (N : Nat) (M : Mm) (r : Int32) (M' : Mm) (zhs : sOff_fault N M = some (r, M')) : CtI l yX11_fault cX11_fault 1 (some .int) 7 D cI (wX h cI M) (wX h cI M') [.ref (h 0)] r := by
  unfold sOff_fault at zhs
  refine CtI_of (by decide +kernel) (Nat.le_of_ble_eq_true rfl) ⟨_, rfl⟩ ?_
  intro p e s m args below meth c A Q zls zH zlocs C zhw zhl zhret
  have zhx := C.1
  have zhb := C.2.1
  have zhown := C.2.2.2.2.1
  have zhtB := C.2.2.2.2.2.2.1
  have zhl : lv_has zls 1 [(0, .ref (h 0))] := zhl
  refine lv_aload_n zhx zhb dX11_fault_0 rfl (lv_at zhl 0 rfl) ?_
  refine x_get C zhw inlX11 rfl 0 1 (by decide) kw_1_20 rfl (wX_c0 h cI M) rfl dX11_fault_1 ?_
  refine lv_aload_n zhx zhb dX11_fault_4 rfl (lv_at zhl 0 rfl) ?_
  refine x_get C zhw inlX11 rfl 0 0 (by decide) kw_1_16 rfl (wX_c0 h cI M) rfl dX11_fault_5 ?_
  obtain ⟨⟨zv1, zM2⟩, zhp, zhs⟩ := bnd_e zhs
  try dsimp only at zhs
  refine x_cVI (As := [.ref (h 1)]) (rest := []) C zhw zhl (cTold_read_d l D cI h N M zv1 zM2 zhp) (by decide) (by decide) kw_11_5 kw_11_6 kw_11_7 kw_1_19 kw_11_8 md_X10_read rfl 4 (wX_c4 h cI M) rfl rfl rfl rfl (Nat.le_of_ble_eq_true rfl) dX11_fault_8 (fun zH zlocs zhw hn9 => ?_)
  cases zhs
  exact zhret _ _ _ _ dX11_fault_11 (by rfl) zhw

-- OffFirst$Foods.numberIn in (9, ())
def LFoods_numberIn_d_4_11 (N : Nat) (a1 : Int32) (M : Mm) (zx1 : Int32) (zx2 : Int32) : Option ((Int32 × Int32) ⊕ ((Int32))) :=
  (if (M 9 7) ≤ zx2 then some (.inr zx1)
  else (if (atf 10 (M 11) zx2) = a1 then ltI (zx1 + 1) fun zv9 =>
  ltI (zx2 + 1) fun zv10 =>
  some (.inl (zv9, zv10))
  else ltI (zx2 + 1) fun zv8 =>
  some (.inl (zx1, zv8))))
def sFoods_numberIn_d (N : Nat) (a1 : Int32) (M : Mm) : Option Int32 :=
  (itr (fun z : Int32 × Int32 => LFoods_numberIn_d_4_11 N a1 M z.1 z.2) N (0, 0)).bind fun zv12 =>
  some zv12
set_option maxHeartbeats 4000000 in
set_option maxRecDepth 100000 in
theorem cFoods_numberIn_d (l : Launch) (D : va_G) (cI : ClassId) (h : Nat → Nat) (N : Nat) (a1 : Int32) (M : Mm) (r : Int32) (zhs : sFoods_numberIn_d N a1 M = some r) : CtI l yX2_numberIn cX2_numberIn 4 (some .int) 2 D cI (wX h cI M) (wX h cI M) [.ref (h 9), .int a1] r := by
  unfold sFoods_numberIn_d at zhs
  refine CtI_of (by decide +kernel) (Nat.le_of_ble_eq_true rfl) ⟨_, rfl⟩ ?_
  intro p e s m args below meth c A Q zls zH zlocs C zhw zhl zhret
  have zhx := C.1
  have zhb := C.2.1
  have zhown := C.2.2.2.2.1
  have zhtB := C.2.2.2.2.2.2.1
  have zhl : lv_has zls 4 [(0, .ref (h 9)), (1, .int a1)] := zhl
  refine lv_iconst (v := 0) zhx zhb dX2_numberIn_0 (by decide) ?_
  refine lv_istore_n (lv' := [(2, .int 0), (0, .ref (h 9)), (1, .int a1)]) zhx zhb dX2_numberIn_1 rfl zhl (by decide) rfl (fun zls zhl => ?_)
  refine lv_iconst (v := 0) zhx zhb dX2_numberIn_2 (by decide) ?_
  refine lv_istore_n (lv' := [(3, .int 0), (2, .int 0), (0, .ref (h 9)), (1, .int a1)]) zhx zhb dX2_numberIn_3 rfl zhl (by decide) rfl (fun zls zhl => ?_)
  obtain ⟨zq11, zhq11, zhs⟩ := bnd_e zhs
  have hloop11 : ∀ (zn : Nat) (zx1 : Int32) (zx2 : Int32) (zq : (Int32)), itr (fun z : Int32 × Int32 => LFoods_numberIn_d_4_11 N a1 M z.1 z.2) zn (zx1, zx2) = some zq → (∀ (zy1 : Int32), zy1 = zq → ∀ (zH : Heap) (zlocs : List Loc) (zls : Array Slot), lv_has zls 4 [(2, .int zy1)] → Hw D (wX h cI M) A s.heap zH zlocs → W p l e (RM 2) s m args below meth c zH zlocs 0 0 Q (F0 m 33 zls [])) → ∀ (zH : Heap) (zlocs : List Loc) (zls : Array Slot), lv_has zls 4 [(3, .int zx2), (2, .int zx1), (0, .ref (h 9)), (1, .int a1)] → Hw D (wX h cI M) A s.heap zH zlocs → W p l e (RM 2) s m args below meth c zH zlocs 0 0 Q (F0 m 4 zls []) := by
    intro zn
    induction zn with
    | zero => intro zx1 zx2 zq zhq; exact absurd zhq (fun h9 => itr_0 h9)
    | succ zn zih =>
        intro zx1 zx2 zq zhq k4_33 zH zlocs zls zhl zhw
        obtain ⟨zy9, zhs, zhq⟩ := itr_s zhq
        replace zhs : LFoods_numberIn_d_4_11 N a1 M zx1 zx2 = some zy9 := zhs
        unfold LFoods_numberIn_d_4_11 at zhs
        refine lv_iload_n zhx zhb dX2_numberIn_4 rfl (lv_at zhl 0 rfl) ?_
        refine lv_aload_n zhx zhb dX2_numberIn_5 rfl (lv_at zhl 2 rfl) ?_
        refine x_get C zhw inlX2 rfl 9 7 (by decide) kw_7_6 rfl (wX_c9 h cI M) rfl dX2_numberIn_6 ?_
        refine lv_icmp_ge (tgt := 33) zhx zhb dX2_numberIn_9 (by decide) (fun zc9 => ?_) (fun zc9 => ?_)
        · replace zhs := br_T zhs zc9
          cases zhs
          exact k4_33 zx1 (itk_q zhq) zH zlocs zls (lv_sub zhl [1] rfl) zhw
        · replace zhs := br_F zhs zc9
          refine lv_aload_n zhx zhb dX2_numberIn_12 rfl (lv_at zhl 2 rfl) ?_
          refine x_get C zhw inlX2 rfl 9 1 (by decide) kw_4_10 rfl (wX_c9 h cI M) rfl dX2_numberIn_13 ?_
          refine lv_iload_n zhx zhb dX2_numberIn_16 rfl (lv_at zhl 0 rfl) ?_
          refine x_cSNI (As := [.ref (h 11), .int zx2]) (rest := []) C zhw zhl (c_at l D cI (wX h cI M) 11 10 (h 11) (M 11) (wX_c11 h cI M) (by decide) zx2) (by decide) (by decide) (List.mem_of_getElem? (i := 9) rfl) kw_7_7 kw_1_2 kw_7_8 md_X11_at rfl rfl (Nat.le_of_ble_eq_true rfl) dX2_numberIn_17 (fun zH zlocs zhw hn9 => ?_)
          refine lv_iload_n zhx zhb dX2_numberIn_20 rfl (lv_at zhl 3 rfl) ?_
          refine lv_icmp_ne (tgt := 27) zhx zhb dX2_numberIn_21 (by decide) (fun zc9 => ?_) (fun zc9 => ?_)
          · replace zhs := br_F zhs zc9
            obtain ⟨zv8, ze9, zhs⟩ := ltI_e zhs
            refine lv_iinc (v := zv8) (lv' := [(3, .int zv8), (2, .int zx1), (0, .ref (h 9)), (1, .int a1)]) zhx zhb dX2_numberIn_27 zhl (k := 0) rfl (by rw [ze9]; rfl) (by decide) rfl (fun zls zhl => ?_)
            clear ze9
            refine lv_goto (tgt := 4) zhx zhb dX2_numberIn_30 (by decide) ?_
            cases zhs
            exact zih zx1 zv8 zq (itk_l zhq) k4_33 zH zlocs zls zhl zhw
          · replace zhs := br_T zhs zc9
            obtain ⟨zv9, ze9, zhs⟩ := ltI_e zhs
            refine lv_iinc (v := zv9) (lv' := [(2, .int zv9), (3, .int zx2), (0, .ref (h 9)), (1, .int a1)]) zhx zhb dX2_numberIn_24 zhl (k := 1) rfl (by rw [ze9]; rfl) (by decide) rfl (fun zls zhl => ?_)
            clear ze9
            obtain ⟨zv10, ze9, zhs⟩ := ltI_e zhs
            refine lv_iinc (v := zv10) (lv' := [(3, .int zv10), (2, .int zv9), (0, .ref (h 9)), (1, .int a1)]) zhx zhb dX2_numberIn_27 zhl (k := 1) rfl (by rw [ze9]; rfl) (by decide) rfl (fun zls zhl => ?_)
            clear ze9
            refine lv_goto (tgt := 4) zhx zhb dX2_numberIn_30 (by decide) ?_
            cases zhs
            exact zih zv9 zv10 zq (itk_l zhq) k4_33 zH zlocs zls zhl zhw
  refine hloop11 N 0 0 zq11 zhq11 (fun zv12 zhqe zH zlocs zls zhl zhw => ?_) zH zlocs zls zhl zhw
  · subst zhqe
    refine lv_iload_n zhx zhb dX2_numberIn_33 rfl (lv_at zhl 0 rfl) ?_
    cases zhs
    exact zhret _ _ _ _ dX2_numberIn_34 (by rfl) zhw

-- OffFirst$Cells.roomOf in (5, ())
def sCells_roomOf_d (a1 : Int32) (M : Mm) : Option Int32 :=
  some (atf 6 (M 8) a1)
set_option maxHeartbeats 4000000 in
set_option maxRecDepth 100000 in
theorem cCells_roomOf_d (l : Launch) (D : va_G) (cI : ClassId) (h : Nat → Nat) (a1 : Int32) (M : Mm) (r : Int32) (zhs : sCells_roomOf_d a1 M = some r) : CtI l yX0_roomOf cX0_roomOf 2 (some .int) 2 D cI (wX h cI M) (wX h cI M) [.ref (h 5), .int a1] r := by
  unfold sCells_roomOf_d at zhs
  refine CtI_of (by decide +kernel) (Nat.le_of_ble_eq_true rfl) ⟨_, rfl⟩ ?_
  intro p e s m args below meth c A Q zls zH zlocs C zhw zhl zhret
  have zhx := C.1
  have zhb := C.2.1
  have zhown := C.2.2.2.2.1
  have zhtB := C.2.2.2.2.2.2.1
  have zhl : lv_has zls 2 [(0, .ref (h 5)), (1, .int a1)] := zhl
  refine lv_aload_n zhx zhb dX0_roomOf_0 rfl (lv_at zhl 0 rfl) ?_
  refine x_get C zhw inlX0 rfl 5 2 (by decide) kw_4_5 rfl (wX_c5 h cI M) rfl dX0_roomOf_1 ?_
  refine lv_iload_n zhx zhb dX0_roomOf_4 rfl (lv_at zhl 1 rfl) ?_
  refine x_cSNI (As := [.ref (h 8), .int a1]) (rest := []) C zhw zhl (c_at l D cI (wX h cI M) 8 6 (h 8) (M 8) (wX_c8 h cI M) (by decide) a1) (by decide) (by decide) (List.mem_of_getElem? (i := 16) rfl) kw_7_7 kw_1_2 kw_7_8 md_X11_at rfl rfl (Nat.le_of_ble_eq_true rfl) dX0_roomOf_5 (fun zH zlocs zhw hn9 => ?_)
  cases zhs
  exact zhret _ _ _ _ dX0_roomOf_8 (by rfl) zhw

-- OffFirst$Told.canBeLaid in (4, ())
def LTold_canBeLaid_d_2_8 (N : Nat) (M : Mm) (zx1 : Int32) : Option ((Int32) ⊕ ((Unit) ⊕ (Unit))) :=
  (if (M 5 3) ≤ zx1 then some (.inr (.inr ()))
  else (sFoods_numberIn_d N zx1 M).bind fun zv5 =>
  (sCells_roomOf_d zx1 M).bind fun zv6 =>
  (if zv5 ≤ zv6 then ltI (zx1 + 1) fun zv7 =>
  some (.inl zv7)
  else some (.inr (.inl ()))))
def sTold_canBeLaid_d (N : Nat) (M : Mm) : Option Int32 :=
  ((itr (fun z : Int32 => LTold_canBeLaid_d_2_8 N M z) N 0).bind fun q => match q with
  | .inl () => some 0
  | .inr () => (if (M 5 3) ≤ 0 then some 0
  else (if (M 9 7) ≤ 0 then some 0
  else some 1)))
set_option maxHeartbeats 4000000 in
set_option maxRecDepth 100000 in
theorem cTold_canBeLaid_d (l : Launch) (D : va_G) (cI : ClassId) (h : Nat → Nat) (N : Nat) (M : Mm) (r : Int32) (zhs : sTold_canBeLaid_d N M = some r) : CtI l yX10_canBeLaid cX10_canBeLaid 2 (some .boolean) 3 D cI (wX h cI M) (wX h cI M) [.ref (h 4)] r := by
  unfold sTold_canBeLaid_d at zhs
  refine CtI_of (by decide +kernel) (Nat.le_of_ble_eq_true rfl) ⟨_, rfl⟩ ?_
  intro p e s m args below meth c A Q zls zH zlocs C zhw zhl zhret
  have zhx := C.1
  have zhb := C.2.1
  have zhown := C.2.2.2.2.1
  have zhtB := C.2.2.2.2.2.2.1
  have zhl : lv_has zls 2 [(0, .ref (h 4))] := zhl
  refine lv_iconst (v := 0) zhx zhb dX10_canBeLaid_0 (by decide) ?_
  refine lv_istore_n (lv' := [(1, .int 0), (0, .ref (h 4))]) zhx zhb dX10_canBeLaid_1 rfl zhl (by decide) rfl (fun zls zhl => ?_)
  obtain ⟨zq8, zhq8, zhs⟩ := bnd_e zhs
  have hloop8 : ∀ (zn : Nat) (zx1 : Int32) (zq : (Unit) ⊕ (Unit)), itr (fun z : Int32 => LTold_canBeLaid_d_2_8 N M z) zn zx1 = some zq → ((.inl ()) = zq → ∀ (zH : Heap) (zlocs : List Loc) (zls : Array Slot), lv_has zls 2 [] → Hw D (wX h cI M) A s.heap zH zlocs → W p l e (RM 3) s m args below meth c zH zlocs 0 0 Q (F0 m 32 zls [])) → ((.inr ()) = zq → ∀ (zH : Heap) (zlocs : List Loc) (zls : Array Slot), lv_has zls 2 [(0, .ref (h 4))] → Hw D (wX h cI M) A s.heap zH zlocs → W p l e (RM 3) s m args below meth c zH zlocs 0 0 Q (F0 m 40 zls [])) → ∀ (zH : Heap) (zlocs : List Loc) (zls : Array Slot), lv_has zls 2 [(1, .int zx1), (0, .ref (h 4))] → Hw D (wX h cI M) A s.heap zH zlocs → W p l e (RM 3) s m args below meth c zH zlocs 0 0 Q (F0 m 2 zls []) := by
    intro zn
    induction zn with
    | zero => intro zx1 zq zhq; exact absurd zhq (fun h9 => itr_0 h9)
    | succ zn zih =>
        intro zx1 zq zhq k2_32 k2_40 zH zlocs zls zhl zhw
        obtain ⟨zy9, zhs, zhq⟩ := itr_s zhq
        replace zhs : LTold_canBeLaid_d_2_8 N M zx1 = some zy9 := zhs
        unfold LTold_canBeLaid_d_2_8 at zhs
        refine lv_iload_n zhx zhb dX10_canBeLaid_2 rfl (lv_at zhl 0 rfl) ?_
        refine lv_aload_n zhx zhb dX10_canBeLaid_3 rfl (lv_at zhl 1 rfl) ?_
        refine x_get C zhw inlX10 rfl 4 0 (by decide) kw_3_12 rfl (wX_c4 h cI M) rfl dX10_canBeLaid_4 ?_
        refine x_getN C zhw inlX0 rfl 5 3 (by decide) (List.mem_of_getElem? (i := 5) rfl) rfl (wX_c5 h cI M) rfl dX10_canBeLaid_7 ?_
        refine lv_icmp_ge (tgt := 40) zhx zhb dX10_canBeLaid_10 (by decide) (fun zc9 => ?_) (fun zc9 => ?_)
        · replace zhs := br_T zhs zc9
          cases zhs
          exact k2_40 (itk_q zhq) zH zlocs zls (lv_sub zhl [1] rfl) zhw
        · replace zhs := br_F zhs zc9
          refine lv_aload_n zhx zhb dX10_canBeLaid_13 rfl (lv_at zhl 1 rfl) ?_
          refine x_get C zhw inlX10 rfl 4 1 (by decide) kw_3_16 rfl (wX_c4 h cI M) rfl dX10_canBeLaid_14 ?_
          refine lv_iload_n zhx zhb dX10_canBeLaid_17 rfl (lv_at zhl 0 rfl) ?_
          obtain ⟨zv5, zhp, zhs⟩ := bnd_e zhs
          refine x_cVI (As := [.int zx1]) (rest := []) C zhw zhl (cFoods_numberIn_d l D cI h N zx1 M zv5 zhp) (by decide) (by decide) kw_17_7 kw_17_8 kw_17_9 kw_3_15 kw_17_10 md_X2_numberIn rfl 9 (wX_c9 h cI M) rfl rfl rfl rfl (Nat.le_of_ble_eq_true rfl) dX10_canBeLaid_18 (fun zH zlocs zhw hn9 => ?_)
          refine lv_aload_n zhx zhb dX10_canBeLaid_21 rfl (lv_at zhl 1 rfl) ?_
          refine x_get C zhw inlX10 rfl 4 0 (by decide) kw_3_12 rfl (wX_c4 h cI M) rfl dX10_canBeLaid_22 ?_
          refine lv_iload_n zhx zhb dX10_canBeLaid_25 rfl (lv_at zhl 0 rfl) ?_
          obtain ⟨zv6, zhp, zhs⟩ := bnd_e zhs
          refine x_cVI (As := [.int zx1]) (rest := [.int zv5]) C zhw zhl (cCells_roomOf_d l D cI h zx1 M zv6 zhp) (by decide) (by decide) kw_17_11 kw_17_12 kw_17_13 kw_3_11 kw_17_14 md_X0_roomOf rfl 5 (wX_c5 h cI M) rfl rfl rfl rfl (Nat.le_of_ble_eq_true rfl) dX10_canBeLaid_26 (fun zH zlocs zhw hn9 => ?_)
          refine lv_icmp_le (tgt := 34) zhx zhb dX10_canBeLaid_29 (by decide) (fun zc9 => ?_) (fun zc9 => ?_)
          · replace zhs := br_T zhs zc9
            obtain ⟨zv7, ze9, zhs⟩ := ltI_e zhs
            refine lv_iinc (v := zv7) (lv' := [(1, .int zv7), (0, .ref (h 4))]) zhx zhb dX10_canBeLaid_34 zhl (k := 0) rfl (by rw [ze9]; rfl) (by decide) rfl (fun zls zhl => ?_)
            clear ze9
            refine lv_goto (tgt := 2) zhx zhb dX10_canBeLaid_37 (by decide) ?_
            cases zhs
            exact zih zv7 zq (itk_l zhq) k2_32 k2_40 zH zlocs zls zhl zhw
          · replace zhs := br_F zhs zc9
            cases zhs
            exact k2_32 (itk_q zhq) zH zlocs zls (lv_sub zhl [] rfl) zhw
  refine hloop8 N 0 zq8 zhq8 (fun zhqe zH zlocs zls zhl zhw => ?_) (fun zhqe zH zlocs zls zhl zhw => ?_) zH zlocs zls zhl zhw
  · subst zhqe
    try dsimp only at zhs
    refine lv_iconst (v := 0) zhx zhb dX10_canBeLaid_32 (by decide) ?_
    cases zhs
    exact zhret _ _ _ _ dX10_canBeLaid_33 (by rfl) zhw
  · subst zhqe
    try dsimp only at zhs
    refine lv_aload_n zhx zhb dX10_canBeLaid_40 rfl (lv_at zhl 0 rfl) ?_
    refine x_get C zhw inlX10 rfl 4 0 (by decide) kw_3_12 rfl (wX_c4 h cI M) rfl dX10_canBeLaid_41 ?_
    refine x_getN C zhw inlX0 rfl 5 3 (by decide) (List.mem_of_getElem? (i := 5) rfl) rfl (wX_c5 h cI M) rfl dX10_canBeLaid_44 ?_
    refine lv_if_le (tgt := 64) zhx zhb dX10_canBeLaid_47 (by decide) (fun zc9 => ?_) (fun zc9 => ?_)
    · replace zhs := br_T zhs zc9
      refine lv_iconst (v := 0) zhx zhb dX10_canBeLaid_64 (by decide) ?_
      cases zhs
      exact zhret _ _ _ _ dX10_canBeLaid_65 (by rfl) zhw
    · replace zhs := br_F zhs zc9
      refine lv_aload_n zhx zhb dX10_canBeLaid_50 rfl (lv_at zhl 0 rfl) ?_
      refine x_get C zhw inlX10 rfl 4 1 (by decide) kw_3_16 rfl (wX_c4 h cI M) rfl dX10_canBeLaid_51 ?_
      refine x_getN C zhw inlX2 rfl 9 7 (by decide) (List.mem_of_getElem? (i := 12) rfl) rfl (wX_c9 h cI M) rfl dX10_canBeLaid_54 ?_
      refine lv_if_le (tgt := 64) zhx zhb dX10_canBeLaid_57 (by decide) (fun zc9 => ?_) (fun zc9 => ?_)
      · replace zhs := br_T zhs zc9
        refine lv_iconst (v := 0) zhx zhb dX10_canBeLaid_64 (by decide) ?_
        cases zhs
        exact zhret _ _ _ _ dX10_canBeLaid_65 (by rfl) zhw
      · replace zhs := br_F zhs zc9
        refine lv_iconst (v := 1) zhx zhb dX10_canBeLaid_60 (by decide) ?_
        refine lv_goto (tgt := 65) zhx zhb dX10_canBeLaid_61 (by decide) ?_
        cases zhs
        exact zhret _ _ _ _ dX10_canBeLaid_65 (by rfl) zhw

-- OffFirst$Cells.clear in (23, ())
def sCells_clear_l (M : Mm) : Option Mm :=
  ltM (mset M 23 3 0) fun zM1 =>
  ltM (mset zM1 23 4 0) fun zM2 =>
  some zM2
set_option maxHeartbeats 4000000 in
set_option maxRecDepth 100000 in
theorem cCells_clear_l (l : Launch) (D : va_G) (cI : ClassId) (h : Nat → Nat) (M : Mm) (M' : Mm) (zhs : sCells_clear_l M = some M') : CtV l yX0_clear cX0_clear 1 1 D cI (wX h cI M) (wX h cI M') [.ref (h 23)] := by
  unfold sCells_clear_l at zhs
  refine CtV_of (by decide +kernel) (Nat.le_of_ble_eq_true rfl) ?_
  intro p e s m args below meth c A Q zls zH zlocs C zhw zhl zhret
  have zhx := C.1
  have zhb := C.2.1
  have zhown := C.2.2.2.2.1
  have zhtB := C.2.2.2.2.2.2.1
  have zhl : lv_has zls 1 [(0, .ref (h 23))] := zhl
  refine lv_aload_n zhx zhb dX0_clear_0 rfl (lv_at zhl 0 rfl) ?_
  refine lv_iconst (v := 0) zhx zhb dX0_clear_1 (by decide) ?_
  refine x_put C zhw inlX0 rfl tyX0_ok nmX0 23 3 (by decide) kw_6_23 rfl rfl rfl (wX_c23 h cI M) (Nat.le_of_ble_eq_true rfl) (wX_s23_3 h cI M _) dX0_clear_2 (fun zH zlocs zhw => ?_)
  obtain ⟨zM1, ze9, zhs⟩ := ltM_e zhs
  rw [← ze9] at zhw; clear ze9
  refine lv_aload_n zhx zhb dX0_clear_5 rfl (lv_at zhl 0 rfl) ?_
  refine lv_iconst (v := 0) zhx zhb dX0_clear_6 (by decide) ?_
  refine x_put C zhw inlX0 rfl tyX0_ok nmX0 23 4 (by decide) kw_11_19 rfl rfl rfl (wX_c23 h cI zM1) (Nat.le_of_ble_eq_true rfl) (wX_s23_4 h cI zM1 _) dX0_clear_7 (fun zH zlocs zhw => ?_)
  obtain ⟨zM2, ze9, zhs⟩ := ltM_e zhs
  rw [← ze9] at zhw; clear ze9
  cases zhs
  exact zhret _ _ _ _ dX0_clear_10 zhw

-- OffFirst$Foods.clear in (27, ())
def LFoods_clear_l_7_8 (N : Nat) (zx2 : Int32) (zM3 : Mm) : Option ((Int32 × Mm) ⊕ ((Mm))) :=
  (if 4 ≤ zx2 then some (.inr zM3)
  else ltM (putf 4 zM3 34 zx2 0) fun zM6 =>
  ltI (zx2 + 1) fun zv7 =>
  some (.inl (zv7, zM6)))
def sFoods_clear_l (N : Nat) (M : Mm) : Option Mm :=
  ltM (mset M 27 7 0) fun zM1 =>
  (itr (fun z : Int32 × Mm => LFoods_clear_l_7_8 N z.1 z.2) N (0, zM1)).bind fun zM9 =>
  some zM9
set_option maxHeartbeats 4000000 in
set_option maxRecDepth 100000 in
theorem cFoods_clear_l (l : Launch) (D : va_G) (cI : ClassId) (h : Nat → Nat) (N : Nat) (M : Mm) (M' : Mm) (zhs : sFoods_clear_l N M = some M') : CtV l yX2_clear cX2_clear 2 2 D cI (wX h cI M) (wX h cI M') [.ref (h 27)] := by
  unfold sFoods_clear_l at zhs
  refine CtV_of (by decide +kernel) (Nat.le_of_ble_eq_true rfl) ?_
  intro p e s m args below meth c A Q zls zH zlocs C zhw zhl zhret
  have zhx := C.1
  have zhb := C.2.1
  have zhown := C.2.2.2.2.1
  have zhtB := C.2.2.2.2.2.2.1
  have zhl : lv_has zls 2 [(0, .ref (h 27))] := zhl
  refine lv_aload_n zhx zhb dX2_clear_0 rfl (lv_at zhl 0 rfl) ?_
  refine lv_iconst (v := 0) zhx zhb dX2_clear_1 (by decide) ?_
  refine x_put C zhw inlX2 rfl tyX2_ok nmX2 27 7 (by decide) kw_7_6 rfl rfl rfl (wX_c27 h cI M) (Nat.le_of_ble_eq_true rfl) (wX_s27_7 h cI M _) dX2_clear_2 (fun zH zlocs zhw => ?_)
  obtain ⟨zM1, ze9, zhs⟩ := ltM_e zhs
  rw [← ze9] at zhw; clear ze9
  refine lv_iconst (v := 0) zhx zhb dX2_clear_5 (by decide) ?_
  refine lv_istore_n (lv' := [(1, .int 0), (0, .ref (h 27))]) zhx zhb dX2_clear_6 rfl zhl (by decide) rfl (fun zls zhl => ?_)
  obtain ⟨zq8, zhq8, zhs⟩ := bnd_e zhs
  have hloop8 : ∀ (zn : Nat) (zx2 : Int32) (zM3 : Mm) (zq : (Mm)), itr (fun z : Int32 × Mm => LFoods_clear_l_7_8 N z.1 z.2) zn (zx2, zM3) = some zq → (∀ (zy1 : Mm), zy1 = zq → ∀ (zH : Heap) (zlocs : List Loc) (zls : Array Slot), lv_has zls 2 [] → Hw D (wX h cI zy1) A s.heap zH zlocs → W p l e (RM 2) s m args below meth c zH zlocs 0 0 Q (F0 m 27 zls [])) → ∀ (zH : Heap) (zlocs : List Loc) (zls : Array Slot), lv_has zls 2 [(1, .int zx2), (0, .ref (h 27))] → Hw D (wX h cI zM3) A s.heap zH zlocs → W p l e (RM 2) s m args below meth c zH zlocs 0 0 Q (F0 m 7 zls []) := by
    intro zn
    induction zn with
    | zero => intro zx2 zM3 zq zhq; exact absurd zhq (fun h9 => itr_0 h9)
    | succ zn zih =>
        intro zx2 zM3 zq zhq k7_27 zH zlocs zls zhl zhw
        obtain ⟨zy9, zhs, zhq⟩ := itr_s zhq
        replace zhs : LFoods_clear_l_7_8 N zx2 zM3 = some zy9 := zhs
        unfold LFoods_clear_l_7_8 at zhs
        refine lv_iload_n zhx zhb dX2_clear_7 rfl (lv_at zhl 0 rfl) ?_
        refine lv_iconst (v := 4) zhx zhb dX2_clear_8 (by decide) ?_
        refine lv_icmp_ge (tgt := 27) zhx zhb dX2_clear_9 (by decide) (fun zc9 => ?_) (fun zc9 => ?_)
        · replace zhs := br_T zhs zc9
          cases zhs
          exact k7_27 zM3 (itk_q zhq) zH zlocs zls (lv_sub zhl [] rfl) zhw
        · replace zhs := br_F zhs zc9
          refine lv_aload_n zhx zhb dX2_clear_12 rfl (lv_at zhl 1 rfl) ?_
          refine x_get C zhw inlX2 rfl 27 6 (by decide) kw_4_15 rfl (wX_c27 h cI zM3) rfl dX2_clear_13 ?_
          refine lv_iload_n zhx zhb dX2_clear_16 rfl (lv_at zhl 0 rfl) ?_
          refine lv_iconst (v := 0) zhx zhb dX2_clear_17 (by decide) ?_
          refine x_cSNV (As := [.ref (h 34), .int zx2, .int 0]) (rest := []) C zhw zhl (c_put l D cI (wX h cI) zM3 34 4 (h 34) (wX_c34 h cI zM3) (fun j v => wX_a34 h cI zM3 j v) (by decide) zx2 0) (by decide) (by decide) (List.mem_of_getElem? (i := 8) rfl) kw_7_0 kw_1_2 kw_7_1 md_X11_put rfl rfl (Nat.le_of_ble_eq_true rfl) dX2_clear_18 (fun zH zlocs zhw => ?_)
          obtain ⟨zM6, ze9, zhs⟩ := ltM_e zhs
          rw [← ze9] at zhw; clear ze9
          obtain ⟨zv7, ze9, zhs⟩ := ltI_e zhs
          refine lv_iinc (v := zv7) (lv' := [(1, .int zv7), (0, .ref (h 27))]) zhx zhb dX2_clear_21 zhl (k := 0) rfl (by rw [ze9]; rfl) (by decide) rfl (fun zls zhl => ?_)
          clear ze9
          refine lv_goto (tgt := 7) zhx zhb dX2_clear_24 (by decide) ?_
          cases zhs
          exact zih zv7 zM6 zq (itk_l zhq) k7_27 zH zlocs zls zhl zhw
  refine hloop8 N 0 zM1 zq8 zhq8 (fun zM9 zhqe zH zlocs zls zhl zhw => ?_) zH zlocs zls zhl zhw
  · subst zhqe
    cases zhs
    exact zhret _ _ _ _ dX2_clear_27 zhw

-- OffFirst$Party.clear in (37, ())
def sParty_clear_l (M : Mm) : Option Mm :=
  ltM (mset M 37 2 0) fun zM1 =>
  ltM (mset zM1 37 3 10) fun zM2 =>
  ltM (mset zM2 37 4 20) fun zM3 =>
  some zM3
set_option maxHeartbeats 4000000 in
set_option maxRecDepth 100000 in
theorem cParty_clear_l (l : Launch) (D : va_G) (cI : ClassId) (h : Nat → Nat) (M : Mm) (M' : Mm) (zhs : sParty_clear_l M = some M') : CtV l yX5_clear cX5_clear 1 1 D cI (wX h cI M) (wX h cI M') [.ref (h 37)] := by
  unfold sParty_clear_l at zhs
  refine CtV_of (by decide +kernel) (Nat.le_of_ble_eq_true rfl) ?_
  intro p e s m args below meth c A Q zls zH zlocs C zhw zhl zhret
  have zhx := C.1
  have zhb := C.2.1
  have zhown := C.2.2.2.2.1
  have zhtB := C.2.2.2.2.2.2.1
  have zhl : lv_has zls 1 [(0, .ref (h 37))] := zhl
  refine lv_aload_n zhx zhb dX5_clear_0 rfl (lv_at zhl 0 rfl) ?_
  refine lv_iconst (v := 0) zhx zhb dX5_clear_1 (by decide) ?_
  refine x_put C zhw inlX5 rfl tyX5_ok nmX5 37 2 (by decide) kw_12_4 rfl rfl rfl (wX_c37 h cI M) (Nat.le_of_ble_eq_true rfl) (wX_s37_2 h cI M _) dX5_clear_2 (fun zH zlocs zhw => ?_)
  obtain ⟨zM1, ze9, zhs⟩ := ltM_e zhs
  rw [← ze9] at zhw; clear ze9
  refine lv_aload_n zhx zhb dX5_clear_5 rfl (lv_at zhl 0 rfl) ?_
  refine lv_bipush (v := 10) zhx zhb dX5_clear_6 (by decide) ?_
  refine x_put C zhw inlX5 rfl tyX5_ok nmX5 37 3 (by decide) kw_4_21 rfl rfl rfl (wX_c37 h cI zM1) (Nat.le_of_ble_eq_true rfl) (wX_s37_3 h cI zM1 _) dX5_clear_8 (fun zH zlocs zhw => ?_)
  obtain ⟨zM2, ze9, zhs⟩ := ltM_e zhs
  rw [← ze9] at zhw; clear ze9
  refine lv_aload_n zhx zhb dX5_clear_11 rfl (lv_at zhl 0 rfl) ?_
  refine lv_bipush (v := 20) zhx zhb dX5_clear_12 (by decide) ?_
  refine x_put C zhw inlX5 rfl tyX5_ok nmX5 37 4 (by decide) kw_4_22 rfl rfl rfl (wX_c37 h cI zM2) (Nat.le_of_ble_eq_true rfl) (wX_s37_4 h cI zM2 _) dX5_clear_14 (fun zH zlocs zhw => ?_)
  obtain ⟨zM3, ze9, zhs⟩ := ltM_e zhs
  rw [← ze9] at zhw; clear ze9
  cases zhs
  exact zhret _ _ _ _ dX5_clear_17 zhw

-- OffFirst$Told.clear in (22, ())
def sTold_clear_l (N : Nat) (M : Mm) : Option Mm :=
  (sCells_clear_l M).bind fun zM1 =>
  (sFoods_clear_l N zM1).bind fun zM2 =>
  ltM (mset zM2 22 3 0) fun zM3 =>
  ltM (mset zM3 22 5 0) fun zM4 =>
  (sParty_clear_l zM4).bind fun zM5 =>
  ltM (mset zM5 22 7 1) fun zM6 =>
  some zM6
set_option maxHeartbeats 4000000 in
set_option maxRecDepth 100000 in
theorem cTold_clear_l (l : Launch) (D : va_G) (cI : ClassId) (h : Nat → Nat) (N : Nat) (M : Mm) (M' : Mm) (zhs : sTold_clear_l N M = some M') : CtV l yX10_clear cX10_clear 1 3 D cI (wX h cI M) (wX h cI M') [.ref (h 22)] := by
  unfold sTold_clear_l at zhs
  refine CtV_of (by decide +kernel) (Nat.le_of_ble_eq_true rfl) ?_
  intro p e s m args below meth c A Q zls zH zlocs C zhw zhl zhret
  have zhx := C.1
  have zhb := C.2.1
  have zhown := C.2.2.2.2.1
  have zhtB := C.2.2.2.2.2.2.1
  have zhl : lv_has zls 1 [(0, .ref (h 22))] := zhl
  refine lv_aload_n zhx zhb dX10_clear_0 rfl (lv_at zhl 0 rfl) ?_
  refine x_get C zhw inlX10 rfl 22 0 (by decide) kw_3_12 rfl (wX_c22 h cI M) rfl dX10_clear_1 ?_
  obtain ⟨zM1, zhp, zhs⟩ := bnd_e zhs
  refine x_cVV (As := []) (rest := []) C zhw zhl (cCells_clear_l l D cI h M zM1 zhp) (by decide) (by decide) kw_11_15 kw_11_16 kw_11_17 kw_3_11 kw_11_18 md_X0_clear rfl 23 (wX_c23 h cI M) rfl rfl rfl rfl (Nat.le_of_ble_eq_true rfl) dX10_clear_4 (fun zH zlocs zhw => ?_)
  refine lv_aload_n zhx zhb dX10_clear_7 rfl (lv_at zhl 0 rfl) ?_
  refine x_get C zhw inlX10 rfl 22 1 (by decide) kw_3_16 rfl (wX_c22 h cI zM1) rfl dX10_clear_8 ?_
  obtain ⟨zM2, zhp, zhs⟩ := bnd_e zhs
  refine x_cVV (As := []) (rest := []) C zhw zhl (cFoods_clear_l l D cI h N zM1 zM2 zhp) (by decide) (by decide) kw_11_20 kw_11_21 kw_11_22 kw_3_15 kw_11_23 md_X2_clear rfl 27 (wX_c27 h cI zM1) rfl rfl rfl rfl (Nat.le_of_ble_eq_true rfl) dX10_clear_11 (fun zH zlocs zhw => ?_)
  refine lv_aload_n zhx zhb dX10_clear_14 rfl (lv_at zhl 0 rfl) ?_
  refine lv_iconst (v := 0) zhx zhb dX10_clear_15 (by decide) ?_
  refine x_put C zhw inlX10 rfl tyX10_ok nmX10 22 3 (by decide) kw_11_13 rfl rfl rfl (wX_c22 h cI zM2) (Nat.le_of_ble_eq_true rfl) (wX_s22_3 h cI zM2 _) dX10_clear_16 (fun zH zlocs zhw => ?_)
  obtain ⟨zM3, ze9, zhs⟩ := ltM_e zhs
  rw [← ze9] at zhw; clear ze9
  refine lv_aload_n zhx zhb dX10_clear_19 rfl (lv_at zhl 0 rfl) ?_
  refine lv_iconst (v := 0) zhx zhb dX10_clear_20 (by decide) ?_
  refine x_put C zhw inlX10 rfl tyX10_ok nmX10 22 5 (by decide) kw_11_14 rfl rfl rfl (wX_c22 h cI zM3) (Nat.le_of_ble_eq_true rfl) (wX_s22_5 h cI zM3 _) dX10_clear_21 (fun zH zlocs zhw => ?_)
  obtain ⟨zM4, ze9, zhs⟩ := ltM_e zhs
  rw [← ze9] at zhw; clear ze9
  refine lv_aload_n zhx zhb dX10_clear_24 rfl (lv_at zhl 0 rfl) ?_
  refine x_get C zhw inlX10 rfl 22 6 (by decide) kw_3_22 rfl (wX_c22 h cI zM4) rfl dX10_clear_25 ?_
  obtain ⟨zM5, zhp, zhs⟩ := bnd_e zhs
  refine x_cVV (As := []) (rest := []) C zhw zhl (cParty_clear_l l D cI h zM4 zM5 zhp) (by decide) (by decide) kw_12_0 kw_12_1 kw_12_2 kw_3_21 kw_12_3 md_X5_clear rfl 37 (wX_c37 h cI zM4) rfl rfl rfl rfl (Nat.le_of_ble_eq_true rfl) dX10_clear_28 (fun zH zlocs zhw => ?_)
  refine lv_aload_n zhx zhb dX10_clear_31 rfl (lv_at zhl 0 rfl) ?_
  refine lv_iconst (v := 1) zhx zhb dX10_clear_32 (by decide) ?_
  refine x_put C zhw inlX10 rfl tyX10_ok nmX10 22 7 (by decide) kw_3_23 rfl rfl rfl (wX_c22 h cI zM5) (Nat.le_of_ble_eq_true rfl) (wX_s22_7 h cI zM5 _) dX10_clear_33 (fun zH zlocs zhw => ?_)
  obtain ⟨zM6, ze9, zhs⟩ := ltM_e zhs
  rw [← ze9] at zhw; clear ze9
  cases zhs
  exact zhret _ _ _ _ dX10_clear_36 zhw

-- OffFirst$Told.takePacks in (22, (1,))
def sTold_takePacks_l (M : Mm) : Option (Int32 × Mm) :=
  (if (M 1 4) = 2 then (sText_isNumberWithin 0 1 99 M).bind fun zv1 =>
  (if zv1 = 0 then some (0, M)
  else (sText_isNumberWithin 1 1 198 M).bind fun zv2 =>
  (if zv2 = 0 then some (0, M)
  else (sText_number 0 M).bind fun zv3 =>
  ltM (mset M 37 3 zv3) fun zM4 =>
  (sText_number 1 zM4).bind fun zv5 =>
  ltM (mset zM4 37 4 zv5) fun zM6 =>
  some (1, zM6)))
  else some (0, M))
set_option maxHeartbeats 4000000 in
set_option maxRecDepth 100000 in
theorem cTold_takePacks_l (l : Launch) (D : va_G) (cI : ClassId) (h : Nat → Nat) (M : Mm) (r : Int32) (M' : Mm) (zhs : sTold_takePacks_l M = some (r, M')) : CtI l yX10_takePacks cX10_takePacks 2 (some .boolean) 4 D cI (wX h cI M) (wX h cI M') [.ref (h 22), .ref (h 1)] r := by
  unfold sTold_takePacks_l at zhs
  refine CtI_of (by decide +kernel) (Nat.le_of_ble_eq_true rfl) ⟨_, rfl⟩ ?_
  intro p e s m args below meth c A Q zls zH zlocs C zhw zhl zhret
  have zhx := C.1
  have zhb := C.2.1
  have zhown := C.2.2.2.2.1
  have zhtB := C.2.2.2.2.2.2.1
  have zhl : lv_has zls 2 [(0, .ref (h 22)), (1, .ref (h 1))] := zhl
  refine lv_aload_n zhx zhb dX10_takePacks_0 rfl (lv_at zhl 1 rfl) ?_
  refine x_getN C zhw inlX9 rfl 1 4 (by decide) (List.mem_of_getElem? (i := 3) rfl) rfl (wX_c1 h cI M) rfl dX10_takePacks_1 ?_
  refine lv_iconst (v := 2) zhx zhb dX10_takePacks_4 (by decide) ?_
  refine lv_icmp_ne (tgt := 31) zhx zhb dX10_takePacks_5 (by decide) (fun zc9 => ?_) (fun zc9 => ?_)
  · replace zhs := br_F zhs zc9
    refine lv_iconst (v := 0) zhx zhb dX10_takePacks_31 (by decide) ?_
    cases zhs
    exact zhret _ _ _ _ dX10_takePacks_32 (by rfl) zhw
  · replace zhs := br_T zhs zc9
    refine lv_aload_n zhx zhb dX10_takePacks_8 rfl (lv_at zhl 1 rfl) ?_
    refine lv_iconst (v := 0) zhx zhb dX10_takePacks_9 (by decide) ?_
    refine lv_iconst (v := 1) zhx zhb dX10_takePacks_10 (by decide) ?_
    refine lv_bipush (v := 99) zhx zhb dX10_takePacks_11 (by decide) ?_
    obtain ⟨zv1, zhp, zhs⟩ := bnd_e zhs
    refine x_cVI (As := [.int 0, .int 1, .int 99]) (rest := []) C zhw zhl (cText_isNumberWithin l D cI h 0 1 99 M zv1 zhp) (by decide) (by decide) kw_13_6 kw_13_7 kw_13_8 kw_1_15 kw_13_9 md_X9_isNumberWithin rfl 1 (wX_c1 h cI M) rfl rfl rfl rfl (Nat.le_of_ble_eq_true rfl) dX10_takePacks_13 (fun zH zlocs zhw hzv1 => ?_)
    refine lv_if_eq (tgt := 31) zhx zhb dX10_takePacks_16 (by decide) (fun zc9 => ?_) (fun zc9 => ?_)
    · replace zhs := br_T zhs zc9
      refine lv_iconst (v := 0) zhx zhb dX10_takePacks_31 (by decide) ?_
      cases zhs
      exact zhret _ _ _ _ dX10_takePacks_32 (by rfl) zhw
    · replace zhs := br_F zhs zc9
      refine lv_aload_n zhx zhb dX10_takePacks_19 rfl (lv_at zhl 1 rfl) ?_
      refine lv_iconst (v := 1) zhx zhb dX10_takePacks_20 (by decide) ?_
      refine lv_iconst (v := 1) zhx zhb dX10_takePacks_21 (by decide) ?_
      refine lv_sipush (v := 198) zhx zhb dX10_takePacks_22 (by decide) ?_
      obtain ⟨zv2, zhp, zhs⟩ := bnd_e zhs
      refine x_cVI (As := [.int 1, .int 1, .int 198]) (rest := []) C zhw zhl (cText_isNumberWithin l D cI h 1 1 198 M zv2 zhp) (by decide) (by decide) kw_13_6 kw_13_7 kw_13_8 kw_1_15 kw_13_9 md_X9_isNumberWithin rfl 1 (wX_c1 h cI M) rfl rfl rfl rfl (Nat.le_of_ble_eq_true rfl) dX10_takePacks_25 (fun zH zlocs zhw hzv2 => ?_)
      refine lv_if_ne (tgt := 33) zhx zhb dX10_takePacks_28 (by decide) (fun zc9 => ?_) (fun zc9 => ?_)
      · replace zhs := br_F zhs zc9
        refine lv_aload_n zhx zhb dX10_takePacks_33 rfl (lv_at zhl 0 rfl) ?_
        refine x_get C zhw inlX10 rfl 22 6 (by decide) kw_3_22 rfl (wX_c22 h cI M) rfl dX10_takePacks_34 ?_
        refine lv_aload_n zhx zhb dX10_takePacks_37 rfl (lv_at zhl 1 rfl) ?_
        refine lv_iconst (v := 0) zhx zhb dX10_takePacks_38 (by decide) ?_
        obtain ⟨zv3, zhp, zhs⟩ := bnd_e zhs
        refine x_cVI (As := [.int 0]) (rest := [.ref (h 37)]) C zhw zhl (cText_number l D cI h 0 M zv3 zhp) (by decide) (by decide) kw_13_14 kw_13_11 kw_13_12 kw_1_15 kw_13_13 md_X9_number rfl 1 (wX_c1 h cI M) rfl rfl rfl rfl (Nat.le_of_ble_eq_true rfl) dX10_takePacks_39 (fun zH zlocs zhw hn9 => ?_)
        refine x_putN C zhw inlX5 rfl tyX5_ok nmX5 37 3 (by decide) (List.mem_of_getElem? (i := 14) rfl) rfl rfl rfl (wX_c37 h cI M) (Nat.le_of_ble_eq_true rfl) (wX_s37_3 h cI M _) dX10_takePacks_42 (fun zH zlocs zhw => ?_)
        obtain ⟨zM4, ze9, zhs⟩ := ltM_e zhs
        rw [← ze9] at zhw; clear ze9
        refine lv_aload_n zhx zhb dX10_takePacks_45 rfl (lv_at zhl 0 rfl) ?_
        refine x_get C zhw inlX10 rfl 22 6 (by decide) kw_3_22 rfl (wX_c22 h cI zM4) rfl dX10_takePacks_46 ?_
        refine lv_aload_n zhx zhb dX10_takePacks_49 rfl (lv_at zhl 1 rfl) ?_
        refine lv_iconst (v := 1) zhx zhb dX10_takePacks_50 (by decide) ?_
        obtain ⟨zv5, zhp, zhs⟩ := bnd_e zhs
        refine x_cVI (As := [.int 1]) (rest := [.ref (h 37)]) C zhw zhl (cText_number l D cI h 1 zM4 zv5 zhp) (by decide) (by decide) kw_13_14 kw_13_11 kw_13_12 kw_1_15 kw_13_13 md_X9_number rfl 1 (wX_c1 h cI zM4) rfl rfl rfl rfl (Nat.le_of_ble_eq_true rfl) dX10_takePacks_51 (fun zH zlocs zhw hn9 => ?_)
        refine x_putN C zhw inlX5 rfl tyX5_ok nmX5 37 4 (by decide) (List.mem_of_getElem? (i := 15) rfl) rfl rfl rfl (wX_c37 h cI zM4) (Nat.le_of_ble_eq_true rfl) (wX_s37_4 h cI zM4 _) dX10_takePacks_54 (fun zH zlocs zhw => ?_)
        obtain ⟨zM6, ze9, zhs⟩ := ltM_e zhs
        rw [← ze9] at zhw; clear ze9
        refine lv_iconst (v := 1) zhx zhb dX10_takePacks_57 (by decide) ?_
        cases zhs
        exact zhret _ _ _ _ dX10_takePacks_58 (by rfl) zhw
      · replace zhs := br_T zhs zc9
        refine lv_iconst (v := 0) zhx zhb dX10_takePacks_31 (by decide) ?_
        cases zhs
        exact zhret _ _ _ _ dX10_takePacks_32 (by rfl) zhw

-- OffFirst$Cells.add in (23, ())
def sCells_add_l (a1 : Int32) (a2 : Int32) (a3 : Int32) (M : Mm) : Option (Int32 × Mm) :=
  (if (M 23 3) < 6 then ltM (putf 6 M 24 (M 23 3) a1) fun zM1 =>
  ltM (putf 6 zM1 25 (zM1 23 3) a2) fun zM2 =>
  ltM (putf 6 zM2 26 (zM2 23 3) a3) fun zM3 =>
  ltM (mset zM3 23 3 ((zM3 23 3) + 1)) fun zM4 =>
  some (1, zM4)
  else some (0, M))
set_option maxHeartbeats 4000000 in
set_option maxRecDepth 100000 in
theorem cCells_add_l (l : Launch) (D : va_G) (cI : ClassId) (h : Nat → Nat) (a1 : Int32) (a2 : Int32) (a3 : Int32) (M : Mm) (r : Int32) (M' : Mm) (zhs : sCells_add_l a1 a2 a3 M = some (r, M')) : CtI l yX0_add cX0_add 4 (some .boolean) 2 D cI (wX h cI M) (wX h cI M') [.ref (h 23), .int a1, .int a2, .int a3] r := by
  unfold sCells_add_l at zhs
  refine CtI_of (by decide +kernel) (Nat.le_of_ble_eq_true rfl) ⟨_, rfl⟩ ?_
  intro p e s m args below meth c A Q zls zH zlocs C zhw zhl zhret
  have zhx := C.1
  have zhb := C.2.1
  have zhown := C.2.2.2.2.1
  have zhtB := C.2.2.2.2.2.2.1
  have zhl : lv_has zls 4 [(0, .ref (h 23)), (1, .int a1), (2, .int a2), (3, .int a3)] := zhl
  refine lv_aload_n zhx zhb dX0_add_0 rfl (lv_at zhl 0 rfl) ?_
  refine x_get C zhw inlX0 rfl 23 3 (by decide) kw_6_23 rfl (wX_c23 h cI M) rfl dX0_add_1 ?_
  refine lv_bipush (v := 6) zhx zhb dX0_add_4 (by decide) ?_
  refine lv_icmp_lt (tgt := 11) zhx zhb dX0_add_6 (by decide) (fun zc9 => ?_) (fun zc9 => ?_)
  · replace zhs := br_T zhs zc9
    refine lv_aload_n zhx zhb dX0_add_11 rfl (lv_at zhl 0 rfl) ?_
    refine x_get C zhw inlX0 rfl 23 0 (by decide) kw_4_3 rfl (wX_c23 h cI M) rfl dX0_add_12 ?_
    refine lv_aload_n zhx zhb dX0_add_15 rfl (lv_at zhl 0 rfl) ?_
    refine x_get C zhw inlX0 rfl 23 3 (by decide) kw_6_23 rfl (wX_c23 h cI M) rfl dX0_add_16 ?_
    refine lv_iload_n zhx zhb dX0_add_19 rfl (lv_at zhl 1 rfl) ?_
    refine x_cSNV (As := [.ref (h 24), .int (M 23 3), .int a1]) (rest := []) C zhw zhl (c_put l D cI (wX h cI) M 24 6 (h 24) (wX_c24 h cI M) (fun j v => wX_a24 h cI M j v) (by decide) (M 23 3) a1) (by decide) (by decide) (List.mem_of_getElem? (i := 7) rfl) kw_7_0 kw_1_2 kw_7_1 md_X11_put rfl rfl (Nat.le_of_ble_eq_true rfl) dX0_add_20 (fun zH zlocs zhw => ?_)
    obtain ⟨zM1, ze9, zhs⟩ := ltM_e zhs
    rw [← ze9] at zhw; clear ze9
    refine lv_aload_n zhx zhb dX0_add_23 rfl (lv_at zhl 0 rfl) ?_
    refine x_get C zhw inlX0 rfl 23 1 (by decide) kw_4_4 rfl (wX_c23 h cI zM1) rfl dX0_add_24 ?_
    refine lv_aload_n zhx zhb dX0_add_27 rfl (lv_at zhl 0 rfl) ?_
    refine x_get C zhw inlX0 rfl 23 3 (by decide) kw_6_23 rfl (wX_c23 h cI zM1) rfl dX0_add_28 ?_
    refine lv_iload_n zhx zhb dX0_add_31 rfl (lv_at zhl 2 rfl) ?_
    refine x_cSNV (As := [.ref (h 25), .int (zM1 23 3), .int a2]) (rest := []) C zhw zhl (c_put l D cI (wX h cI) zM1 25 6 (h 25) (wX_c25 h cI zM1) (fun j v => wX_a25 h cI zM1 j v) (by decide) (zM1 23 3) a2) (by decide) (by decide) (List.mem_of_getElem? (i := 7) rfl) kw_7_0 kw_1_2 kw_7_1 md_X11_put rfl rfl (Nat.le_of_ble_eq_true rfl) dX0_add_32 (fun zH zlocs zhw => ?_)
    obtain ⟨zM2, ze9, zhs⟩ := ltM_e zhs
    rw [← ze9] at zhw; clear ze9
    refine lv_aload_n zhx zhb dX0_add_35 rfl (lv_at zhl 0 rfl) ?_
    refine x_get C zhw inlX0 rfl 23 2 (by decide) kw_4_5 rfl (wX_c23 h cI zM2) rfl dX0_add_36 ?_
    refine lv_aload_n zhx zhb dX0_add_39 rfl (lv_at zhl 0 rfl) ?_
    refine x_get C zhw inlX0 rfl 23 3 (by decide) kw_6_23 rfl (wX_c23 h cI zM2) rfl dX0_add_40 ?_
    refine lv_iload_n zhx zhb dX0_add_43 rfl (lv_at zhl 3 rfl) ?_
    refine x_cSNV (As := [.ref (h 26), .int (zM2 23 3), .int a3]) (rest := []) C zhw zhl (c_put l D cI (wX h cI) zM2 26 6 (h 26) (wX_c26 h cI zM2) (fun j v => wX_a26 h cI zM2 j v) (by decide) (zM2 23 3) a3) (by decide) (by decide) (List.mem_of_getElem? (i := 7) rfl) kw_7_0 kw_1_2 kw_7_1 md_X11_put rfl rfl (Nat.le_of_ble_eq_true rfl) dX0_add_44 (fun zH zlocs zhw => ?_)
    obtain ⟨zM3, ze9, zhs⟩ := ltM_e zhs
    rw [← ze9] at zhw; clear ze9
    refine lv_aload_n zhx zhb dX0_add_47 rfl (lv_at zhl 0 rfl) ?_
    refine lv_dup zhx zhb dX0_add_48 rfl ?_
    refine x_get C zhw inlX0 rfl 23 3 (by decide) kw_6_23 rfl (wX_c23 h cI zM3) rfl dX0_add_49 ?_
    refine lv_iconst (v := 1) zhx zhb dX0_add_52 (by decide) ?_
    refine lv_iadd zhx zhb dX0_add_53 ?_
    refine x_put C zhw inlX0 rfl tyX0_ok nmX0 23 3 (by decide) kw_6_23 rfl rfl rfl (wX_c23 h cI zM3) (Nat.le_of_ble_eq_true rfl) (wX_s23_3 h cI zM3 _) dX0_add_54 (fun zH zlocs zhw => ?_)
    obtain ⟨zM4, ze9, zhs⟩ := ltM_e zhs
    rw [← ze9] at zhw; clear ze9
    refine lv_iconst (v := 1) zhx zhb dX0_add_57 (by decide) ?_
    cases zhs
    exact zhret _ _ _ _ dX0_add_58 (by rfl) zhw
  · replace zhs := br_F zhs zc9
    refine lv_iconst (v := 0) zhx zhb dX0_add_9 (by decide) ?_
    cases zhs
    exact zhret _ _ _ _ dX0_add_10 (by rfl) zhw

-- OffFirst$Told.takeCell in (22, (1,))
def sTold_takeCell_l (M : Mm) : Option (Int32 × Mm) :=
  (if (M 1 4) = 3 then (sText_isNumberWithin 0 0 200 M).bind fun zv9 =>
  (if zv9 = 0 then some (0, M)
  else (sText_isNumberWithin 1 0 99 M).bind fun zv17 =>
  (if zv17 = 0 then some (0, M)
  else (sText_isNumberWithin 2 1 10 M).bind fun zv24 =>
  (if zv24 = 0 then some (0, M)
  else (sText_number 0 M).bind fun zv30 =>
  (sText_number 1 M).bind fun zv31 =>
  (sText_number 2 M).bind fun zv32 =>
  (sCells_add_l zv30 zv31 zv32 M).bind fun (zv33, zM34) =>
  (if zv33 = 0 then some (0, zM34)
  else some (1, zM34)))))
  else some (0, M))
set_option maxHeartbeats 4000000 in
set_option maxRecDepth 100000 in
theorem cTold_takeCell_l (l : Launch) (D : va_G) (cI : ClassId) (h : Nat → Nat) (M : Mm) (r : Int32) (M' : Mm) (zhs : sTold_takeCell_l M = some (r, M')) : CtI l yX10_takeCell cX10_takeCell 2 (some .boolean) 4 D cI (wX h cI M) (wX h cI M') [.ref (h 22), .ref (h 1)] r := by
  unfold sTold_takeCell_l at zhs
  refine CtI_of (by decide +kernel) (Nat.le_of_ble_eq_true rfl) ⟨_, rfl⟩ ?_
  intro p e s m args below meth c A Q zls zH zlocs C zhw zhl zhret
  have zhx := C.1
  have zhb := C.2.1
  have zhown := C.2.2.2.2.1
  have zhtB := C.2.2.2.2.2.2.1
  have zhl : lv_has zls 2 [(0, .ref (h 22)), (1, .ref (h 1))] := zhl
  refine lv_aload_n zhx zhb dX10_takeCell_0 rfl (lv_at zhl 1 rfl) ?_
  refine x_getN C zhw inlX9 rfl 1 4 (by decide) (List.mem_of_getElem? (i := 3) rfl) rfl (wX_c1 h cI M) rfl dX10_takeCell_1 ?_
  refine lv_iconst (v := 3) zhx zhb dX10_takeCell_4 (by decide) ?_
  refine lv_icmp_ne (tgt := 71) zhx zhb dX10_takeCell_5 (by decide) (fun zc9 => ?_) (fun zc9 => ?_)
  · replace zhs := br_F zhs zc9
    refine lv_iconst (v := 0) zhx zhb dX10_takeCell_71 (by decide) ?_
    cases zhs
    exact zhret _ _ _ _ dX10_takeCell_72 (by rfl) zhw
  · replace zhs := br_T zhs zc9
    refine lv_aload_n zhx zhb dX10_takeCell_8 rfl (lv_at zhl 1 rfl) ?_
    refine lv_iconst (v := 0) zhx zhb dX10_takeCell_9 (by decide) ?_
    refine lv_iconst (v := 0) zhx zhb dX10_takeCell_10 (by decide) ?_
    refine lv_sipush (v := 200) zhx zhb dX10_takeCell_11 (by decide) ?_
    obtain ⟨zv9, zhp, zhs⟩ := bnd_e zhs
    refine x_cVI (As := [.int 0, .int 0, .int 200]) (rest := []) C zhw zhl (cText_isNumberWithin l D cI h 0 0 200 M zv9 zhp) (by decide) (by decide) kw_13_6 kw_13_7 kw_13_8 kw_1_15 kw_13_9 md_X9_isNumberWithin rfl 1 (wX_c1 h cI M) rfl rfl rfl rfl (Nat.le_of_ble_eq_true rfl) dX10_takeCell_14 (fun zH zlocs zhw hzv9 => ?_)
    refine lv_if_eq (tgt := 71) zhx zhb dX10_takeCell_17 (by decide) (fun zc9 => ?_) (fun zc9 => ?_)
    · replace zhs := br_T zhs zc9
      refine lv_iconst (v := 0) zhx zhb dX10_takeCell_71 (by decide) ?_
      cases zhs
      exact zhret _ _ _ _ dX10_takeCell_72 (by rfl) zhw
    · replace zhs := br_F zhs zc9
      refine lv_aload_n zhx zhb dX10_takeCell_20 rfl (lv_at zhl 1 rfl) ?_
      refine lv_iconst (v := 1) zhx zhb dX10_takeCell_21 (by decide) ?_
      refine lv_iconst (v := 0) zhx zhb dX10_takeCell_22 (by decide) ?_
      refine lv_bipush (v := 99) zhx zhb dX10_takeCell_23 (by decide) ?_
      obtain ⟨zv17, zhp, zhs⟩ := bnd_e zhs
      refine x_cVI (As := [.int 1, .int 0, .int 99]) (rest := []) C zhw zhl (cText_isNumberWithin l D cI h 1 0 99 M zv17 zhp) (by decide) (by decide) kw_13_6 kw_13_7 kw_13_8 kw_1_15 kw_13_9 md_X9_isNumberWithin rfl 1 (wX_c1 h cI M) rfl rfl rfl rfl (Nat.le_of_ble_eq_true rfl) dX10_takeCell_25 (fun zH zlocs zhw hzv17 => ?_)
      refine lv_if_eq (tgt := 71) zhx zhb dX10_takeCell_28 (by decide) (fun zc9 => ?_) (fun zc9 => ?_)
      · replace zhs := br_T zhs zc9
        refine lv_iconst (v := 0) zhx zhb dX10_takeCell_71 (by decide) ?_
        cases zhs
        exact zhret _ _ _ _ dX10_takeCell_72 (by rfl) zhw
      · replace zhs := br_F zhs zc9
        refine lv_aload_n zhx zhb dX10_takeCell_31 rfl (lv_at zhl 1 rfl) ?_
        refine lv_iconst (v := 2) zhx zhb dX10_takeCell_32 (by decide) ?_
        refine lv_iconst (v := 1) zhx zhb dX10_takeCell_33 (by decide) ?_
        refine lv_bipush (v := 10) zhx zhb dX10_takeCell_34 (by decide) ?_
        obtain ⟨zv24, zhp, zhs⟩ := bnd_e zhs
        refine x_cVI (As := [.int 2, .int 1, .int 10]) (rest := []) C zhw zhl (cText_isNumberWithin l D cI h 2 1 10 M zv24 zhp) (by decide) (by decide) kw_13_6 kw_13_7 kw_13_8 kw_1_15 kw_13_9 md_X9_isNumberWithin rfl 1 (wX_c1 h cI M) rfl rfl rfl rfl (Nat.le_of_ble_eq_true rfl) dX10_takeCell_36 (fun zH zlocs zhw hzv24 => ?_)
        refine lv_if_eq (tgt := 71) zhx zhb dX10_takeCell_39 (by decide) (fun zc9 => ?_) (fun zc9 => ?_)
        · replace zhs := br_T zhs zc9
          refine lv_iconst (v := 0) zhx zhb dX10_takeCell_71 (by decide) ?_
          cases zhs
          exact zhret _ _ _ _ dX10_takeCell_72 (by rfl) zhw
        · replace zhs := br_F zhs zc9
          refine lv_aload_n zhx zhb dX10_takeCell_42 rfl (lv_at zhl 0 rfl) ?_
          refine x_get C zhw inlX10 rfl 22 0 (by decide) kw_3_12 rfl (wX_c22 h cI M) rfl dX10_takeCell_43 ?_
          refine lv_aload_n zhx zhb dX10_takeCell_46 rfl (lv_at zhl 1 rfl) ?_
          refine lv_iconst (v := 0) zhx zhb dX10_takeCell_47 (by decide) ?_
          obtain ⟨zv30, zhp, zhs⟩ := bnd_e zhs
          refine x_cVI (As := [.int 0]) (rest := [.ref (h 23)]) C zhw zhl (cText_number l D cI h 0 M zv30 zhp) (by decide) (by decide) kw_13_14 kw_13_11 kw_13_12 kw_1_15 kw_13_13 md_X9_number rfl 1 (wX_c1 h cI M) rfl rfl rfl rfl (Nat.le_of_ble_eq_true rfl) dX10_takeCell_48 (fun zH zlocs zhw hn9 => ?_)
          refine lv_aload_n zhx zhb dX10_takeCell_51 rfl (lv_at zhl 1 rfl) ?_
          refine lv_iconst (v := 1) zhx zhb dX10_takeCell_52 (by decide) ?_
          obtain ⟨zv31, zhp, zhs⟩ := bnd_e zhs
          refine x_cVI (As := [.int 1]) (rest := [.int zv30, .ref (h 23)]) C zhw zhl (cText_number l D cI h 1 M zv31 zhp) (by decide) (by decide) kw_13_14 kw_13_11 kw_13_12 kw_1_15 kw_13_13 md_X9_number rfl 1 (wX_c1 h cI M) rfl rfl rfl rfl (Nat.le_of_ble_eq_true rfl) dX10_takeCell_53 (fun zH zlocs zhw hn9 => ?_)
          refine lv_aload_n zhx zhb dX10_takeCell_56 rfl (lv_at zhl 1 rfl) ?_
          refine lv_iconst (v := 2) zhx zhb dX10_takeCell_57 (by decide) ?_
          obtain ⟨zv32, zhp, zhs⟩ := bnd_e zhs
          refine x_cVI (As := [.int 2]) (rest := [.int zv31, .int zv30, .ref (h 23)]) C zhw zhl (cText_number l D cI h 2 M zv32 zhp) (by decide) (by decide) kw_13_14 kw_13_11 kw_13_12 kw_1_15 kw_13_13 md_X9_number rfl 1 (wX_c1 h cI M) rfl rfl rfl rfl (Nat.le_of_ble_eq_true rfl) dX10_takeCell_58 (fun zH zlocs zhw hn9 => ?_)
          obtain ⟨⟨zv33, zM34⟩, zhp, zhs⟩ := bnd_e zhs
          try dsimp only at zhs
          refine x_cVI (As := [.int zv30, .int zv31, .int zv32]) (rest := []) C zhw zhl (cCells_add_l l D cI h zv30 zv31 zv32 M zv33 zM34 zhp) (by decide) (by decide) kw_13_15 kw_6_20 kw_6_21 kw_3_11 kw_6_22 md_X0_add rfl 23 (wX_c23 h cI M) rfl rfl rfl rfl (Nat.le_of_ble_eq_true rfl) dX10_takeCell_61 (fun zH zlocs zhw hzv33 => ?_)
          refine lv_if_eq (tgt := 71) zhx zhb dX10_takeCell_64 (by decide) (fun zc9 => ?_) (fun zc9 => ?_)
          · replace zhs := br_T zhs zc9
            refine lv_iconst (v := 0) zhx zhb dX10_takeCell_71 (by decide) ?_
            cases zhs
            exact zhret _ _ _ _ dX10_takeCell_72 (by rfl) zhw
          · replace zhs := br_F zhs zc9
            refine lv_iconst (v := 1) zhx zhb dX10_takeCell_67 (by decide) ?_
            refine lv_goto (tgt := 72) zhx zhb dX10_takeCell_68 (by decide) ?_
            cases zhs
            exact zhret _ _ _ _ dX10_takeCell_72 (by rfl) zhw

