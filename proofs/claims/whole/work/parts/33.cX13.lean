-- OffFirst.back in (0, ())
def sOff_back (N : Nat) (M : Mm) : Option (Int32 × Mm) :=
  (if 0 < (M 0 6) then ltM (mset M 0 6 ((M 0 6) - 1)) fun zM1 =>
  (if (zM1 0 6) = 0 then (sStock_copyFrom_01 N zM1).bind fun zM3 =>
  some ((zM3 0 6), zM3)
  else (sStock_copyFrom_02 N zM1).bind fun zM2 =>
  some ((zM2 0 6), zM2))
  else some ((-2), M))
set_option maxHeartbeats 4000000 in
set_option maxRecDepth 100000 in
theorem cOff_back (l : Launch) (D : va_G) (cI : ClassId) (h : Nat → Nat) (N : Nat) (M : Mm) (r : Int32) (M' : Mm) (zhs : sOff_back N M = some (r, M')) : CtI l yX11_back cX11_back 1 (some .int) 3 D cI (wX h cI M) (wX h cI M') [.ref (h 0)] r := by
  unfold sOff_back at zhs
  refine CtI_of (by decide +kernel) (Nat.le_of_ble_eq_true rfl) ⟨_, rfl⟩ ?_
  intro p e s m args below meth c A Q zls zH zlocs C zhw zhl zhret
  have zhx := C.1
  have zhb := C.2.1
  have zhown := C.2.2.2.2.1
  have zhtB := C.2.2.2.2.2.2.1
  have zhl : lv_has zls 1 [(0, .ref (h 0))] := zhl
  refine lv_aload_n zhx zhb dX11_back_0 rfl (lv_at zhl 0 rfl) ?_
  refine x_get C zhw inlX11 rfl 0 6 (by decide) kw_17_2 rfl (wX_c0 h cI M) rfl dX11_back_1 ?_
  refine lv_if_gt (tgt := 10) zhx zhb dX11_back_4 (by decide) (fun zc9 => ?_) (fun zc9 => ?_)
  · replace zhs := br_T zhs zc9
    refine lv_aload_n zhx zhb dX11_back_10 rfl (lv_at zhl 0 rfl) ?_
    refine lv_dup zhx zhb dX11_back_11 rfl ?_
    refine x_get C zhw inlX11 rfl 0 6 (by decide) kw_17_2 rfl (wX_c0 h cI M) rfl dX11_back_12 ?_
    refine lv_iconst (v := 1) zhx zhb dX11_back_15 (by decide) ?_
    refine lv_isub zhx zhb dX11_back_16 ?_
    refine x_put C zhw inlX11 rfl tyX11_ok nmX11 0 6 (by decide) kw_17_2 rfl rfl rfl (wX_c0 h cI M) (Nat.le_of_ble_eq_true rfl) (wX_s0_6 h cI M _) dX11_back_17 (fun zH zlocs zhw => ?_)
    obtain ⟨zM1, ze9, zhs⟩ := ltM_e zhs
    rw [← ze9] at zhw; clear ze9
    refine lv_aload_n zhx zhb dX11_back_20 rfl (lv_at zhl 0 rfl) ?_
    refine x_get C zhw inlX11 rfl 0 3 (by decide) kw_2_1 rfl (wX_c0 h cI zM1) rfl dX11_back_21 ?_
    refine lv_aload_n zhx zhb dX11_back_24 rfl (lv_at zhl 0 rfl) ?_
    refine x_get C zhw inlX11 rfl 0 6 (by decide) kw_17_2 rfl (wX_c0 h cI zM1) rfl dX11_back_25 ?_
    refine lv_if_ne (tgt := 38) zhx zhb dX11_back_28 (by decide) (fun zc9 => ?_) (fun zc9 => ?_)
    · replace zhs := br_F zhs zc9
      refine lv_aload_n zhx zhb dX11_back_38 rfl (lv_at zhl 0 rfl) ?_
      refine x_get C zhw inlX11 rfl 0 5 (by decide) kw_2_3 rfl (wX_c0 h cI zM1) rfl dX11_back_39 ?_
      obtain ⟨zM2, zhp, zhs⟩ := bnd_e zhs
      refine x_cVV (As := [.ref (h 52)]) (rest := []) C zhw zhl (cStock_copyFrom_02 l D cI h N zM1 zM2 zhp) (by decide) (by decide) kw_44_13 kw_44_14 kw_44_15 kw_2_0 kw_44_16 md_X8_copyFrom rfl 40 (wX_c40 h cI zM1) rfl rfl rfl rfl (Nat.le_of_ble_eq_true rfl) dX11_back_42 (fun zH zlocs zhw => ?_)
      refine lv_aload_n zhx zhb dX11_back_45 rfl (lv_at zhl 0 rfl) ?_
      refine x_get C zhw inlX11 rfl 0 6 (by decide) kw_17_2 rfl (wX_c0 h cI zM2) rfl dX11_back_46 ?_
      cases zhs
      exact zhret _ _ _ _ dX11_back_49 (by rfl) zhw
    · replace zhs := br_T zhs zc9
      refine lv_aload_n zhx zhb dX11_back_31 rfl (lv_at zhl 0 rfl) ?_
      refine x_get C zhw inlX11 rfl 0 4 (by decide) kw_2_2 rfl (wX_c0 h cI zM1) rfl dX11_back_32 ?_
      refine lv_goto (tgt := 42) zhx zhb dX11_back_35 (by decide) ?_
      obtain ⟨zM3, zhp, zhs⟩ := bnd_e zhs
      refine x_cVV (As := [.ref (h 46)]) (rest := []) C zhw zhl (cStock_copyFrom_01 l D cI h N zM1 zM3 zhp) (by decide) (by decide) kw_44_13 kw_44_14 kw_44_15 kw_2_0 kw_44_16 md_X8_copyFrom rfl 40 (wX_c40 h cI zM1) rfl rfl rfl rfl (Nat.le_of_ble_eq_true rfl) dX11_back_42 (fun zH zlocs zhw => ?_)
      refine lv_aload_n zhx zhb dX11_back_45 rfl (lv_at zhl 0 rfl) ?_
      refine x_get C zhw inlX11 rfl 0 6 (by decide) kw_17_2 rfl (wX_c0 h cI zM3) rfl dX11_back_46 ?_
      cases zhs
      exact zhret _ _ _ _ dX11_back_49 (by rfl) zhw
  · replace zhs := br_F zhs zc9
    refine lv_bipush (v := (-2)) zhx zhb dX11_back_7 (by decide) ?_
    cases zhs
    exact zhret _ _ _ _ dX11_back_9 (by rfl) zhw

-- OffFirst.count in (0, ())
def sOff_count (N : Nat) (a1 : Int32) (M : Mm) : Option Int32 :=
  (if a1 = 0 then some (M 27 7)
  else (if a1 = 1 then some (M 23 3)
  else (if a1 = 2 then some (M 22 3)
  else (if a1 = 3 then some (M 22 5)
  else (if a1 = 4 then some (M 37 2)
  else (if a1 = 5 then some (M 71 2)
  else (if a1 = 6 then some (M 40 6)
  else (if a1 = 7 then (sStock_numberThere N M).bind fun zv1 =>
  some zv1
  else (if a1 = 8 then some (M 1 1)
  else (if a1 = 9 then some (M 0 6)
  else some (-1)))))))))))
set_option maxHeartbeats 4000000 in
set_option maxRecDepth 100000 in
theorem cOff_count (l : Launch) (D : va_G) (cI : ClassId) (h : Nat → Nat) (N : Nat) (a1 : Int32) (M : Mm) (r : Int32) (zhs : sOff_count N a1 M = some r) : CtI l yX11_count cX11_count 2 (some .int) 5 D cI (wX h cI M) (wX h cI M) [.ref (h 0), .int a1] r := by
  unfold sOff_count at zhs
  refine CtI_of (by decide +kernel) (Nat.le_of_ble_eq_true rfl) ⟨_, rfl⟩ ?_
  intro p e s m args below meth c A Q zls zH zlocs C zhw zhl zhret
  have zhx := C.1
  have zhb := C.2.1
  have zhown := C.2.2.2.2.1
  have zhtB := C.2.2.2.2.2.2.1
  have zhl : lv_has zls 2 [(0, .ref (h 0)), (1, .int a1)] := zhl
  refine lv_iload_n zhx zhb dX11_count_0 rfl (lv_at zhl 1 rfl) ?_
  rcases Decidable.em (a1 = 0) with zc9 | c1000
  · replace zhs := br_T zhs zc9
    refine lv_tableIn (tgt := 56) (off := 55) zhx zhb dX11_count_1 (by rw [zc9]; decide) (by rw [zc9]; decide) (by rw [zc9]; decide) (by decide) ?_
    refine lv_aload_n zhx zhb dX11_count_56 rfl (lv_at zhl 0 rfl) ?_
    refine x_get C zhw inlX11 rfl 0 2 (by decide) kw_1_21 rfl (wX_c0 h cI M) rfl dX11_count_57 ?_
    refine x_getN C zhw inlX10 rfl 22 1 (by decide) (List.mem_of_getElem? (i := 19) rfl) rfl (wX_c22 h cI M) rfl dX11_count_60 ?_
    refine x_getN C zhw inlX2 rfl 27 7 (by decide) (List.mem_of_getElem? (i := 11) rfl) rfl (wX_c27 h cI M) rfl dX11_count_63 ?_
    cases zhs
    exact zhret _ _ _ _ dX11_count_66 (by rfl) zhw
  replace zhs := br_F zhs c1000
  rcases Decidable.em (a1 = 1) with zc9 | c1001
  · replace zhs := br_T zhs zc9
    refine lv_tableIn (tgt := 67) (off := 66) zhx zhb dX11_count_1 (by rw [zc9]; decide) (by rw [zc9]; decide) (by rw [zc9]; decide) (by decide) ?_
    refine lv_aload_n zhx zhb dX11_count_67 rfl (lv_at zhl 0 rfl) ?_
    refine x_get C zhw inlX11 rfl 0 2 (by decide) kw_1_21 rfl (wX_c0 h cI M) rfl dX11_count_68 ?_
    refine x_getN C zhw inlX10 rfl 22 0 (by decide) (List.mem_of_getElem? (i := 16) rfl) rfl (wX_c22 h cI M) rfl dX11_count_71 ?_
    refine x_getN C zhw inlX0 rfl 23 3 (by decide) (List.mem_of_getElem? (i := 6) rfl) rfl (wX_c23 h cI M) rfl dX11_count_74 ?_
    cases zhs
    exact zhret _ _ _ _ dX11_count_77 (by rfl) zhw
  replace zhs := br_F zhs c1001
  rcases Decidable.em (a1 = 2) with zc9 | c1002
  · replace zhs := br_T zhs zc9
    refine lv_tableIn (tgt := 78) (off := 77) zhx zhb dX11_count_1 (by rw [zc9]; decide) (by rw [zc9]; decide) (by rw [zc9]; decide) (by decide) ?_
    refine lv_aload_n zhx zhb dX11_count_78 rfl (lv_at zhl 0 rfl) ?_
    refine x_get C zhw inlX11 rfl 0 2 (by decide) kw_1_21 rfl (wX_c0 h cI M) rfl dX11_count_79 ?_
    refine x_getN C zhw inlX10 rfl 22 3 (by decide) (List.mem_of_getElem? (i := 25) rfl) rfl (wX_c22 h cI M) rfl dX11_count_82 ?_
    cases zhs
    exact zhret _ _ _ _ dX11_count_85 (by rfl) zhw
  replace zhs := br_F zhs c1002
  rcases Decidable.em (a1 = 3) with zc9 | c1003
  · replace zhs := br_T zhs zc9
    refine lv_tableIn (tgt := 86) (off := 85) zhx zhb dX11_count_1 (by rw [zc9]; decide) (by rw [zc9]; decide) (by rw [zc9]; decide) (by decide) ?_
    refine lv_aload_n zhx zhb dX11_count_86 rfl (lv_at zhl 0 rfl) ?_
    refine x_get C zhw inlX11 rfl 0 2 (by decide) kw_1_21 rfl (wX_c0 h cI M) rfl dX11_count_87 ?_
    refine x_getN C zhw inlX10 rfl 22 5 (by decide) (List.mem_of_getElem? (i := 26) rfl) rfl (wX_c22 h cI M) rfl dX11_count_90 ?_
    cases zhs
    exact zhret _ _ _ _ dX11_count_93 (by rfl) zhw
  replace zhs := br_F zhs c1003
  rcases Decidable.em (a1 = 4) with zc9 | c1004
  · replace zhs := br_T zhs zc9
    refine lv_tableIn (tgt := 94) (off := 93) zhx zhb dX11_count_1 (by rw [zc9]; decide) (by rw [zc9]; decide) (by rw [zc9]; decide) (by decide) ?_
    refine lv_aload_n zhx zhb dX11_count_94 rfl (lv_at zhl 0 rfl) ?_
    refine x_get C zhw inlX11 rfl 0 2 (by decide) kw_1_21 rfl (wX_c0 h cI M) rfl dX11_count_95 ?_
    refine x_getN C zhw inlX10 rfl 22 6 (by decide) (List.mem_of_getElem? (i := 27) rfl) rfl (wX_c22 h cI M) rfl dX11_count_98 ?_
    refine x_getN C zhw inlX5 rfl 37 2 (by decide) (List.mem_of_getElem? (i := 13) rfl) rfl (wX_c37 h cI M) rfl dX11_count_101 ?_
    cases zhs
    exact zhret _ _ _ _ dX11_count_104 (by rfl) zhw
  replace zhs := br_F zhs c1004
  rcases Decidable.em (a1 = 5) with zc9 | c1005
  · replace zhs := br_T zhs zc9
    refine lv_tableIn (tgt := 105) (off := 104) zhx zhb dX11_count_1 (by rw [zc9]; decide) (by rw [zc9]; decide) (by rw [zc9]; decide) (by decide) ?_
    refine lv_aload_n zhx zhb dX11_count_105 rfl (lv_at zhl 0 rfl) ?_
    refine x_get C zhw inlX11 rfl 0 11 (by decide) kw_2_23 rfl (wX_c0 h cI M) rfl dX11_count_106 ?_
    refine x_getN C zhw inlX7 rfl 71 2 (by decide) (List.mem_of_getElem? (i := 40) rfl) rfl (wX_c71 h cI M) rfl dX11_count_109 ?_
    cases zhs
    exact zhret _ _ _ _ dX11_count_112 (by rfl) zhw
  replace zhs := br_F zhs c1005
  rcases Decidable.em (a1 = 6) with zc9 | c1006
  · replace zhs := br_T zhs zc9
    refine lv_tableIn (tgt := 113) (off := 112) zhx zhb dX11_count_1 (by rw [zc9]; decide) (by rw [zc9]; decide) (by rw [zc9]; decide) (by decide) ?_
    refine lv_aload_n zhx zhb dX11_count_113 rfl (lv_at zhl 0 rfl) ?_
    refine x_get C zhw inlX11 rfl 0 3 (by decide) kw_2_1 rfl (wX_c0 h cI M) rfl dX11_count_114 ?_
    refine x_getN C zhw inlX8 rfl 40 6 (by decide) (List.mem_of_getElem? (i := 31) rfl) rfl (wX_c40 h cI M) rfl dX11_count_117 ?_
    cases zhs
    exact zhret _ _ _ _ dX11_count_120 (by rfl) zhw
  replace zhs := br_F zhs c1006
  rcases Decidable.em (a1 = 7) with zc9 | c1007
  · replace zhs := br_T zhs zc9
    refine lv_tableIn (tgt := 121) (off := 120) zhx zhb dX11_count_1 (by rw [zc9]; decide) (by rw [zc9]; decide) (by rw [zc9]; decide) (by decide) ?_
    refine lv_aload_n zhx zhb dX11_count_121 rfl (lv_at zhl 0 rfl) ?_
    refine x_get C zhw inlX11 rfl 0 3 (by decide) kw_2_1 rfl (wX_c0 h cI M) rfl dX11_count_122 ?_
    obtain ⟨zv1, zhp, zhs⟩ := bnd_e zhs
    refine x_cVI (As := []) (rest := []) C zhw zhl (cStock_numberThere l D cI h N M zv1 zhp) (by decide) (by decide) kw_34_0 kw_34_1 kw_34_2 kw_2_0 kw_34_3 md_X8_numberThere rfl 40 (wX_c40 h cI M) rfl rfl rfl rfl (Nat.le_of_ble_eq_true rfl) dX11_count_125 (fun zH zlocs zhw hn9 => ?_)
    cases zhs
    exact zhret _ _ _ _ dX11_count_128 (by rfl) zhw
  replace zhs := br_F zhs c1007
  rcases Decidable.em (a1 = 8) with zc9 | c1008
  · replace zhs := br_T zhs zc9
    refine lv_tableIn (tgt := 129) (off := 128) zhx zhb dX11_count_1 (by rw [zc9]; decide) (by rw [zc9]; decide) (by rw [zc9]; decide) (by decide) ?_
    refine lv_aload_n zhx zhb dX11_count_129 rfl (lv_at zhl 0 rfl) ?_
    refine x_get C zhw inlX11 rfl 0 0 (by decide) kw_1_16 rfl (wX_c0 h cI M) rfl dX11_count_130 ?_
    refine x_getN C zhw inlX9 rfl 1 1 (by decide) (List.mem_of_getElem? (i := 1) rfl) rfl (wX_c1 h cI M) rfl dX11_count_133 ?_
    cases zhs
    exact zhret _ _ _ _ dX11_count_136 (by rfl) zhw
  replace zhs := br_F zhs c1008
  rcases Decidable.em (a1 = 9) with zc9 | c1009
  · replace zhs := br_T zhs zc9
    refine lv_tableIn (tgt := 137) (off := 136) zhx zhb dX11_count_1 (by rw [zc9]; decide) (by rw [zc9]; decide) (by rw [zc9]; decide) (by decide) ?_
    refine lv_aload_n zhx zhb dX11_count_137 rfl (lv_at zhl 0 rfl) ?_
    refine x_get C zhw inlX11 rfl 0 6 (by decide) kw_17_2 rfl (wX_c0 h cI M) rfl dX11_count_138 ?_
    cases zhs
    exact zhret _ _ _ _ dX11_count_141 (by rfl) zhw
  replace zhs := br_F zhs c1009
  have zhout : a1.toInt < 0 ∨ 9 < a1.toInt := by
    have f0 : ¬ a1.toInt = 0 := fun zq9 => c1000 (Int32.toInt_inj.mp (zq9.trans rfl))
    have f1 : ¬ a1.toInt = 1 := fun zq9 => c1001 (Int32.toInt_inj.mp (zq9.trans rfl))
    have f2 : ¬ a1.toInt = 2 := fun zq9 => c1002 (Int32.toInt_inj.mp (zq9.trans rfl))
    have f3 : ¬ a1.toInt = 3 := fun zq9 => c1003 (Int32.toInt_inj.mp (zq9.trans rfl))
    have f4 : ¬ a1.toInt = 4 := fun zq9 => c1004 (Int32.toInt_inj.mp (zq9.trans rfl))
    have f5 : ¬ a1.toInt = 5 := fun zq9 => c1005 (Int32.toInt_inj.mp (zq9.trans rfl))
    have f6 : ¬ a1.toInt = 6 := fun zq9 => c1006 (Int32.toInt_inj.mp (zq9.trans rfl))
    have f7 : ¬ a1.toInt = 7 := fun zq9 => c1007 (Int32.toInt_inj.mp (zq9.trans rfl))
    have f8 : ¬ a1.toInt = 8 := fun zq9 => c1008 (Int32.toInt_inj.mp (zq9.trans rfl))
    have f9 : ¬ a1.toInt = 9 := fun zq9 => c1009 (Int32.toInt_inj.mp (zq9.trans rfl))
    omega
  refine lv_tableOut (tgt := 142) zhx zhb dX11_count_1 zhout (by decide) ?_
  refine lv_iconst (v := (-1)) zhx zhb dX11_count_142 (by decide) ?_
  cases zhs
  exact zhret _ _ _ _ dX11_count_143 (by rfl) zhw

