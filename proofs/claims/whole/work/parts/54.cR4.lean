-- OffFirstModel.make in (0, ())
def sRef_make (a1 : Int32) (a2 : Int32) (M : Mm) : Option (Int32 × Mm) :=
  (sRef_isFood a1 M).bind fun zv1 =>
  (if zv1 = 0 then some ((-1), M)
  else (sRef_in (Int32.toInt64 a2) 0 3).bind fun zv2 =>
  (if zv2 = 0 then some ((-1), M)
  else rdc 40 (M 22) a1 fun zv3 =>
  (((if a2 = 0 then (if zv3 = 3 then some 1
  else some 0)
  else (if a2 = 1 then (if zv3 = 0 then some 1
  else some 0)
  else (if a2 = 2 then (if 2 ≤ zv3 then some 0
  else some 1)
  else (if zv3 = 3 then some 0
  else some 1)))) : Option (Int32))).bind fun zv4 =>
  rdc 40 (M 25) a1 fun zv6 =>
  (if zv6 = 0 then (if zv4 = 0 then some ((-2), M)
  else (if a2 = 0 then inc 40 a1 <| ltM (mset M 22 (Int32.toNatClampNeg a1) 1) fun zM8 =>
  some (zv3, zM8)
  else inc 40 a1 <| ltM (mset M 22 (Int32.toNatClampNeg a1) a2) fun zM7 =>
  some (zv3, zM7)))
  else some ((-2), M))))
set_option maxHeartbeats 4000000 in
set_option maxRecDepth 100000 in
theorem cRef_make (l : Launch) (D : va_G) (cI : ClassId) (h : Nat → Nat) (a1 : Int32) (a2 : Int32) (M : Mm) (r : Int32) (M' : Mm) (zhs : sRef_make a1 a2 M = some (r, M')) : CtI l yX12_make cX12_make 5 (some .int) 3 D cI (wR h cI M) (wR h cI M') [.ref (h 0), .int a1, .int a2] r := by
  unfold sRef_make at zhs
  refine CtI_of (by decide +kernel) (Nat.le_of_ble_eq_true rfl) ⟨_, rfl⟩ ?_
  intro p e s m args below meth c A Q zls zH zlocs C zhw zhl zhret
  have zhx := C.1
  have zhb := C.2.1
  have zhown := C.2.2.2.2.1
  have zhtB := C.2.2.2.2.2.2.1
  have zhl : lv_has zls 5 [(0, .ref (h 0)), (1, .int a1), (2, .int a2)] := zhl
  refine lv_aload_n zhx zhb dX12_make_0 rfl (lv_at zhl 0 rfl) ?_
  refine lv_iload_n zhx zhb dX12_make_1 rfl (lv_at zhl 1 rfl) ?_
  obtain ⟨zv1, zhp, zhs⟩ := bnd_e zhs
  refine x_cVI (As := [.int a1]) (rest := []) C zhw zhl (cRef_isFood l D cI h a1 M zv1 zhp) (by decide) (by decide) kw_19_23 kw_20_0 kw_20_1 kw_1_5 kw_20_2 md_X12_isFood rfl 0 (wR_c0 h cI M) rfl rfl rfl rfl (Nat.le_of_ble_eq_true rfl) dX12_make_2 (fun zH zlocs zhw hzv1 => ?_)
  refine lv_if_eq (tgt := 20) zhx zhb dX12_make_5 (by decide) (fun zc9 => ?_) (fun zc9 => ?_)
  · replace zhs := br_T zhs zc9
    refine lv_iconst (v := (-1)) zhx zhb dX12_make_20 (by decide) ?_
    cases zhs
    exact zhret _ _ _ _ dX12_make_21 (by rfl) zhw
  · replace zhs := br_F zhs zc9
    refine lv_iload_n zhx zhb dX12_make_8 rfl (lv_at zhl 2 rfl) ?_
    refine lv_i2l zhx zhb dX12_make_9 rfl ?_
    refine lv_lconst (v := 0) zhx zhb dX12_make_10 (by decide) ?_
    refine lv_ldc2 zhx zhb zhown (zhtB _ kw_16_16) dX12_make_11 ?_
    obtain ⟨zv2, zhp, zhs⟩ := bnd_e zhs
    refine x_cSI (As := [.long (Int32.toInt64 a2), .long 0, .long 3]) (rest := []) C zhw zhl (cRef_in l D cI h (Int32.toInt64 a2) 0 3 M zv2 zhp) (by decide) (by decide) kw_10_14 kw_10_15 kw_1_5 kw_10_16 md_X12_in rfl rfl (Nat.le_of_ble_eq_true rfl) dX12_make_14 (fun zH zlocs zhw hzv2 => ?_)
    refine lv_if_ne (tgt := 22) zhx zhb dX12_make_17 (by decide) (fun zc9 => ?_) (fun zc9 => ?_)
    · replace zhs := br_F zhs zc9
      refine lv_aload_n zhx zhb dX12_make_22 rfl (lv_at zhl 0 rfl) ?_
      refine x_get C zhw inlX12 rfl 0 22 (by decide) kw_9_0 rfl (wR_c0 h cI M) rfl dX12_make_23 ?_
      refine lv_iload_n zhx zhb dX12_make_26 rfl (lv_at zhl 1 rfl) ?_
      obtain ⟨zv3, ze9, zhi, zhs⟩ := rdc_v zhs
      refine x_iald C zhw 22 (wR_c22 h cI M) zhi dX12_make_27 ?_
      refine lv_topi (fun zy9 ze8 => ?_)
      obtain rfl : zv3 = zy9 := ze9.trans ze8.symm
      clear ze9 ze8
      refine lv_istore_n (lv' := [(3, .int zv3), (0, .ref (h 0)), (1, .int a1), (2, .int a2)]) zhx zhb dX12_make_28 rfl zhl (by decide) rfl (fun zls zhl => ?_)
      refine lv_iload_n zhx zhb dX12_make_29 rfl (lv_at zhl 3 rfl) ?_
      obtain ⟨zv4, zhq, zhs⟩ := bnd_e zhs
      have hJ5 : ∀ (zH : Heap) (zlocs : List Loc) (zls : Array Slot), lv_has zls 5 [(3, .int zv3), (0, .ref (h 0)), (1, .int a1), (2, .int a2)] → Hw D (wR h cI M) A s.heap zH zlocs → W p l e (RM 3) s m args below meth c zH zlocs 0 0 Q (F0 m 91 zls [.int zv4]) := by
        intro zH zlocs zls zhl zhw
        refine lv_istore (lv' := [(4, .int zv4), (3, .int zv3), (0, .ref (h 0)), (1, .int a1), (2, .int a2)]) zhx zhb dX12_make_91 zhl (by decide) rfl (fun zls zhl => ?_)
        refine lv_aload_n zhx zhb dX12_make_93 rfl (lv_at zhl 2 rfl) ?_
        refine x_get C zhw inlX12 rfl 0 25 (by decide) kw_9_3 rfl (wR_c0 h cI M) rfl dX12_make_94 ?_
        refine lv_iload_n zhx zhb dX12_make_97 rfl (lv_at zhl 3 rfl) ?_
        obtain ⟨zv6, ze9, zhi, zhs⟩ := rdc_v zhs
        refine x_iald C zhw 25 (wR_c25 h cI M) zhi dX12_make_98 ?_
        refine lv_topi (fun zy9 ze8 => ?_)
        obtain rfl : zv6 = zy9 := ze9.trans ze8.symm
        clear ze9 ze8
        refine lv_if_ne (tgt := 107) zhx zhb dX12_make_99 (by decide) (fun zc9 => ?_) (fun zc9 => ?_)
        · replace zhs := br_F zhs zc9
          refine lv_bipush (v := (-2)) zhx zhb dX12_make_107 (by decide) ?_
          cases zhs
          exact zhret _ _ _ _ dX12_make_109 (by rfl) zhw
        · replace zhs := br_T zhs zc9
          refine lv_iload zhx zhb dX12_make_102 (lv_at zhl 0 rfl) ?_
          refine lv_if_ne (tgt := 110) zhx zhb dX12_make_104 (by decide) (fun zc9 => ?_) (fun zc9 => ?_)
          · replace zhs := br_F zhs zc9
            refine lv_aload_n zhx zhb dX12_make_110 rfl (lv_at zhl 2 rfl) ?_
            refine x_get C zhw inlX12 rfl 0 22 (by decide) kw_9_0 rfl (wR_c0 h cI M) rfl dX12_make_111 ?_
            refine lv_iload_n zhx zhb dX12_make_114 rfl (lv_at zhl 3 rfl) ?_
            refine lv_iload_n zhx zhb dX12_make_115 rfl (lv_at zhl 4 rfl) ?_
            refine lv_if_ne (tgt := 123) zhx zhb dX12_make_116 (by decide) (fun zc9 => ?_) (fun zc9 => ?_)
            · replace zhs := br_F zhs zc9
              refine lv_iload_n zhx zhb dX12_make_123 rfl (lv_at zhl 4 rfl) ?_
              obtain ⟨zhi, zhs⟩ := inc_e zhs
              refine x_iast C zhw 22 (wR_c22 h cI M) zhi (wR_a22 h cI M _ _) dX12_make_124 (fun zH zlocs zhw => ?_)
              obtain ⟨zM7, ze9, zhs⟩ := ltM_e zhs
              rw [← ze9] at zhw; clear ze9
              refine lv_iload_n zhx zhb dX12_make_125 rfl (lv_at zhl 1 rfl) ?_
              cases zhs
              exact zhret _ _ _ _ dX12_make_126 (by rfl) zhw
            · replace zhs := br_T zhs zc9
              refine lv_iconst (v := 1) zhx zhb dX12_make_119 (by decide) ?_
              refine lv_goto (tgt := 124) zhx zhb dX12_make_120 (by decide) ?_
              obtain ⟨zhi, zhs⟩ := inc_e zhs
              refine x_iast C zhw 22 (wR_c22 h cI M) zhi (wR_a22 h cI M _ _) dX12_make_124 (fun zH zlocs zhw => ?_)
              obtain ⟨zM8, ze9, zhs⟩ := ltM_e zhs
              rw [← ze9] at zhw; clear ze9
              refine lv_iload_n zhx zhb dX12_make_125 rfl (lv_at zhl 1 rfl) ?_
              cases zhs
              exact zhret _ _ _ _ dX12_make_126 (by rfl) zhw
          · replace zhs := br_T zhs zc9
            refine lv_bipush (v := (-2)) zhx zhb dX12_make_107 (by decide) ?_
            cases zhs
            exact zhret _ _ _ _ dX12_make_109 (by rfl) zhw
      replace zhs := zhq
      clear zhq
      refine lv_if_ne (tgt := 46) zhx zhb dX12_make_30 (by decide) (fun zc9 => ?_) (fun zc9 => ?_)
      · replace zhs := br_F zhs zc9
        refine lv_iload_n zhx zhb dX12_make_46 rfl (lv_at zhl 3 rfl) ?_
        refine lv_iconst (v := 1) zhx zhb dX12_make_47 (by decide) ?_
        refine lv_icmp_ne (tgt := 63) zhx zhb dX12_make_48 (by decide) (fun zc9 => ?_) (fun zc9 => ?_)
        · replace zhs := br_F zhs zc9
          refine lv_iload_n zhx zhb dX12_make_63 rfl (lv_at zhl 3 rfl) ?_
          refine lv_iconst (v := 2) zhx zhb dX12_make_64 (by decide) ?_
          refine lv_icmp_ne (tgt := 81) zhx zhb dX12_make_65 (by decide) (fun zc9 => ?_) (fun zc9 => ?_)
          · replace zhs := br_F zhs zc9
            refine lv_iload_n zhx zhb dX12_make_81 rfl (lv_at zhl 0 rfl) ?_
            refine lv_iconst (v := 3) zhx zhb dX12_make_82 (by decide) ?_
            refine lv_icmp_eq (tgt := 90) zhx zhb dX12_make_83 (by decide) (fun zc9 => ?_) (fun zc9 => ?_)
            · replace zhs := br_T zhs zc9
              refine lv_iconst (v := 0) zhx zhb dX12_make_90 (by decide) ?_
              cases zhs
              exact hJ5 zH zlocs zls zhl zhw
            · replace zhs := br_F zhs zc9
              refine lv_iconst (v := 1) zhx zhb dX12_make_86 (by decide) ?_
              refine lv_goto (tgt := 91) zhx zhb dX12_make_87 (by decide) ?_
              cases zhs
              exact hJ5 zH zlocs zls zhl zhw
          · replace zhs := br_T zhs zc9
            refine lv_iload_n zhx zhb dX12_make_68 rfl (lv_at zhl 0 rfl) ?_
            refine lv_iconst (v := 2) zhx zhb dX12_make_69 (by decide) ?_
            refine lv_icmp_ge (tgt := 77) zhx zhb dX12_make_70 (by decide) (fun zc9 => ?_) (fun zc9 => ?_)
            · replace zhs := br_T zhs zc9
              refine lv_iconst (v := 0) zhx zhb dX12_make_77 (by decide) ?_
              refine lv_goto (tgt := 91) zhx zhb dX12_make_78 (by decide) ?_
              cases zhs
              exact hJ5 zH zlocs zls zhl zhw
            · replace zhs := br_F zhs zc9
              refine lv_iconst (v := 1) zhx zhb dX12_make_73 (by decide) ?_
              refine lv_goto (tgt := 91) zhx zhb dX12_make_74 (by decide) ?_
              cases zhs
              exact hJ5 zH zlocs zls zhl zhw
        · replace zhs := br_T zhs zc9
          refine lv_iload_n zhx zhb dX12_make_51 rfl (lv_at zhl 0 rfl) ?_
          refine lv_if_ne (tgt := 59) zhx zhb dX12_make_52 (by decide) (fun zc9 => ?_) (fun zc9 => ?_)
          · replace zhs := br_F zhs zc9
            refine lv_iconst (v := 0) zhx zhb dX12_make_59 (by decide) ?_
            refine lv_goto (tgt := 91) zhx zhb dX12_make_60 (by decide) ?_
            cases zhs
            exact hJ5 zH zlocs zls zhl zhw
          · replace zhs := br_T zhs zc9
            refine lv_iconst (v := 1) zhx zhb dX12_make_55 (by decide) ?_
            refine lv_goto (tgt := 91) zhx zhb dX12_make_56 (by decide) ?_
            cases zhs
            exact hJ5 zH zlocs zls zhl zhw
      · replace zhs := br_T zhs zc9
        refine lv_iload_n zhx zhb dX12_make_33 rfl (lv_at zhl 0 rfl) ?_
        refine lv_iconst (v := 3) zhx zhb dX12_make_34 (by decide) ?_
        refine lv_icmp_ne (tgt := 42) zhx zhb dX12_make_35 (by decide) (fun zc9 => ?_) (fun zc9 => ?_)
        · replace zhs := br_F zhs zc9
          refine lv_iconst (v := 0) zhx zhb dX12_make_42 (by decide) ?_
          refine lv_goto (tgt := 91) zhx zhb dX12_make_43 (by decide) ?_
          cases zhs
          exact hJ5 zH zlocs zls zhl zhw
        · replace zhs := br_T zhs zc9
          refine lv_iconst (v := 1) zhx zhb dX12_make_38 (by decide) ?_
          refine lv_goto (tgt := 91) zhx zhb dX12_make_39 (by decide) ?_
          cases zhs
          exact hJ5 zH zlocs zls zhl zhw
    · replace zhs := br_T zhs zc9
      refine lv_iconst (v := (-1)) zhx zhb dX12_make_20 (by decide) ?_
      cases zhs
      exact zhret _ _ _ _ dX12_make_21 (by rfl) zhw

-- OffFirstModel.take in (0, ())
def sRef_take (a1 : Int32) (a2 : Int32) (M : Mm) : Option (Int32 × Mm) :=
  (sRef_isFood a1 M).bind fun zv1 =>
  (if zv1 = 0 then some ((-1), M)
  else rdc 40 (M 25) a1 fun zv2 =>
  (if zv2 = 0 then inc 40 a1 <| ltM (mset M 25 (Int32.toNatClampNeg a1) a2) fun zM3 =>
  rdc 4 (zM3 27) 0 fun zv4 =>
  inc 40 a1 <| ltM (mset zM3 26 (Int32.toNatClampNeg a1) zv4) fun zM5 =>
  (sRef_isOff a1 zM5).bind fun zv6 =>
  (if zv6 = 0 then some (0, zM5)
  else some (1, zM5))
  else some ((-2), M)))
set_option maxHeartbeats 4000000 in
set_option maxRecDepth 100000 in
theorem cRef_take (l : Launch) (D : va_G) (cI : ClassId) (h : Nat → Nat) (a1 : Int32) (a2 : Int32) (M : Mm) (r : Int32) (M' : Mm) (zhs : sRef_take a1 a2 M = some (r, M')) : CtI l yX12_take cX12_take 3 (some .int) 3 D cI (wR h cI M) (wR h cI M') [.ref (h 0), .int a1, .int a2] r := by
  unfold sRef_take at zhs
  refine CtI_of (by decide +kernel) (Nat.le_of_ble_eq_true rfl) ⟨_, rfl⟩ ?_
  intro p e s m args below meth c A Q zls zH zlocs C zhw zhl zhret
  have zhx := C.1
  have zhb := C.2.1
  have zhown := C.2.2.2.2.1
  have zhtB := C.2.2.2.2.2.2.1
  have zhl : lv_has zls 3 [(0, .ref (h 0)), (1, .int a1), (2, .int a2)] := zhl
  refine lv_aload_n zhx zhb dX12_take_0 rfl (lv_at zhl 0 rfl) ?_
  refine lv_iload_n zhx zhb dX12_take_1 rfl (lv_at zhl 1 rfl) ?_
  obtain ⟨zv1, zhp, zhs⟩ := bnd_e zhs
  refine x_cVI (As := [.int a1]) (rest := []) C zhw zhl (cRef_isFood l D cI h a1 M zv1 zhp) (by decide) (by decide) kw_19_23 kw_20_0 kw_20_1 kw_1_5 kw_20_2 md_X12_isFood rfl 0 (wR_c0 h cI M) rfl rfl rfl rfl (Nat.le_of_ble_eq_true rfl) dX12_take_2 (fun zH zlocs zhw hzv1 => ?_)
  refine lv_if_ne (tgt := 10) zhx zhb dX12_take_5 (by decide) (fun zc9 => ?_) (fun zc9 => ?_)
  · replace zhs := br_F zhs zc9
    refine lv_aload_n zhx zhb dX12_take_10 rfl (lv_at zhl 0 rfl) ?_
    refine x_get C zhw inlX12 rfl 0 25 (by decide) kw_9_3 rfl (wR_c0 h cI M) rfl dX12_take_11 ?_
    refine lv_iload_n zhx zhb dX12_take_14 rfl (lv_at zhl 1 rfl) ?_
    obtain ⟨zv2, ze9, zhi, zhs⟩ := rdc_v zhs
    refine x_iald C zhw 25 (wR_c25 h cI M) zhi dX12_take_15 ?_
    refine lv_topi (fun zy9 ze8 => ?_)
    obtain rfl : zv2 = zy9 := ze9.trans ze8.symm
    clear ze9 ze8
    refine lv_if_eq (tgt := 22) zhx zhb dX12_take_16 (by decide) (fun zc9 => ?_) (fun zc9 => ?_)
    · replace zhs := br_T zhs zc9
      refine lv_aload_n zhx zhb dX12_take_22 rfl (lv_at zhl 0 rfl) ?_
      refine x_get C zhw inlX12 rfl 0 25 (by decide) kw_9_3 rfl (wR_c0 h cI M) rfl dX12_take_23 ?_
      refine lv_iload_n zhx zhb dX12_take_26 rfl (lv_at zhl 1 rfl) ?_
      refine lv_iload_n zhx zhb dX12_take_27 rfl (lv_at zhl 2 rfl) ?_
      obtain ⟨zhi, zhs⟩ := inc_e zhs
      refine x_iast C zhw 25 (wR_c25 h cI M) zhi (wR_a25 h cI M _ _) dX12_take_28 (fun zH zlocs zhw => ?_)
      obtain ⟨zM3, ze9, zhs⟩ := ltM_e zhs
      rw [← ze9] at zhw; clear ze9
      refine lv_aload_n zhx zhb dX12_take_29 rfl (lv_at zhl 0 rfl) ?_
      refine x_get C zhw inlX12 rfl 0 26 (by decide) kw_9_4 rfl (wR_c0 h cI zM3) rfl dX12_take_30 ?_
      refine lv_iload_n zhx zhb dX12_take_33 rfl (lv_at zhl 1 rfl) ?_
      refine lv_aload_n zhx zhb dX12_take_34 rfl (lv_at zhl 0 rfl) ?_
      refine x_get C zhw inlX12 rfl 0 27 (by decide) kw_9_5 rfl (wR_c0 h cI zM3) rfl dX12_take_35 ?_
      refine lv_iconst (v := 0) zhx zhb dX12_take_38 (by decide) ?_
      obtain ⟨zv4, ze9, zhi, zhs⟩ := rdc_v zhs
      refine x_iald C zhw 27 (wR_c27 h cI zM3) zhi dX12_take_39 ?_
      refine lv_topi (fun zy9 ze8 => ?_)
      obtain rfl : zv4 = zy9 := ze9.trans ze8.symm
      clear ze9 ze8
      obtain ⟨zhi, zhs⟩ := inc_e zhs
      refine x_iast C zhw 26 (wR_c26 h cI zM3) zhi (wR_a26 h cI zM3 _ _) dX12_take_40 (fun zH zlocs zhw => ?_)
      obtain ⟨zM5, ze9, zhs⟩ := ltM_e zhs
      rw [← ze9] at zhw; clear ze9
      refine lv_aload_n zhx zhb dX12_take_41 rfl (lv_at zhl 0 rfl) ?_
      refine lv_iload_n zhx zhb dX12_take_42 rfl (lv_at zhl 1 rfl) ?_
      obtain ⟨zv6, zhp, zhs⟩ := bnd_e zhs
      refine x_cVI (As := [.int a1]) (rest := []) C zhw zhl (cRef_isOff l D cI h a1 zM5 zv6 zhp) (by decide) (by decide) kw_20_7 kw_20_8 kw_20_9 kw_1_5 kw_20_10 md_X12_isOff rfl 0 (wR_c0 h cI zM5) rfl rfl rfl rfl (Nat.le_of_ble_eq_true rfl) dX12_take_43 (fun zH zlocs zhw hzv6 => ?_)
      refine lv_if_eq (tgt := 53) zhx zhb dX12_take_46 (by decide) (fun zc9 => ?_) (fun zc9 => ?_)
      · replace zhs := br_T zhs zc9
        refine lv_iconst (v := 0) zhx zhb dX12_take_53 (by decide) ?_
        cases zhs
        exact zhret _ _ _ _ dX12_take_54 (by rfl) zhw
      · replace zhs := br_F zhs zc9
        refine lv_iconst (v := 1) zhx zhb dX12_take_49 (by decide) ?_
        refine lv_goto (tgt := 54) zhx zhb dX12_take_50 (by decide) ?_
        cases zhs
        exact zhret _ _ _ _ dX12_take_54 (by rfl) zhw
    · replace zhs := br_F zhs zc9
      refine lv_bipush (v := (-2)) zhx zhb dX12_take_19 (by decide) ?_
      cases zhs
      exact zhret _ _ _ _ dX12_take_21 (by rfl) zhw
  · replace zhs := br_T zhs zc9
    refine lv_iconst (v := (-1)) zhx zhb dX12_take_8 (by decide) ?_
    cases zhs
    exact zhret _ _ _ _ dX12_take_9 (by rfl) zhw

-- OffFirstModel.eat in (0, ())
def sRef_eat (a1 : Int32) (M : Mm) : Option (Int32 × Mm) :=
  (sRef_take a1 1 M).bind fun (zv1, zM2) =>
  some (zv1, zM2)
set_option maxHeartbeats 4000000 in
set_option maxRecDepth 100000 in
theorem cRef_eat (l : Launch) (D : va_G) (cI : ClassId) (h : Nat → Nat) (a1 : Int32) (M : Mm) (r : Int32) (M' : Mm) (zhs : sRef_eat a1 M = some (r, M')) : CtI l yX12_eat cX12_eat 2 (some .int) 4 D cI (wR h cI M) (wR h cI M') [.ref (h 0), .int a1] r := by
  unfold sRef_eat at zhs
  refine CtI_of (by decide +kernel) (Nat.le_of_ble_eq_true rfl) ⟨_, rfl⟩ ?_
  intro p e s m args below meth c A Q zls zH zlocs C zhw zhl zhret
  have zhx := C.1
  have zhb := C.2.1
  have zhown := C.2.2.2.2.1
  have zhtB := C.2.2.2.2.2.2.1
  have zhl : lv_has zls 2 [(0, .ref (h 0)), (1, .int a1)] := zhl
  refine lv_aload_n zhx zhb dX12_eat_0 rfl (lv_at zhl 0 rfl) ?_
  refine lv_iload_n zhx zhb dX12_eat_1 rfl (lv_at zhl 1 rfl) ?_
  refine lv_iconst (v := 1) zhx zhb dX12_eat_2 (by decide) ?_
  obtain ⟨⟨zv1, zM2⟩, zhp, zhs⟩ := bnd_e zhs
  try dsimp only at zhs
  refine x_cVI (As := [.int a1, .int 1]) (rest := []) C zhw zhl (cRef_take l D cI h a1 1 M zv1 zM2 zhp) (by decide) (by decide) kw_26_8 kw_26_9 kw_26_10 kw_1_5 kw_26_11 md_X12_take rfl 0 (wR_c0 h cI M) rfl rfl rfl rfl (Nat.le_of_ble_eq_true rfl) dX12_eat_3 (fun zH zlocs zhw hn9 => ?_)
  cases zhs
  exact zhret _ _ _ _ dX12_eat_6 (by rfl) zhw

-- OffFirstModel.throwOut in (0, ())
def sRef_throwOut (a1 : Int32) (M : Mm) : Option (Int32 × Mm) :=
  (sRef_take a1 2 M).bind fun (zv1, zM2) =>
  some (zv1, zM2)
set_option maxHeartbeats 4000000 in
set_option maxRecDepth 100000 in
theorem cRef_throwOut (l : Launch) (D : va_G) (cI : ClassId) (h : Nat → Nat) (a1 : Int32) (M : Mm) (r : Int32) (M' : Mm) (zhs : sRef_throwOut a1 M = some (r, M')) : CtI l yX12_throwOut cX12_throwOut 2 (some .int) 4 D cI (wR h cI M) (wR h cI M') [.ref (h 0), .int a1] r := by
  unfold sRef_throwOut at zhs
  refine CtI_of (by decide +kernel) (Nat.le_of_ble_eq_true rfl) ⟨_, rfl⟩ ?_
  intro p e s m args below meth c A Q zls zH zlocs C zhw zhl zhret
  have zhx := C.1
  have zhb := C.2.1
  have zhown := C.2.2.2.2.1
  have zhtB := C.2.2.2.2.2.2.1
  have zhl : lv_has zls 2 [(0, .ref (h 0)), (1, .int a1)] := zhl
  refine lv_aload_n zhx zhb dX12_throwOut_0 rfl (lv_at zhl 0 rfl) ?_
  refine lv_iload_n zhx zhb dX12_throwOut_1 rfl (lv_at zhl 1 rfl) ?_
  refine lv_iconst (v := 2) zhx zhb dX12_throwOut_2 (by decide) ?_
  obtain ⟨⟨zv1, zM2⟩, zhp, zhs⟩ := bnd_e zhs
  try dsimp only at zhs
  refine x_cVI (As := [.int a1, .int 2]) (rest := []) C zhw zhl (cRef_take l D cI h a1 2 M zv1 zM2 zhp) (by decide) (by decide) kw_26_8 kw_26_9 kw_26_10 kw_1_5 kw_26_11 md_X12_take rfl 0 (wR_c0 h cI M) rfl rfl rfl rfl (Nat.le_of_ble_eq_true rfl) dX12_throwOut_3 (fun zH zlocs zhw hn9 => ?_)
  cases zhs
  exact zhret _ _ _ _ dX12_throwOut_6 (by rfl) zhw

-- OffFirstModel.offIn in (0, ())
def LRef_offIn_47_20 (N : Nat) (a1 : Int32) (a2 : Int32) (M : Mm) (zv5 : Int32) (zx6 : Int32) (zx7 : Int32) : Option ((Int32 × Int32) ⊕ ((Int32) ⊕ (Unit))) :=
  (if 5000 < zx7 then some (.inr (.inr ()))
  else (if zx6 < zv5 then rdc 40 (M 22) a1 fun zv14 =>
  rdc 4 (M 27) 0 fun zv15 =>
  (sRef_warmthOf a2 (zv15 + zx7) M).bind fun zv16 =>
  (sRef_agesBy zv14 zv16).bind fun zv17 =>
  ltI (zx6 + zv17) fun zv18 =>
  ltI (zx7 + 1) fun zv19 =>
  some (.inl (zv18, zv19))
  else some (.inr (.inl zx7))))
def sRef_offIn (N : Nat) (a1 : Int32) (a2 : Int32) (M : Mm) : Option Int32 :=
  (sRef_isFood a1 M).bind fun zv1 =>
  (if zv1 = 0 then some (-1)
  else (sRef_isCell a2 M).bind fun zv2 =>
  (if zv2 = 0 then some (-1)
  else rdc 40 (M 25) a1 fun zv3 =>
  (if zv3 = 0 then rdc 40 (M 24) a1 fun zv4 =>
  (sRef_limitOf a1 M).bind fun zv5 =>
  ((itr (fun z : Int32 × Int32 => LRef_offIn_47_20 N a1 a2 M zv5 z.1 z.2) N (zv4, 0)).bind fun q => match q with
  | .inl zv21 => some zv21
  | .inr () => some (-4))
  else some (-2))))
set_option maxHeartbeats 4000000 in
set_option maxRecDepth 100000 in
theorem cRef_offIn (l : Launch) (D : va_G) (cI : ClassId) (h : Nat → Nat) (N : Nat) (a1 : Int32) (a2 : Int32) (M : Mm) (r : Int32) (zhs : sRef_offIn N a1 a2 M = some r) : CtI l yX12_offIn cX12_offIn 6 (some .int) 3 D cI (wR h cI M) (wR h cI M) [.ref (h 0), .int a1, .int a2] r := by
  unfold sRef_offIn at zhs
  refine CtI_of (by decide +kernel) (Nat.le_of_ble_eq_true rfl) ⟨_, rfl⟩ ?_
  intro p e s m args below meth c A Q zls zH zlocs C zhw zhl zhret
  have zhx := C.1
  have zhb := C.2.1
  have zhown := C.2.2.2.2.1
  have zhtB := C.2.2.2.2.2.2.1
  have zhl : lv_has zls 6 [(0, .ref (h 0)), (1, .int a1), (2, .int a2)] := zhl
  refine lv_aload_n zhx zhb dX12_offIn_0 rfl (lv_at zhl 0 rfl) ?_
  refine lv_iload_n zhx zhb dX12_offIn_1 rfl (lv_at zhl 1 rfl) ?_
  obtain ⟨zv1, zhp, zhs⟩ := bnd_e zhs
  refine x_cVI (As := [.int a1]) (rest := []) C zhw zhl (cRef_isFood l D cI h a1 M zv1 zhp) (by decide) (by decide) kw_19_23 kw_20_0 kw_20_1 kw_1_5 kw_20_2 md_X12_isFood rfl 0 (wR_c0 h cI M) rfl rfl rfl rfl (Nat.le_of_ble_eq_true rfl) dX12_offIn_2 (fun zH zlocs zhw hzv1 => ?_)
  refine lv_if_eq (tgt := 16) zhx zhb dX12_offIn_5 (by decide) (fun zc9 => ?_) (fun zc9 => ?_)
  · replace zhs := br_T zhs zc9
    refine lv_iconst (v := (-1)) zhx zhb dX12_offIn_16 (by decide) ?_
    cases zhs
    exact zhret _ _ _ _ dX12_offIn_17 (by rfl) zhw
  · replace zhs := br_F zhs zc9
    refine lv_aload_n zhx zhb dX12_offIn_8 rfl (lv_at zhl 0 rfl) ?_
    refine lv_iload_n zhx zhb dX12_offIn_9 rfl (lv_at zhl 2 rfl) ?_
    obtain ⟨zv2, zhp, zhs⟩ := bnd_e zhs
    refine x_cVI (As := [.int a2]) (rest := []) C zhw zhl (cRef_isCell l D cI h a2 M zv2 zhp) (by decide) (by decide) kw_21_6 kw_21_7 kw_21_8 kw_1_5 kw_21_9 md_X12_isCell rfl 0 (wR_c0 h cI M) rfl rfl rfl rfl (Nat.le_of_ble_eq_true rfl) dX12_offIn_10 (fun zH zlocs zhw hzv2 => ?_)
    refine lv_if_ne (tgt := 18) zhx zhb dX12_offIn_13 (by decide) (fun zc9 => ?_) (fun zc9 => ?_)
    · replace zhs := br_F zhs zc9
      refine lv_aload_n zhx zhb dX12_offIn_18 rfl (lv_at zhl 0 rfl) ?_
      refine x_get C zhw inlX12 rfl 0 25 (by decide) kw_9_3 rfl (wR_c0 h cI M) rfl dX12_offIn_19 ?_
      refine lv_iload_n zhx zhb dX12_offIn_22 rfl (lv_at zhl 1 rfl) ?_
      obtain ⟨zv3, ze9, zhi, zhs⟩ := rdc_v zhs
      refine x_iald C zhw 25 (wR_c25 h cI M) zhi dX12_offIn_23 ?_
      refine lv_topi (fun zy9 ze8 => ?_)
      obtain rfl : zv3 = zy9 := ze9.trans ze8.symm
      clear ze9 ze8
      refine lv_if_eq (tgt := 30) zhx zhb dX12_offIn_24 (by decide) (fun zc9 => ?_) (fun zc9 => ?_)
      · replace zhs := br_T zhs zc9
        refine lv_aload_n zhx zhb dX12_offIn_30 rfl (lv_at zhl 0 rfl) ?_
        refine x_get C zhw inlX12 rfl 0 24 (by decide) kw_9_2 rfl (wR_c0 h cI M) rfl dX12_offIn_31 ?_
        refine lv_iload_n zhx zhb dX12_offIn_34 rfl (lv_at zhl 1 rfl) ?_
        obtain ⟨zv4, ze9, zhi, zhs⟩ := rdc_v zhs
        refine x_iald C zhw 24 (wR_c24 h cI M) zhi dX12_offIn_35 ?_
        refine lv_topi (fun zy9 ze8 => ?_)
        obtain rfl : zv4 = zy9 := ze9.trans ze8.symm
        clear ze9 ze8
        refine lv_istore_n (lv' := [(3, .int zv4), (0, .ref (h 0)), (1, .int a1), (2, .int a2)]) zhx zhb dX12_offIn_36 rfl zhl (by decide) rfl (fun zls zhl => ?_)
        refine lv_aload_n zhx zhb dX12_offIn_37 rfl (lv_at zhl 1 rfl) ?_
        refine lv_iload_n zhx zhb dX12_offIn_38 rfl (lv_at zhl 2 rfl) ?_
        obtain ⟨zv5, zhp, zhs⟩ := bnd_e zhs
        refine x_cVI (As := [.int a1]) (rest := []) C zhw zhl (cRef_limitOf l D cI h a1 M zv5 zhp) (by decide) (by decide) kw_20_3 kw_20_4 kw_20_5 kw_1_5 kw_20_6 md_X12_limitOf rfl 0 (wR_c0 h cI M) rfl rfl rfl rfl (Nat.le_of_ble_eq_true rfl) dX12_offIn_39 (fun zH zlocs zhw hn9 => ?_)
        refine lv_istore (lv' := [(4, .int zv5), (3, .int zv4), (0, .ref (h 0)), (1, .int a1), (2, .int a2)]) zhx zhb dX12_offIn_42 zhl (by decide) rfl (fun zls zhl => ?_)
        refine lv_iconst (v := 0) zhx zhb dX12_offIn_44 (by decide) ?_
        refine lv_istore (lv' := [(5, .int 0), (4, .int zv5), (3, .int zv4), (0, .ref (h 0)), (1, .int a1), (2, .int a2)]) zhx zhb dX12_offIn_45 zhl (by decide) rfl (fun zls zhl => ?_)
        obtain ⟨zq20, zhq20, zhs⟩ := bnd_e zhs
        have hloop20 : ∀ (zn : Nat) (zx6 : Int32) (zx7 : Int32) (zq : (Int32) ⊕ (Unit)), itr (fun z : Int32 × Int32 => LRef_offIn_47_20 N a1 a2 M zv5 z.1 z.2) zn (zx6, zx7) = some zq → (∀ (zy1 : Int32), (.inl zy1) = zq → ∀ (zH : Heap) (zlocs : List Loc) (zls : Array Slot), lv_has zls 6 [(5, .int zy1)] → Hw D (wR h cI M) A s.heap zH zlocs → W p l e (RM 3) s m args below meth c zH zlocs 0 0 Q (F0 m 61 zls [])) → ((.inr ()) = zq → ∀ (zH : Heap) (zlocs : List Loc) (zls : Array Slot), lv_has zls 6 [] → Hw D (wR h cI M) A s.heap zH zlocs → W p l e (RM 3) s m args below meth c zH zlocs 0 0 Q (F0 m 96 zls [])) → ∀ (zH : Heap) (zlocs : List Loc) (zls : Array Slot), lv_has zls 6 [(5, .int zx7), (4, .int zv5), (3, .int zx6), (0, .ref (h 0)), (1, .int a1), (2, .int a2)] → Hw D (wR h cI M) A s.heap zH zlocs → W p l e (RM 3) s m args below meth c zH zlocs 0 0 Q (F0 m 47 zls []) := by
          intro zn
          induction zn with
          | zero => intro zx6 zx7 zq zhq; exact absurd zhq (fun h9 => itr_0 h9)
          | succ zn zih =>
              intro zx6 zx7 zq zhq k47_61 k47_96 zH zlocs zls zhl zhw
              obtain ⟨zy9, zhs, zhq⟩ := itr_s zhq
              replace zhs : LRef_offIn_47_20 N a1 a2 M zv5 zx6 zx7 = some zy9 := zhs
              unfold LRef_offIn_47_20 at zhs
              refine lv_iload zhx zhb dX12_offIn_47 (lv_at zhl 0 rfl) ?_
              refine lv_sipush (v := 5000) zhx zhb dX12_offIn_49 (by decide) ?_
              refine lv_icmp_gt (tgt := 96) zhx zhb dX12_offIn_52 (by decide) (fun zc9 => ?_) (fun zc9 => ?_)
              · replace zhs := br_T zhs zc9
                cases zhs
                exact k47_96 (itk_q zhq) zH zlocs zls (lv_sub zhl [] rfl) zhw
              · replace zhs := br_F zhs zc9
                refine lv_iload_n zhx zhb dX12_offIn_55 rfl (lv_at zhl 2 rfl) ?_
                refine lv_iload zhx zhb dX12_offIn_56 (lv_at zhl 1 rfl) ?_
                refine lv_icmp_lt (tgt := 64) zhx zhb dX12_offIn_58 (by decide) (fun zc9 => ?_) (fun zc9 => ?_)
                · replace zhs := br_T zhs zc9
                  refine lv_iload_n zhx zhb dX12_offIn_64 rfl (lv_at zhl 2 rfl) ?_
                  refine lv_aload_n zhx zhb dX12_offIn_65 rfl (lv_at zhl 3 rfl) ?_
                  refine x_get C zhw inlX12 rfl 0 22 (by decide) kw_9_0 rfl (wR_c0 h cI M) rfl dX12_offIn_66 ?_
                  refine lv_iload_n zhx zhb dX12_offIn_69 rfl (lv_at zhl 4 rfl) ?_
                  obtain ⟨zv14, ze9, zhi, zhs⟩ := rdc_v zhs
                  refine x_iald C zhw 22 (wR_c22 h cI M) zhi dX12_offIn_70 ?_
                  refine lv_topi (fun zy9 ze8 => ?_)
                  obtain rfl : zv14 = zy9 := ze9.trans ze8.symm
                  clear ze9 ze8
                  refine lv_aload_n zhx zhb dX12_offIn_71 rfl (lv_at zhl 3 rfl) ?_
                  refine lv_iload_n zhx zhb dX12_offIn_72 rfl (lv_at zhl 5 rfl) ?_
                  refine lv_aload_n zhx zhb dX12_offIn_73 rfl (lv_at zhl 3 rfl) ?_
                  refine x_get C zhw inlX12 rfl 0 27 (by decide) kw_9_5 rfl (wR_c0 h cI M) rfl dX12_offIn_74 ?_
                  refine lv_iconst (v := 0) zhx zhb dX12_offIn_77 (by decide) ?_
                  obtain ⟨zv15, ze9, zhi, zhs⟩ := rdc_v zhs
                  refine x_iald C zhw 27 (wR_c27 h cI M) zhi dX12_offIn_78 ?_
                  refine lv_topi (fun zy9 ze8 => ?_)
                  obtain rfl : zv15 = zy9 := ze9.trans ze8.symm
                  clear ze9 ze8
                  refine lv_iload zhx zhb dX12_offIn_79 (lv_at zhl 0 rfl) ?_
                  refine lv_iadd zhx zhb dX12_offIn_81 ?_
                  obtain ⟨zv16, zhp, zhs⟩ := bnd_e zhs
                  refine x_cVI (As := [.int a2, .int (zv15 + zx7)]) (rest := [.int zv14, .int zx6]) C zhw zhl (cRef_warmthOf l D cI h a2 (zv15 + zx7) M zv16 zhp) (by decide) (by decide) kw_21_10 kw_21_11 kw_21_12 kw_1_5 kw_21_13 md_X12_warmthOf rfl 0 (wR_c0 h cI M) rfl rfl rfl rfl (Nat.le_of_ble_eq_true rfl) dX12_offIn_82 (fun zH zlocs zhw hn9 => ?_)
                  obtain ⟨zv17, zhp, zhs⟩ := bnd_e zhs
                  refine x_cSI (As := [.int zv14, .int zv16]) (rest := [.int zx6]) C zhw zhl (cRef_agesBy l D cI h zv14 zv16 M zv17 zhp) (by decide) (by decide) kw_23_23 kw_24_0 kw_1_5 kw_24_1 md_X12_agesBy rfl rfl (Nat.le_of_ble_eq_true rfl) dX12_offIn_85 (fun zH zlocs zhw hn9 => ?_)
                  refine lv_iadd zhx zhb dX12_offIn_88 ?_
                  obtain ⟨zv18, ze9, zhs⟩ := ltI_e zhs
                  refine lv_topi (fun zy9 ze8 => ?_)
                  obtain rfl : zv18 = zy9 := ze9.trans ze8.symm
                  clear ze9 ze8
                  refine lv_istore_n (lv' := [(3, .int zv18), (5, .int zx7), (4, .int zv5), (0, .ref (h 0)), (1, .int a1), (2, .int a2)]) zhx zhb dX12_offIn_89 rfl zhl (by decide) rfl (fun zls zhl => ?_)
                  obtain ⟨zv19, ze9, zhs⟩ := ltI_e zhs
                  refine lv_iinc (v := zv19) (lv' := [(5, .int zv19), (3, .int zv18), (4, .int zv5), (0, .ref (h 0)), (1, .int a1), (2, .int a2)]) zhx zhb dX12_offIn_90 zhl (k := 1) rfl (by rw [ze9]; rfl) (by decide) rfl (fun zls zhl => ?_)
                  clear ze9
                  refine lv_goto (tgt := 47) zhx zhb dX12_offIn_93 (by decide) ?_
                  cases zhs
                  exact zih zv18 zv19 zq (itk_l zhq) k47_61 k47_96 zH zlocs zls (lv_sub zhl [0, 2, 1, 3, 4, 5] rfl) zhw
                · replace zhs := br_F zhs zc9
                  cases zhs
                  exact k47_61 zx7 (itk_q zhq) zH zlocs zls (lv_sub zhl [0] rfl) zhw
        refine hloop20 N zv4 0 zq20 zhq20 (fun zv21 zhqe zH zlocs zls zhl zhw => ?_) (fun zhqe zH zlocs zls zhl zhw => ?_) zH zlocs zls zhl zhw
        · subst zhqe
          try dsimp only at zhs
          refine lv_iload zhx zhb dX12_offIn_61 (lv_at zhl 0 rfl) ?_
          cases zhs
          exact zhret _ _ _ _ dX12_offIn_63 (by rfl) zhw
        · subst zhqe
          try dsimp only at zhs
          refine lv_bipush (v := (-4)) zhx zhb dX12_offIn_96 (by decide) ?_
          cases zhs
          exact zhret _ _ _ _ dX12_offIn_98 (by rfl) zhw
      · replace zhs := br_F zhs zc9
        refine lv_bipush (v := (-2)) zhx zhb dX12_offIn_27 (by decide) ?_
        cases zhs
        exact zhret _ _ _ _ dX12_offIn_29 (by rfl) zhw
    · replace zhs := br_T zhs zc9
      refine lv_iconst (v := (-1)) zhx zhb dX12_offIn_16 (by decide) ?_
      cases zhs
      exact zhret _ _ _ _ dX12_offIn_17 (by rfl) zhw

-- OffFirstModel.isLater in (None, ())
def sRef_isLater (a1 : Int32) : Option Int32 :=
  (sRef_in (Int32.toInt64 a1) 0 500).bind fun zv1 =>
  some zv1
set_option maxHeartbeats 4000000 in
set_option maxRecDepth 100000 in
theorem cRef_isLater (l : Launch) (D : va_G) (cI : ClassId) (h : Nat → Nat) (a1 : Int32) (M : Mm) (r : Int32) (zhs : sRef_isLater a1 = some r) : CtI l yX12_isLater cX12_isLater 1 (some .boolean) 2 D cI (wR h cI M) (wR h cI M) [.int a1] r := by
  unfold sRef_isLater at zhs
  refine CtI_of (by decide +kernel) (Nat.le_of_ble_eq_true rfl) ⟨_, rfl⟩ ?_
  intro p e s m args below meth c A Q zls zH zlocs C zhw zhl zhret
  have zhx := C.1
  have zhb := C.2.1
  have zhown := C.2.2.2.2.1
  have zhtB := C.2.2.2.2.2.2.1
  have zhl : lv_has zls 1 [(0, .int a1)] := zhl
  refine lv_iload_n zhx zhb dX12_isLater_0 rfl (lv_at zhl 0 rfl) ?_
  refine lv_i2l zhx zhb dX12_isLater_1 rfl ?_
  refine lv_lconst (v := 0) zhx zhb dX12_isLater_2 (by decide) ?_
  refine lv_ldc2 zhx zhb zhown (zhtB _ kw_28_8) dX12_isLater_3 ?_
  obtain ⟨zv1, zhp, zhs⟩ := bnd_e zhs
  refine x_cSI (As := [.long (Int32.toInt64 a1), .long 0, .long 500]) (rest := []) C zhw zhl (cRef_in l D cI h (Int32.toInt64 a1) 0 500 M zv1 zhp) (by decide) (by decide) kw_10_14 kw_10_15 kw_1_5 kw_10_16 md_X12_in rfl rfl (Nat.le_of_ble_eq_true rfl) dX12_isLater_6 (fun zH zlocs zhw hzv1 => ?_)
  cases zhs
  exact zhret _ _ _ _ dX12_isLater_9 hzv1 zhw

-- OffFirstModel.copy in (0, ())
def LRef_copy_2_25 (N : Nat) (a1 : Int32) (a2 : Int32) (zx1 : Int32) (zM2 : Mm) : Option ((Int32 × Mm) ⊕ ((Mm))) :=
  (if 10 ≤ zx1 then some (.inr zM2)
  else rdc 40 (zM2 22) ((10 * a1) + zx1) fun zv14 =>
  inc 40 ((10 * a2) + zx1) <| ltM (mset zM2 22 (Int32.toNatClampNeg ((10 * a2) + zx1)) zv14) fun zM15 =>
  rdc 40 (zM15 23) ((10 * a1) + zx1) fun zv16 =>
  inc 40 ((10 * a2) + zx1) <| ltM (mset zM15 23 (Int32.toNatClampNeg ((10 * a2) + zx1)) zv16) fun zM17 =>
  rdc 40 (zM17 24) ((10 * a1) + zx1) fun zv18 =>
  inc 40 ((10 * a2) + zx1) <| ltM (mset zM17 24 (Int32.toNatClampNeg ((10 * a2) + zx1)) zv18) fun zM19 =>
  rdc 40 (zM19 25) ((10 * a1) + zx1) fun zv20 =>
  inc 40 ((10 * a2) + zx1) <| ltM (mset zM19 25 (Int32.toNatClampNeg ((10 * a2) + zx1)) zv20) fun zM21 =>
  rdc 40 (zM21 26) ((10 * a1) + zx1) fun zv22 =>
  inc 40 ((10 * a2) + zx1) <| ltM (mset zM21 26 (Int32.toNatClampNeg ((10 * a2) + zx1)) zv22) fun zM23 =>
  ltI (zx1 + 1) fun zv24 =>
  some (.inl (zv24, zM23)))
def sRef_copy (N : Nat) (a1 : Int32) (a2 : Int32) (M : Mm) : Option Mm :=
  (itr (fun z : Int32 × Mm => LRef_copy_2_25 N a1 a2 z.1 z.2) N (0, M)).bind fun zM26 =>
  rdc 4 (zM26 27) a1 fun zv27 =>
  inc 4 a2 <| ltM (mset zM26 27 (Int32.toNatClampNeg a2) zv27) fun zM28 =>
  some zM28
set_option maxHeartbeats 4000000 in
set_option maxRecDepth 100000 in
theorem cRef_copy (l : Launch) (D : va_G) (cI : ClassId) (h : Nat → Nat) (N : Nat) (a1 : Int32) (a2 : Int32) (M : Mm) (M' : Mm) (zhs : sRef_copy N a1 a2 M = some M') : CtV l yX12_copy cX12_copy 4 1 D cI (wR h cI M) (wR h cI M') [.ref (h 0), .int a1, .int a2] := by
  unfold sRef_copy at zhs
  refine CtV_of (by decide +kernel) (Nat.le_of_ble_eq_true rfl) ?_
  intro p e s m args below meth c A Q zls zH zlocs C zhw zhl zhret
  have zhx := C.1
  have zhb := C.2.1
  have zhown := C.2.2.2.2.1
  have zhtB := C.2.2.2.2.2.2.1
  have zhl : lv_has zls 4 [(0, .ref (h 0)), (1, .int a1), (2, .int a2)] := zhl
  refine lv_iconst (v := 0) zhx zhb dX12_copy_0 (by decide) ?_
  refine lv_istore_n (lv' := [(3, .int 0), (0, .ref (h 0)), (1, .int a1), (2, .int a2)]) zhx zhb dX12_copy_1 rfl zhl (by decide) rfl (fun zls zhl => ?_)
  obtain ⟨zq25, zhq25, zhs⟩ := bnd_e zhs
  have hloop25 : ∀ (zn : Nat) (zx1 : Int32) (zM2 : Mm) (zq : (Mm)), itr (fun z : Int32 × Mm => LRef_copy_2_25 N a1 a2 z.1 z.2) zn (zx1, zM2) = some zq → (∀ (zy1 : Mm), zy1 = zq → ∀ (zH : Heap) (zlocs : List Loc) (zls : Array Slot), lv_has zls 4 [(0, .ref (h 0)), (1, .int a1), (2, .int a2)] → Hw D (wR h cI zy1) A s.heap zH zlocs → W p l e (RM 1) s m args below meth c zH zlocs 0 0 Q (F0 m 124 zls [])) → ∀ (zH : Heap) (zlocs : List Loc) (zls : Array Slot), lv_has zls 4 [(3, .int zx1), (0, .ref (h 0)), (1, .int a1), (2, .int a2)] → Hw D (wR h cI zM2) A s.heap zH zlocs → W p l e (RM 1) s m args below meth c zH zlocs 0 0 Q (F0 m 2 zls []) := by
    intro zn
    induction zn with
    | zero => intro zx1 zM2 zq zhq; exact absurd zhq (fun h9 => itr_0 h9)
    | succ zn zih =>
        intro zx1 zM2 zq zhq k2_124 zH zlocs zls zhl zhw
        obtain ⟨zy9, zhs, zhq⟩ := itr_s zhq
        replace zhs : LRef_copy_2_25 N a1 a2 zx1 zM2 = some zy9 := zhs
        unfold LRef_copy_2_25 at zhs
        refine lv_iload_n zhx zhb dX12_copy_2 rfl (lv_at zhl 0 rfl) ?_
        refine lv_bipush (v := 10) zhx zhb dX12_copy_3 (by decide) ?_
        refine lv_icmp_ge (tgt := 124) zhx zhb dX12_copy_5 (by decide) (fun zc9 => ?_) (fun zc9 => ?_)
        · replace zhs := br_T zhs zc9
          cases zhs
          exact k2_124 zM2 (itk_q zhq) zH zlocs zls (lv_sub zhl [1, 2, 3] rfl) zhw
        · replace zhs := br_F zhs zc9
          refine lv_aload_n zhx zhb dX12_copy_8 rfl (lv_at zhl 1 rfl) ?_
          refine x_get C zhw inlX12 rfl 0 22 (by decide) kw_9_0 rfl (wR_c0 h cI zM2) rfl dX12_copy_9 ?_
          refine lv_bipush (v := 10) zhx zhb dX12_copy_12 (by decide) ?_
          refine lv_iload_n zhx zhb dX12_copy_14 rfl (lv_at zhl 3 rfl) ?_
          refine lv_imul zhx zhb dX12_copy_15 ?_
          refine lv_iload_n zhx zhb dX12_copy_16 rfl (lv_at zhl 0 rfl) ?_
          refine lv_iadd zhx zhb dX12_copy_17 ?_
          refine lv_aload_n zhx zhb dX12_copy_18 rfl (lv_at zhl 1 rfl) ?_
          refine x_get C zhw inlX12 rfl 0 22 (by decide) kw_9_0 rfl (wR_c0 h cI zM2) rfl dX12_copy_19 ?_
          refine lv_bipush (v := 10) zhx zhb dX12_copy_22 (by decide) ?_
          refine lv_iload_n zhx zhb dX12_copy_24 rfl (lv_at zhl 2 rfl) ?_
          refine lv_imul zhx zhb dX12_copy_25 ?_
          refine lv_iload_n zhx zhb dX12_copy_26 rfl (lv_at zhl 0 rfl) ?_
          refine lv_iadd zhx zhb dX12_copy_27 ?_
          obtain ⟨zv14, ze9, zhi, zhs⟩ := rdc_v zhs
          refine x_iald C zhw 22 (wR_c22 h cI zM2) zhi dX12_copy_28 ?_
          refine lv_topi (fun zy9 ze8 => ?_)
          obtain rfl : zv14 = zy9 := ze9.trans ze8.symm
          clear ze9 ze8
          obtain ⟨zhi, zhs⟩ := inc_e zhs
          refine x_iast C zhw 22 (wR_c22 h cI zM2) zhi (wR_a22 h cI zM2 _ _) dX12_copy_29 (fun zH zlocs zhw => ?_)
          obtain ⟨zM15, ze9, zhs⟩ := ltM_e zhs
          rw [← ze9] at zhw; clear ze9
          refine lv_aload_n zhx zhb dX12_copy_30 rfl (lv_at zhl 1 rfl) ?_
          refine x_get C zhw inlX12 rfl 0 23 (by decide) kw_9_1 rfl (wR_c0 h cI zM15) rfl dX12_copy_31 ?_
          refine lv_bipush (v := 10) zhx zhb dX12_copy_34 (by decide) ?_
          refine lv_iload_n zhx zhb dX12_copy_36 rfl (lv_at zhl 3 rfl) ?_
          refine lv_imul zhx zhb dX12_copy_37 ?_
          refine lv_iload_n zhx zhb dX12_copy_38 rfl (lv_at zhl 0 rfl) ?_
          refine lv_iadd zhx zhb dX12_copy_39 ?_
          refine lv_aload_n zhx zhb dX12_copy_40 rfl (lv_at zhl 1 rfl) ?_
          refine x_get C zhw inlX12 rfl 0 23 (by decide) kw_9_1 rfl (wR_c0 h cI zM15) rfl dX12_copy_41 ?_
          refine lv_bipush (v := 10) zhx zhb dX12_copy_44 (by decide) ?_
          refine lv_iload_n zhx zhb dX12_copy_46 rfl (lv_at zhl 2 rfl) ?_
          refine lv_imul zhx zhb dX12_copy_47 ?_
          refine lv_iload_n zhx zhb dX12_copy_48 rfl (lv_at zhl 0 rfl) ?_
          refine lv_iadd zhx zhb dX12_copy_49 ?_
          obtain ⟨zv16, ze9, zhi, zhs⟩ := rdc_v zhs
          refine x_iald C zhw 23 (wR_c23 h cI zM15) zhi dX12_copy_50 ?_
          refine lv_topi (fun zy9 ze8 => ?_)
          obtain rfl : zv16 = zy9 := ze9.trans ze8.symm
          clear ze9 ze8
          obtain ⟨zhi, zhs⟩ := inc_e zhs
          refine x_iast C zhw 23 (wR_c23 h cI zM15) zhi (wR_a23 h cI zM15 _ _) dX12_copy_51 (fun zH zlocs zhw => ?_)
          obtain ⟨zM17, ze9, zhs⟩ := ltM_e zhs
          rw [← ze9] at zhw; clear ze9
          refine lv_aload_n zhx zhb dX12_copy_52 rfl (lv_at zhl 1 rfl) ?_
          refine x_get C zhw inlX12 rfl 0 24 (by decide) kw_9_2 rfl (wR_c0 h cI zM17) rfl dX12_copy_53 ?_
          refine lv_bipush (v := 10) zhx zhb dX12_copy_56 (by decide) ?_
          refine lv_iload_n zhx zhb dX12_copy_58 rfl (lv_at zhl 3 rfl) ?_
          refine lv_imul zhx zhb dX12_copy_59 ?_
          refine lv_iload_n zhx zhb dX12_copy_60 rfl (lv_at zhl 0 rfl) ?_
          refine lv_iadd zhx zhb dX12_copy_61 ?_
          refine lv_aload_n zhx zhb dX12_copy_62 rfl (lv_at zhl 1 rfl) ?_
          refine x_get C zhw inlX12 rfl 0 24 (by decide) kw_9_2 rfl (wR_c0 h cI zM17) rfl dX12_copy_63 ?_
          refine lv_bipush (v := 10) zhx zhb dX12_copy_66 (by decide) ?_
          refine lv_iload_n zhx zhb dX12_copy_68 rfl (lv_at zhl 2 rfl) ?_
          refine lv_imul zhx zhb dX12_copy_69 ?_
          refine lv_iload_n zhx zhb dX12_copy_70 rfl (lv_at zhl 0 rfl) ?_
          refine lv_iadd zhx zhb dX12_copy_71 ?_
          obtain ⟨zv18, ze9, zhi, zhs⟩ := rdc_v zhs
          refine x_iald C zhw 24 (wR_c24 h cI zM17) zhi dX12_copy_72 ?_
          refine lv_topi (fun zy9 ze8 => ?_)
          obtain rfl : zv18 = zy9 := ze9.trans ze8.symm
          clear ze9 ze8
          obtain ⟨zhi, zhs⟩ := inc_e zhs
          refine x_iast C zhw 24 (wR_c24 h cI zM17) zhi (wR_a24 h cI zM17 _ _) dX12_copy_73 (fun zH zlocs zhw => ?_)
          obtain ⟨zM19, ze9, zhs⟩ := ltM_e zhs
          rw [← ze9] at zhw; clear ze9
          refine lv_aload_n zhx zhb dX12_copy_74 rfl (lv_at zhl 1 rfl) ?_
          refine x_get C zhw inlX12 rfl 0 25 (by decide) kw_9_3 rfl (wR_c0 h cI zM19) rfl dX12_copy_75 ?_
          refine lv_bipush (v := 10) zhx zhb dX12_copy_78 (by decide) ?_
          refine lv_iload_n zhx zhb dX12_copy_80 rfl (lv_at zhl 3 rfl) ?_
          refine lv_imul zhx zhb dX12_copy_81 ?_
          refine lv_iload_n zhx zhb dX12_copy_82 rfl (lv_at zhl 0 rfl) ?_
          refine lv_iadd zhx zhb dX12_copy_83 ?_
          refine lv_aload_n zhx zhb dX12_copy_84 rfl (lv_at zhl 1 rfl) ?_
          refine x_get C zhw inlX12 rfl 0 25 (by decide) kw_9_3 rfl (wR_c0 h cI zM19) rfl dX12_copy_85 ?_
          refine lv_bipush (v := 10) zhx zhb dX12_copy_88 (by decide) ?_
          refine lv_iload_n zhx zhb dX12_copy_90 rfl (lv_at zhl 2 rfl) ?_
          refine lv_imul zhx zhb dX12_copy_91 ?_
          refine lv_iload_n zhx zhb dX12_copy_92 rfl (lv_at zhl 0 rfl) ?_
          refine lv_iadd zhx zhb dX12_copy_93 ?_
          obtain ⟨zv20, ze9, zhi, zhs⟩ := rdc_v zhs
          refine x_iald C zhw 25 (wR_c25 h cI zM19) zhi dX12_copy_94 ?_
          refine lv_topi (fun zy9 ze8 => ?_)
          obtain rfl : zv20 = zy9 := ze9.trans ze8.symm
          clear ze9 ze8
          obtain ⟨zhi, zhs⟩ := inc_e zhs
          refine x_iast C zhw 25 (wR_c25 h cI zM19) zhi (wR_a25 h cI zM19 _ _) dX12_copy_95 (fun zH zlocs zhw => ?_)
          obtain ⟨zM21, ze9, zhs⟩ := ltM_e zhs
          rw [← ze9] at zhw; clear ze9
          refine lv_aload_n zhx zhb dX12_copy_96 rfl (lv_at zhl 1 rfl) ?_
          refine x_get C zhw inlX12 rfl 0 26 (by decide) kw_9_4 rfl (wR_c0 h cI zM21) rfl dX12_copy_97 ?_
          refine lv_bipush (v := 10) zhx zhb dX12_copy_100 (by decide) ?_
          refine lv_iload_n zhx zhb dX12_copy_102 rfl (lv_at zhl 3 rfl) ?_
          refine lv_imul zhx zhb dX12_copy_103 ?_
          refine lv_iload_n zhx zhb dX12_copy_104 rfl (lv_at zhl 0 rfl) ?_
          refine lv_iadd zhx zhb dX12_copy_105 ?_
          refine lv_aload_n zhx zhb dX12_copy_106 rfl (lv_at zhl 1 rfl) ?_
          refine x_get C zhw inlX12 rfl 0 26 (by decide) kw_9_4 rfl (wR_c0 h cI zM21) rfl dX12_copy_107 ?_
          refine lv_bipush (v := 10) zhx zhb dX12_copy_110 (by decide) ?_
          refine lv_iload_n zhx zhb dX12_copy_112 rfl (lv_at zhl 2 rfl) ?_
          refine lv_imul zhx zhb dX12_copy_113 ?_
          refine lv_iload_n zhx zhb dX12_copy_114 rfl (lv_at zhl 0 rfl) ?_
          refine lv_iadd zhx zhb dX12_copy_115 ?_
          obtain ⟨zv22, ze9, zhi, zhs⟩ := rdc_v zhs
          refine x_iald C zhw 26 (wR_c26 h cI zM21) zhi dX12_copy_116 ?_
          refine lv_topi (fun zy9 ze8 => ?_)
          obtain rfl : zv22 = zy9 := ze9.trans ze8.symm
          clear ze9 ze8
          obtain ⟨zhi, zhs⟩ := inc_e zhs
          refine x_iast C zhw 26 (wR_c26 h cI zM21) zhi (wR_a26 h cI zM21 _ _) dX12_copy_117 (fun zH zlocs zhw => ?_)
          obtain ⟨zM23, ze9, zhs⟩ := ltM_e zhs
          rw [← ze9] at zhw; clear ze9
          obtain ⟨zv24, ze9, zhs⟩ := ltI_e zhs
          refine lv_iinc (v := zv24) (lv' := [(3, .int zv24), (0, .ref (h 0)), (1, .int a1), (2, .int a2)]) zhx zhb dX12_copy_118 zhl (k := 0) rfl (by rw [ze9]; rfl) (by decide) rfl (fun zls zhl => ?_)
          clear ze9
          refine lv_goto (tgt := 2) zhx zhb dX12_copy_121 (by decide) ?_
          cases zhs
          exact zih zv24 zM23 zq (itk_l zhq) k2_124 zH zlocs zls zhl zhw
  refine hloop25 N 0 M zq25 zhq25 (fun zM26 zhqe zH zlocs zls zhl zhw => ?_) zH zlocs zls zhl zhw
  · subst zhqe
    refine lv_aload_n zhx zhb dX12_copy_124 rfl (lv_at zhl 0 rfl) ?_
    refine x_get C zhw inlX12 rfl 0 27 (by decide) kw_9_5 rfl (wR_c0 h cI zM26) rfl dX12_copy_125 ?_
    refine lv_iload_n zhx zhb dX12_copy_128 rfl (lv_at zhl 2 rfl) ?_
    refine lv_aload_n zhx zhb dX12_copy_129 rfl (lv_at zhl 0 rfl) ?_
    refine x_get C zhw inlX12 rfl 0 27 (by decide) kw_9_5 rfl (wR_c0 h cI zM26) rfl dX12_copy_130 ?_
    refine lv_iload_n zhx zhb dX12_copy_133 rfl (lv_at zhl 1 rfl) ?_
    obtain ⟨zv27, ze9, zhi, zhs⟩ := rdc_v zhs
    refine x_iald C zhw 27 (wR_c27 h cI zM26) zhi dX12_copy_134 ?_
    refine lv_topi (fun zy9 ze8 => ?_)
    obtain rfl : zv27 = zy9 := ze9.trans ze8.symm
    clear ze9 ze8
    obtain ⟨zhi, zhs⟩ := inc_e zhs
    refine x_iast C zhw 27 (wR_c27 h cI zM26) zhi (wR_a27 h cI zM26 _ _) dX12_copy_135 (fun zH zlocs zhw => ?_)
    obtain ⟨zM28, ze9, zhs⟩ := ltM_e zhs
    rw [← ze9] at zhw; clear ze9
    cases zhs
    exact zhret _ _ _ _ dX12_copy_136 zhw

-- OffFirstModel.offCoin in (0, ())
def LRef_offCoin_4_29 (N : Nat) (a1 : Int32) (M : Mm) (zx1 : Int32) (zx2 : Int32) : Option ((Int32 × Int32) ⊕ ((Int32))) :=
  rdc 2 (M 7) 0 fun zv16 =>
  (if zv16 ≤ zx2 then some (.inr zx1)
  else rdc 40 (M 25) ((10 * a1) + zx2) fun zv17 =>
  (if zv17 = 0 then (sRef_isOff ((10 * a1) + zx2) M).bind fun zv22 =>
  (if zv22 = 0 then ltI (zx1 + 0) fun zv24 =>
  ltI (zx2 + 1) fun zv25 =>
  some (.inl (zv24, zv25))
  else rdc 20 (M 10) zx2 fun zv26 =>
  ltI (zx1 + zv26) fun zv27 =>
  ltI (zx2 + 1) fun zv28 =>
  some (.inl (zv27, zv28)))
  else ltI (zx1 + 0) fun zv20 =>
  ltI (zx2 + 1) fun zv21 =>
  some (.inl (zv20, zv21))))
def sRef_offCoin (N : Nat) (a1 : Int32) (M : Mm) : Option Int32 :=
  (itr (fun z : Int32 × Int32 => LRef_offCoin_4_29 N a1 M z.1 z.2) N (0, 0)).bind fun zv30 =>
  some zv30
set_option maxHeartbeats 4000000 in
set_option maxRecDepth 100000 in
theorem cRef_offCoin (l : Launch) (D : va_G) (cI : ClassId) (h : Nat → Nat) (N : Nat) (a1 : Int32) (M : Mm) (r : Int32) (zhs : sRef_offCoin N a1 M = some r) : CtI l yX12_offCoin cX12_offCoin 4 (some .int) 3 D cI (wR h cI M) (wR h cI M) [.ref (h 0), .int a1] r := by
  unfold sRef_offCoin at zhs
  refine CtI_of (by decide +kernel) (Nat.le_of_ble_eq_true rfl) ⟨_, rfl⟩ ?_
  intro p e s m args below meth c A Q zls zH zlocs C zhw zhl zhret
  have zhx := C.1
  have zhb := C.2.1
  have zhown := C.2.2.2.2.1
  have zhtB := C.2.2.2.2.2.2.1
  have zhl : lv_has zls 4 [(0, .ref (h 0)), (1, .int a1)] := zhl
  refine lv_iconst (v := 0) zhx zhb dX12_offCoin_0 (by decide) ?_
  refine lv_istore_n (lv' := [(2, .int 0), (0, .ref (h 0)), (1, .int a1)]) zhx zhb dX12_offCoin_1 rfl zhl (by decide) rfl (fun zls zhl => ?_)
  refine lv_iconst (v := 0) zhx zhb dX12_offCoin_2 (by decide) ?_
  refine lv_istore_n (lv' := [(3, .int 0), (2, .int 0), (0, .ref (h 0)), (1, .int a1)]) zhx zhb dX12_offCoin_3 rfl zhl (by decide) rfl (fun zls zhl => ?_)
  obtain ⟨zq29, zhq29, zhs⟩ := bnd_e zhs
  have hloop29 : ∀ (zn : Nat) (zx1 : Int32) (zx2 : Int32) (zq : (Int32)), itr (fun z : Int32 × Int32 => LRef_offCoin_4_29 N a1 M z.1 z.2) zn (zx1, zx2) = some zq → (∀ (zy1 : Int32), zy1 = zq → ∀ (zH : Heap) (zlocs : List Loc) (zls : Array Slot), lv_has zls 4 [(2, .int zy1)] → Hw D (wR h cI M) A s.heap zH zlocs → W p l e (RM 3) s m args below meth c zH zlocs 0 0 Q (F0 m 60 zls [])) → ∀ (zH : Heap) (zlocs : List Loc) (zls : Array Slot), lv_has zls 4 [(3, .int zx2), (2, .int zx1), (0, .ref (h 0)), (1, .int a1)] → Hw D (wR h cI M) A s.heap zH zlocs → W p l e (RM 3) s m args below meth c zH zlocs 0 0 Q (F0 m 4 zls []) := by
    intro zn
    induction zn with
    | zero => intro zx1 zx2 zq zhq; exact absurd zhq (fun h9 => itr_0 h9)
    | succ zn zih =>
        intro zx1 zx2 zq zhq k4_60 zH zlocs zls zhl zhw
        obtain ⟨zy9, zhs, zhq⟩ := itr_s zhq
        replace zhs : LRef_offCoin_4_29 N a1 M zx1 zx2 = some zy9 := zhs
        unfold LRef_offCoin_4_29 at zhs
        refine lv_iload_n zhx zhb dX12_offCoin_4 rfl (lv_at zhl 0 rfl) ?_
        refine lv_aload_n zhx zhb dX12_offCoin_5 rfl (lv_at zhl 2 rfl) ?_
        refine x_get C zhw inlX12 rfl 0 7 (by decide) kw_8_9 rfl (wR_c0 h cI M) rfl dX12_offCoin_6 ?_
        refine lv_iconst (v := 0) zhx zhb dX12_offCoin_9 (by decide) ?_
        obtain ⟨zv16, ze9, zhi, zhs⟩ := rdc_v zhs
        refine x_iald C zhw 7 (wR_c7 h cI M) zhi dX12_offCoin_10 ?_
        refine lv_topi (fun zy9 ze8 => ?_)
        obtain rfl : zv16 = zy9 := ze9.trans ze8.symm
        clear ze9 ze8
        refine lv_icmp_ge (tgt := 60) zhx zhb dX12_offCoin_11 (by decide) (fun zc9 => ?_) (fun zc9 => ?_)
        · replace zhs := br_T zhs zc9
          cases zhs
          exact k4_60 zx1 (itk_q zhq) zH zlocs zls (lv_sub zhl [1] rfl) zhw
        · replace zhs := br_F zhs zc9
          refine lv_iload_n zhx zhb dX12_offCoin_14 rfl (lv_at zhl 1 rfl) ?_
          refine lv_aload_n zhx zhb dX12_offCoin_15 rfl (lv_at zhl 2 rfl) ?_
          refine x_get C zhw inlX12 rfl 0 25 (by decide) kw_9_3 rfl (wR_c0 h cI M) rfl dX12_offCoin_16 ?_
          refine lv_bipush (v := 10) zhx zhb dX12_offCoin_19 (by decide) ?_
          refine lv_iload_n zhx zhb dX12_offCoin_21 rfl (lv_at zhl 3 rfl) ?_
          refine lv_imul zhx zhb dX12_offCoin_22 ?_
          refine lv_iload_n zhx zhb dX12_offCoin_23 rfl (lv_at zhl 0 rfl) ?_
          refine lv_iadd zhx zhb dX12_offCoin_24 ?_
          obtain ⟨zv17, ze9, zhi, zhs⟩ := rdc_v zhs
          refine x_iald C zhw 25 (wR_c25 h cI M) zhi dX12_offCoin_25 ?_
          refine lv_topi (fun zy9 ze8 => ?_)
          obtain rfl : zv17 = zy9 := ze9.trans ze8.symm
          clear ze9 ze8
          refine lv_if_ne (tgt := 51) zhx zhb dX12_offCoin_26 (by decide) (fun zc9 => ?_) (fun zc9 => ?_)
          · replace zhs := br_F zhs zc9
            refine lv_iconst (v := 0) zhx zhb dX12_offCoin_51 (by decide) ?_
            refine lv_iadd zhx zhb dX12_offCoin_52 ?_
            obtain ⟨zv20, ze9, zhs⟩ := ltI_e zhs
            refine lv_topi (fun zy9 ze8 => ?_)
            obtain rfl : zv20 = zy9 := ze9.trans ze8.symm
            clear ze9 ze8
            refine lv_istore_n (lv' := [(2, .int zv20), (3, .int zx2), (0, .ref (h 0)), (1, .int a1)]) zhx zhb dX12_offCoin_53 rfl zhl (by decide) rfl (fun zls zhl => ?_)
            obtain ⟨zv21, ze9, zhs⟩ := ltI_e zhs
            refine lv_iinc (v := zv21) (lv' := [(3, .int zv21), (2, .int zv20), (0, .ref (h 0)), (1, .int a1)]) zhx zhb dX12_offCoin_54 zhl (k := 1) rfl (by rw [ze9]; rfl) (by decide) rfl (fun zls zhl => ?_)
            clear ze9
            refine lv_goto (tgt := 4) zhx zhb dX12_offCoin_57 (by decide) ?_
            cases zhs
            exact zih zv20 zv21 zq (itk_l zhq) k4_60 zH zlocs zls zhl zhw
          · replace zhs := br_T zhs zc9
            refine lv_aload_n zhx zhb dX12_offCoin_29 rfl (lv_at zhl 2 rfl) ?_
            refine lv_bipush (v := 10) zhx zhb dX12_offCoin_30 (by decide) ?_
            refine lv_iload_n zhx zhb dX12_offCoin_32 rfl (lv_at zhl 3 rfl) ?_
            refine lv_imul zhx zhb dX12_offCoin_33 ?_
            refine lv_iload_n zhx zhb dX12_offCoin_34 rfl (lv_at zhl 0 rfl) ?_
            refine lv_iadd zhx zhb dX12_offCoin_35 ?_
            obtain ⟨zv22, zhp, zhs⟩ := bnd_e zhs
            refine x_cVI (As := [.int ((10 * a1) + zx2)]) (rest := [.int zx1]) C zhw zhl (cRef_isOff l D cI h ((10 * a1) + zx2) M zv22 zhp) (by decide) (by decide) kw_20_7 kw_20_8 kw_20_9 kw_1_5 kw_20_10 md_X12_isOff rfl 0 (wR_c0 h cI M) rfl rfl rfl rfl (Nat.le_of_ble_eq_true rfl) dX12_offCoin_36 (fun zH zlocs zhw hzv22 => ?_)
            refine lv_if_eq (tgt := 51) zhx zhb dX12_offCoin_39 (by decide) (fun zc9 => ?_) (fun zc9 => ?_)
            · replace zhs := br_T zhs zc9
              refine lv_iconst (v := 0) zhx zhb dX12_offCoin_51 (by decide) ?_
              refine lv_iadd zhx zhb dX12_offCoin_52 ?_
              obtain ⟨zv24, ze9, zhs⟩ := ltI_e zhs
              refine lv_topi (fun zy9 ze8 => ?_)
              obtain rfl : zv24 = zy9 := ze9.trans ze8.symm
              clear ze9 ze8
              refine lv_istore_n (lv' := [(2, .int zv24), (3, .int zx2), (0, .ref (h 0)), (1, .int a1)]) zhx zhb dX12_offCoin_53 rfl zhl (by decide) rfl (fun zls zhl => ?_)
              obtain ⟨zv25, ze9, zhs⟩ := ltI_e zhs
              refine lv_iinc (v := zv25) (lv' := [(3, .int zv25), (2, .int zv24), (0, .ref (h 0)), (1, .int a1)]) zhx zhb dX12_offCoin_54 zhl (k := 1) rfl (by rw [ze9]; rfl) (by decide) rfl (fun zls zhl => ?_)
              clear ze9
              refine lv_goto (tgt := 4) zhx zhb dX12_offCoin_57 (by decide) ?_
              cases zhs
              exact zih zv24 zv25 zq (itk_l zhq) k4_60 zH zlocs zls zhl zhw
            · replace zhs := br_F zhs zc9
              refine lv_aload_n zhx zhb dX12_offCoin_42 rfl (lv_at zhl 2 rfl) ?_
              refine x_get C zhw inlX12 rfl 0 10 (by decide) kw_8_12 rfl (wR_c0 h cI M) rfl dX12_offCoin_43 ?_
              refine lv_iload_n zhx zhb dX12_offCoin_46 rfl (lv_at zhl 0 rfl) ?_
              obtain ⟨zv26, ze9, zhi, zhs⟩ := rdc_v zhs
              refine x_iald C zhw 10 (wR_c10 h cI M) zhi dX12_offCoin_47 ?_
              refine lv_topi (fun zy9 ze8 => ?_)
              obtain rfl : zv26 = zy9 := ze9.trans ze8.symm
              clear ze9 ze8
              refine lv_goto (tgt := 52) zhx zhb dX12_offCoin_48 (by decide) ?_
              refine lv_iadd zhx zhb dX12_offCoin_52 ?_
              obtain ⟨zv27, ze9, zhs⟩ := ltI_e zhs
              refine lv_topi (fun zy9 ze8 => ?_)
              obtain rfl : zv27 = zy9 := ze9.trans ze8.symm
              clear ze9 ze8
              refine lv_istore_n (lv' := [(2, .int zv27), (3, .int zx2), (0, .ref (h 0)), (1, .int a1)]) zhx zhb dX12_offCoin_53 rfl zhl (by decide) rfl (fun zls zhl => ?_)
              obtain ⟨zv28, ze9, zhs⟩ := ltI_e zhs
              refine lv_iinc (v := zv28) (lv' := [(3, .int zv28), (2, .int zv27), (0, .ref (h 0)), (1, .int a1)]) zhx zhb dX12_offCoin_54 zhl (k := 1) rfl (by rw [ze9]; rfl) (by decide) rfl (fun zls zhl => ?_)
              clear ze9
              refine lv_goto (tgt := 4) zhx zhb dX12_offCoin_57 (by decide) ?_
              cases zhs
              exact zih zv27 zv28 zq (itk_l zhq) k4_60 zH zlocs zls zhl zhw
  refine hloop29 N 0 0 zq29 zhq29 (fun zv30 zhqe zH zlocs zls zhl zhw => ?_) zH zlocs zls zhl zhw
  · subst zhqe
    refine lv_iload_n zhx zhb dX12_offCoin_60 rfl (lv_at zhl 0 rfl) ?_
    cases zhs
    exact zhret _ _ _ _ dX12_offCoin_61 (by rfl) zhw

-- OffFirstModel.lostOf in (0, ())
def LRef_lostOf_2_7 (N : Nat) (a1 : Int32) (zx1 : Int32) (zM2 : Mm) : Option ((Int32 × Mm) ⊕ ((Mm))) :=
  (if a1 ≤ zx1 then some (.inr zM2)
  else (sRef_goHour N 1 zM2).bind fun zM5 =>
  ltI (zx1 + 1) fun zv6 =>
  some (.inl (zv6, zM5)))
def sRef_lostOf (N : Nat) (a1 : Int32) (M : Mm) : Option (Int32 × Mm) :=
  (itr (fun z : Int32 × Mm => LRef_lostOf_2_7 N a1 z.1 z.2) N (0, M)).bind fun zM8 =>
  (sRef_offCoin N 1 zM8).bind fun zv9 =>
  some (zv9, zM8)
set_option maxHeartbeats 4000000 in
set_option maxRecDepth 100000 in
theorem cRef_lostOf (l : Launch) (D : va_G) (cI : ClassId) (h : Nat → Nat) (N : Nat) (a1 : Int32) (M : Mm) (r : Int32) (M' : Mm) (zhs : sRef_lostOf N a1 M = some (r, M')) : CtI l yX12_lostOf cX12_lostOf 3 (some .int) 4 D cI (wR h cI M) (wR h cI M') [.ref (h 0), .int a1] r := by
  unfold sRef_lostOf at zhs
  refine CtI_of (by decide +kernel) (Nat.le_of_ble_eq_true rfl) ⟨_, rfl⟩ ?_
  intro p e s m args below meth c A Q zls zH zlocs C zhw zhl zhret
  have zhx := C.1
  have zhb := C.2.1
  have zhown := C.2.2.2.2.1
  have zhtB := C.2.2.2.2.2.2.1
  have zhl : lv_has zls 3 [(0, .ref (h 0)), (1, .int a1)] := zhl
  refine lv_iconst (v := 0) zhx zhb dX12_lostOf_0 (by decide) ?_
  refine lv_istore_n (lv' := [(2, .int 0), (0, .ref (h 0)), (1, .int a1)]) zhx zhb dX12_lostOf_1 rfl zhl (by decide) rfl (fun zls zhl => ?_)
  obtain ⟨zq7, zhq7, zhs⟩ := bnd_e zhs
  have hloop7 : ∀ (zn : Nat) (zx1 : Int32) (zM2 : Mm) (zq : (Mm)), itr (fun z : Int32 × Mm => LRef_lostOf_2_7 N a1 z.1 z.2) zn (zx1, zM2) = some zq → (∀ (zy1 : Mm), zy1 = zq → ∀ (zH : Heap) (zlocs : List Loc) (zls : Array Slot), lv_has zls 3 [(0, .ref (h 0))] → Hw D (wR h cI zy1) A s.heap zH zlocs → W p l e (RM 4) s m args below meth c zH zlocs 0 0 Q (F0 m 18 zls [])) → ∀ (zH : Heap) (zlocs : List Loc) (zls : Array Slot), lv_has zls 3 [(2, .int zx1), (0, .ref (h 0)), (1, .int a1)] → Hw D (wR h cI zM2) A s.heap zH zlocs → W p l e (RM 4) s m args below meth c zH zlocs 0 0 Q (F0 m 2 zls []) := by
    intro zn
    induction zn with
    | zero => intro zx1 zM2 zq zhq; exact absurd zhq (fun h9 => itr_0 h9)
    | succ zn zih =>
        intro zx1 zM2 zq zhq k2_18 zH zlocs zls zhl zhw
        obtain ⟨zy9, zhs, zhq⟩ := itr_s zhq
        replace zhs : LRef_lostOf_2_7 N a1 zx1 zM2 = some zy9 := zhs
        unfold LRef_lostOf_2_7 at zhs
        refine lv_iload_n zhx zhb dX12_lostOf_2 rfl (lv_at zhl 0 rfl) ?_
        refine lv_iload_n zhx zhb dX12_lostOf_3 rfl (lv_at zhl 2 rfl) ?_
        refine lv_icmp_ge (tgt := 18) zhx zhb dX12_lostOf_4 (by decide) (fun zc9 => ?_) (fun zc9 => ?_)
        · replace zhs := br_T zhs zc9
          cases zhs
          exact k2_18 zM2 (itk_q zhq) zH zlocs zls (lv_sub zhl [1] rfl) zhw
        · replace zhs := br_F zhs zc9
          refine lv_aload_n zhx zhb dX12_lostOf_7 rfl (lv_at zhl 1 rfl) ?_
          refine lv_iconst (v := 1) zhx zhb dX12_lostOf_8 (by decide) ?_
          obtain ⟨zM5, zhp, zhs⟩ := bnd_e zhs
          refine x_cVV (As := [.int 1]) (rest := []) C zhw zhl (cRef_goHour l D cI h N 1 zM2 zM5 zhp) (by decide) (by decide) kw_23_19 kw_23_20 kw_23_21 kw_1_5 kw_23_22 md_X12_goHour rfl 0 (wR_c0 h cI zM2) rfl rfl rfl rfl (Nat.le_of_ble_eq_true rfl) dX12_lostOf_9 (fun zH zlocs zhw => ?_)
          obtain ⟨zv6, ze9, zhs⟩ := ltI_e zhs
          refine lv_iinc (v := zv6) (lv' := [(2, .int zv6), (0, .ref (h 0)), (1, .int a1)]) zhx zhb dX12_lostOf_12 zhl (k := 0) rfl (by rw [ze9]; rfl) (by decide) rfl (fun zls zhl => ?_)
          clear ze9
          refine lv_goto (tgt := 2) zhx zhb dX12_lostOf_15 (by decide) ?_
          cases zhs
          exact zih zv6 zM5 zq (itk_l zhq) k2_18 zH zlocs zls zhl zhw
  refine hloop7 N 0 M zq7 zhq7 (fun zM8 zhqe zH zlocs zls zhl zhw => ?_) zH zlocs zls zhl zhw
  · subst zhqe
    refine lv_aload_n zhx zhb dX12_lostOf_18 rfl (lv_at zhl 0 rfl) ?_
    refine lv_iconst (v := 1) zhx zhb dX12_lostOf_19 (by decide) ?_
    obtain ⟨zv9, zhp, zhs⟩ := bnd_e zhs
    refine x_cVI (As := [.int 1]) (rest := []) C zhw zhl (cRef_offCoin l D cI h N 1 zM8 zv9 zhp) (by decide) (by decide) kw_28_17 kw_28_18 kw_28_19 kw_1_5 kw_28_20 md_X12_offCoin rfl 0 (wR_c0 h cI zM8) rfl rfl rfl rfl (Nat.le_of_ble_eq_true rfl) dX12_lostOf_20 (fun zH zlocs zhw hn9 => ?_)
    cases zhs
    exact zhret _ _ _ _ dX12_lostOf_23 (by rfl) zhw

-- OffFirstModel.lost in (0, ())
def sRef_lost (N : Nat) (a1 : Int32) (M : Mm) : Option (Int32 × Mm) :=
  (sRef_isLater a1).bind fun zv1 =>
  (if zv1 = 0 then some ((-1), M)
  else (sRef_copy N 0 1 M).bind fun zM2 =>
  (sRef_lostOf N a1 zM2).bind fun (zv3, zM4) =>
  some (zv3, zM4))
set_option maxHeartbeats 4000000 in
set_option maxRecDepth 100000 in
theorem cRef_lost (l : Launch) (D : va_G) (cI : ClassId) (h : Nat → Nat) (N : Nat) (a1 : Int32) (M : Mm) (r : Int32) (M' : Mm) (zhs : sRef_lost N a1 M = some (r, M')) : CtI l yX12_lost cX12_lost 2 (some .int) 5 D cI (wR h cI M) (wR h cI M') [.ref (h 0), .int a1] r := by
  unfold sRef_lost at zhs
  refine CtI_of (by decide +kernel) (Nat.le_of_ble_eq_true rfl) ⟨_, rfl⟩ ?_
  intro p e s m args below meth c A Q zls zH zlocs C zhw zhl zhret
  have zhx := C.1
  have zhb := C.2.1
  have zhown := C.2.2.2.2.1
  have zhtB := C.2.2.2.2.2.2.1
  have zhl : lv_has zls 2 [(0, .ref (h 0)), (1, .int a1)] := zhl
  refine lv_iload_n zhx zhb dX12_lost_0 rfl (lv_at zhl 1 rfl) ?_
  obtain ⟨zv1, zhp, zhs⟩ := bnd_e zhs
  refine x_cSI (As := [.int a1]) (rest := []) C zhw zhl (cRef_isLater l D cI h a1 M zv1 zhp) (by decide) (by decide) kw_28_5 kw_28_6 kw_1_5 kw_28_7 md_X12_isLater rfl rfl (Nat.le_of_ble_eq_true rfl) dX12_lost_1 (fun zH zlocs zhw hzv1 => ?_)
  refine lv_if_ne (tgt := 9) zhx zhb dX12_lost_4 (by decide) (fun zc9 => ?_) (fun zc9 => ?_)
  · replace zhs := br_F zhs zc9
    refine lv_aload_n zhx zhb dX12_lost_9 rfl (lv_at zhl 0 rfl) ?_
    refine lv_iconst (v := 0) zhx zhb dX12_lost_10 (by decide) ?_
    refine lv_iconst (v := 1) zhx zhb dX12_lost_11 (by decide) ?_
    obtain ⟨zM2, zhp, zhs⟩ := bnd_e zhs
    refine x_cVV (As := [.int 0, .int 1]) (rest := []) C zhw zhl (cRef_copy l D cI h N 0 1 M zM2 zhp) (by decide) (by decide) kw_28_9 kw_28_10 kw_28_11 kw_1_5 kw_28_12 md_X12_copy rfl 0 (wR_c0 h cI M) rfl rfl rfl rfl (Nat.le_of_ble_eq_true rfl) dX12_lost_12 (fun zH zlocs zhw => ?_)
    refine lv_aload_n zhx zhb dX12_lost_15 rfl (lv_at zhl 0 rfl) ?_
    refine lv_iload_n zhx zhb dX12_lost_16 rfl (lv_at zhl 1 rfl) ?_
    obtain ⟨⟨zv3, zM4⟩, zhp, zhs⟩ := bnd_e zhs
    try dsimp only at zhs
    refine x_cVI (As := [.int a1]) (rest := []) C zhw zhl (cRef_lostOf l D cI h N a1 zM2 zv3 zM4 zhp) (by decide) (by decide) kw_28_13 kw_28_14 kw_28_15 kw_1_5 kw_28_16 md_X12_lostOf rfl 0 (wR_c0 h cI zM2) rfl rfl rfl rfl (Nat.le_of_ble_eq_true rfl) dX12_lost_17 (fun zH zlocs zhw hn9 => ?_)
    cases zhs
    exact zhret _ _ _ _ dX12_lost_20 (by rfl) zhw
  · replace zhs := br_T zhs zc9
    refine lv_iconst (v := (-1)) zhx zhb dX12_lost_7 (by decide) ?_
    cases zhs
    exact zhret _ _ _ _ dX12_lost_8 (by rfl) zhw

