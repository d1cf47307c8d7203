-- OffFirstModel.illOf in (0, ())
def sRef_illOf (a1 : Int32) (M : Mm) : Option Int32 :=
  rdc 4 (M 27) 0 fun zv1 =>
  rdc 40 (M 26) a1 fun zv2 =>
  ltI (zv1 - zv2) fun zv3 =>
  rdc 40 (M 25) a1 fun zv4 =>
  (if zv4 = 1 then (sRef_in (Int32.toInt64 zv3) 6 72).bind fun zv5 =>
  (if zv5 = 0 then some 0
  else rdc 40 (M 24) a1 fun zv6 =>
  (sRef_limitOf a1 M).bind fun zv7 =>
  dvc zv7 (ltI ((10 * zv6) / zv7) fun zv8 =>
  (if 24 < zv3 then some zv8
  else some (2 * zv8))))
  else some 0)
set_option maxHeartbeats 4000000 in
set_option maxRecDepth 100000 in
theorem cRef_illOf (l : Launch) (D : va_G) (cI : ClassId) (h : Nat → Nat) (a1 : Int32) (M : Mm) (r : Int32) (zhs : sRef_illOf a1 M = some r) : CtI l yX12_illOf cX12_illOf 4 (some .int) 2 D cI (wR h cI M) (wR h cI M) [.ref (h 0), .int a1] r := by
  unfold sRef_illOf at zhs
  refine CtI_of (by decide +kernel) (Nat.le_of_ble_eq_true rfl) ⟨_, rfl⟩ ?_
  intro p e s m args below meth c A Q zls zH zlocs C zhw zhl zhret
  have zhx := C.1
  have zhb := C.2.1
  have zhown := C.2.2.2.2.1
  have zhtB := C.2.2.2.2.2.2.1
  have zhl : lv_has zls 4 [(0, .ref (h 0)), (1, .int a1)] := zhl
  refine lv_aload_n zhx zhb dX12_illOf_0 rfl (lv_at zhl 0 rfl) ?_
  refine x_get C zhw inlX12 rfl 0 27 (by decide) kw_9_5 rfl (wR_c0 h cI M) rfl dX12_illOf_1 ?_
  refine lv_iconst (v := 0) zhx zhb dX12_illOf_4 (by decide) ?_
  obtain ⟨zv1, ze9, zhi, zhs⟩ := rdc_v zhs
  refine x_iald C zhw 27 (wR_c27 h cI M) zhi dX12_illOf_5 ?_
  refine lv_topi (fun zy9 ze8 => ?_)
  obtain rfl : zv1 = zy9 := ze9.trans ze8.symm
  clear ze9 ze8
  refine lv_aload_n zhx zhb dX12_illOf_6 rfl (lv_at zhl 0 rfl) ?_
  refine x_get C zhw inlX12 rfl 0 26 (by decide) kw_9_4 rfl (wR_c0 h cI M) rfl dX12_illOf_7 ?_
  refine lv_iload_n zhx zhb dX12_illOf_10 rfl (lv_at zhl 1 rfl) ?_
  obtain ⟨zv2, ze9, zhi, zhs⟩ := rdc_v zhs
  refine x_iald C zhw 26 (wR_c26 h cI M) zhi dX12_illOf_11 ?_
  refine lv_topi (fun zy9 ze8 => ?_)
  obtain rfl : zv2 = zy9 := ze9.trans ze8.symm
  clear ze9 ze8
  refine lv_isub zhx zhb dX12_illOf_12 ?_
  obtain ⟨zv3, ze9, zhs⟩ := ltI_e zhs
  refine lv_topi (fun zy9 ze8 => ?_)
  obtain rfl : zv3 = zy9 := ze9.trans ze8.symm
  clear ze9 ze8
  refine lv_istore_n (lv' := [(2, .int zv3), (0, .ref (h 0)), (1, .int a1)]) zhx zhb dX12_illOf_13 rfl zhl (by decide) rfl (fun zls zhl => ?_)
  refine lv_aload_n zhx zhb dX12_illOf_14 rfl (lv_at zhl 1 rfl) ?_
  refine x_get C zhw inlX12 rfl 0 25 (by decide) kw_9_3 rfl (wR_c0 h cI M) rfl dX12_illOf_15 ?_
  refine lv_iload_n zhx zhb dX12_illOf_18 rfl (lv_at zhl 2 rfl) ?_
  obtain ⟨zv4, ze9, zhi, zhs⟩ := rdc_v zhs
  refine x_iald C zhw 25 (wR_c25 h cI M) zhi dX12_illOf_19 ?_
  refine lv_topi (fun zy9 ze8 => ?_)
  obtain rfl : zv4 = zy9 := ze9.trans ze8.symm
  clear ze9 ze8
  refine lv_iconst (v := 1) zhx zhb dX12_illOf_20 (by decide) ?_
  refine lv_icmp_ne (tgt := 38) zhx zhb dX12_illOf_21 (by decide) (fun zc9 => ?_) (fun zc9 => ?_)
  · replace zhs := br_F zhs zc9
    refine lv_iconst (v := 0) zhx zhb dX12_illOf_38 (by decide) ?_
    cases zhs
    exact zhret _ _ _ _ dX12_illOf_39 (by rfl) zhw
  · replace zhs := br_T zhs zc9
    refine lv_iload_n zhx zhb dX12_illOf_24 rfl (lv_at zhl 0 rfl) ?_
    refine lv_i2l zhx zhb dX12_illOf_25 rfl ?_
    refine lv_ldc2 zhx zhb zhown (zhtB _ kw_19_22) dX12_illOf_26 ?_
    refine lv_ldc2 zhx zhb zhown (zhtB _ kw_41_8) dX12_illOf_29 ?_
    obtain ⟨zv5, zhp, zhs⟩ := bnd_e zhs
    refine x_cSI (As := [.long (Int32.toInt64 zv3), .long 6, .long 72]) (rest := []) C zhw zhl (cRef_in l D cI h (Int32.toInt64 zv3) 6 72 M zv5 zhp) (by decide) (by decide) kw_10_14 kw_10_15 kw_1_5 kw_10_16 md_X12_in rfl rfl (Nat.le_of_ble_eq_true rfl) dX12_illOf_32 (fun zH zlocs zhw hzv5 => ?_)
    refine lv_if_ne (tgt := 40) zhx zhb dX12_illOf_35 (by decide) (fun zc9 => ?_) (fun zc9 => ?_)
    · replace zhs := br_F zhs zc9
      refine lv_bipush (v := 10) zhx zhb dX12_illOf_40 (by decide) ?_
      refine lv_aload_n zhx zhb dX12_illOf_42 rfl (lv_at zhl 1 rfl) ?_
      refine x_get C zhw inlX12 rfl 0 24 (by decide) kw_9_2 rfl (wR_c0 h cI M) rfl dX12_illOf_43 ?_
      refine lv_iload_n zhx zhb dX12_illOf_46 rfl (lv_at zhl 2 rfl) ?_
      obtain ⟨zv6, ze9, zhi, zhs⟩ := rdc_v zhs
      refine x_iald C zhw 24 (wR_c24 h cI M) zhi dX12_illOf_47 ?_
      refine lv_topi (fun zy9 ze8 => ?_)
      obtain rfl : zv6 = zy9 := ze9.trans ze8.symm
      clear ze9 ze8
      refine lv_imul zhx zhb dX12_illOf_48 ?_
      refine lv_aload_n zhx zhb dX12_illOf_49 rfl (lv_at zhl 1 rfl) ?_
      refine lv_iload_n zhx zhb dX12_illOf_50 rfl (lv_at zhl 2 rfl) ?_
      obtain ⟨zv7, zhp, zhs⟩ := bnd_e zhs
      refine x_cVI (As := [.int a1]) (rest := [.int (10 * zv6)]) C zhw zhl (cRef_limitOf l D cI h a1 M zv7 zhp) (by decide) (by decide) kw_20_3 kw_20_4 kw_20_5 kw_1_5 kw_20_6 md_X12_limitOf rfl 0 (wR_c0 h cI M) rfl rfl rfl rfl (Nat.le_of_ble_eq_true rfl) dX12_illOf_51 (fun zH zlocs zhw hn9 => ?_)
      obtain ⟨zhz, zhs⟩ := dvc_e zhs
      refine lv_idiv zhx zhb dX12_illOf_54 zhz ?_
      obtain ⟨zv8, ze9, zhs⟩ := ltI_e zhs
      refine lv_topi (fun zy9 ze8 => ?_)
      obtain rfl : zv8 = zy9 := ze9.trans ze8.symm
      clear ze9 ze8
      refine lv_istore_n (lv' := [(3, .int zv8), (2, .int zv3), (0, .ref (h 0)), (1, .int a1)]) zhx zhb dX12_illOf_55 rfl zhl (by decide) rfl (fun zls zhl => ?_)
      refine lv_iload_n zhx zhb dX12_illOf_56 rfl (lv_at zhl 1 rfl) ?_
      refine lv_bipush (v := 24) zhx zhb dX12_illOf_57 (by decide) ?_
      refine lv_icmp_gt (tgt := 68) zhx zhb dX12_illOf_59 (by decide) (fun zc9 => ?_) (fun zc9 => ?_)
      · replace zhs := br_T zhs zc9
        refine lv_iload_n zhx zhb dX12_illOf_68 rfl (lv_at zhl 0 rfl) ?_
        cases zhs
        exact zhret _ _ _ _ dX12_illOf_69 (by rfl) zhw
      · replace zhs := br_F zhs zc9
        refine lv_iconst (v := 2) zhx zhb dX12_illOf_62 (by decide) ?_
        refine lv_iload_n zhx zhb dX12_illOf_63 rfl (lv_at zhl 0 rfl) ?_
        refine lv_imul zhx zhb dX12_illOf_64 ?_
        refine lv_goto (tgt := 69) zhx zhb dX12_illOf_65 (by decide) ?_
        cases zhs
        exact zhret _ _ _ _ dX12_illOf_69 (by rfl) zhw
    · replace zhs := br_T zhs zc9
      refine lv_iconst (v := 0) zhx zhb dX12_illOf_38 (by decide) ?_
      cases zhs
      exact zhret _ _ _ _ dX12_illOf_39 (by rfl) zhw

-- OffFirstModel.ill in (0, ())
def LRef_ill_25_13 (N : Nat) (M : Mm) (zx3 : Int32) (zx4 : Int32) : Option ((Int32 × Int32) ⊕ ((Int32))) :=
  rdc 2 (M 7) 0 fun zv9 =>
  (if zv9 ≤ zx4 then some (.inr zx3)
  else (sRef_illOf zx4 M).bind fun zv10 =>
  ltI (zx3 + zv10) fun zv11 =>
  ltI (zx4 + 1) fun zv12 =>
  some (.inl (zv11, zv12)))
def LRef_ill_68_20 (N : Nat) (zx16 : Int32) (zx17 : Int32) : Option ((Int32 × Int32) ⊕ ((Int32))) :=
  (if zx17 = 0 then some (.inr zx16)
  else dvc zx17 (ltI (remI zx16 zx17) fun zv19 =>
  some (.inl (zx17, zv19))))
def sRef_ill (N : Nat) (a1 : Int32) (a2 : Int32) (M : Mm) : Option Int32 :=
  (sRef_isFood a1 M).bind fun zv1 =>
  (if zv1 = 0 then some (-1)
  else (sRef_in (Int32.toInt64 a2) 0 1).bind fun zv2 =>
  (if zv2 = 0 then some (-1)
  else (itr (fun z : Int32 × Int32 => LRef_ill_25_13 N M z.1 z.2) N (0, 0)).bind fun zv14 =>
  (if zv14 = 0 then some (-4)
  else (sRef_illOf a1 M).bind fun zv15 =>
  (itr (fun z : Int32 × Int32 => LRef_ill_68_20 N z.1 z.2) N (zv15, zv14)).bind fun zv21 =>
  (if a2 = 0 then (sRef_illOf a1 M).bind fun zv23 =>
  dvc zv21 (some (zv23 / zv21))
  else dvc zv21 (some (zv14 / zv21))))))
set_option maxHeartbeats 4000000 in
set_option maxRecDepth 100000 in
theorem cRef_ill (l : Launch) (D : va_G) (cI : ClassId) (h : Nat → Nat) (N : Nat) (a1 : Int32) (a2 : Int32) (M : Mm) (r : Int32) (zhs : sRef_ill N a1 a2 M = some r) : CtI l yX12_ill cX12_ill 7 (some .int) 3 D cI (wR h cI M) (wR h cI M) [.ref (h 0), .int a1, .int a2] r := by
  unfold sRef_ill at zhs
  refine CtI_of (by decide +kernel) (Nat.le_of_ble_eq_true rfl) ⟨_, rfl⟩ ?_
  intro p e s m args below meth c A Q zls zH zlocs C zhw zhl zhret
  have zhx := C.1
  have zhb := C.2.1
  have zhown := C.2.2.2.2.1
  have zhtB := C.2.2.2.2.2.2.1
  have zhl : lv_has zls 7 [(0, .ref (h 0)), (1, .int a1), (2, .int a2)] := zhl
  refine lv_aload_n zhx zhb dX12_ill_0 rfl (lv_at zhl 0 rfl) ?_
  refine lv_iload_n zhx zhb dX12_ill_1 rfl (lv_at zhl 1 rfl) ?_
  obtain ⟨zv1, zhp, zhs⟩ := bnd_e zhs
  refine x_cVI (As := [.int a1]) (rest := []) C zhw zhl (cRef_isFood l D cI h a1 M zv1 zhp) (by decide) (by decide) kw_19_23 kw_20_0 kw_20_1 kw_1_5 kw_20_2 md_X12_isFood rfl 0 (wR_c0 h cI M) rfl rfl rfl rfl (Nat.le_of_ble_eq_true rfl) dX12_ill_2 (fun zH zlocs zhw hzv1 => ?_)
  refine lv_if_eq (tgt := 18) zhx zhb dX12_ill_5 (by decide) (fun zc9 => ?_) (fun zc9 => ?_)
  · replace zhs := br_T zhs zc9
    refine lv_iconst (v := (-1)) zhx zhb dX12_ill_18 (by decide) ?_
    cases zhs
    exact zhret _ _ _ _ dX12_ill_19 (by rfl) zhw
  · replace zhs := br_F zhs zc9
    refine lv_iload_n zhx zhb dX12_ill_8 rfl (lv_at zhl 2 rfl) ?_
    refine lv_i2l zhx zhb dX12_ill_9 rfl ?_
    refine lv_lconst (v := 0) zhx zhb dX12_ill_10 (by decide) ?_
    refine lv_lconst (v := 1) zhx zhb dX12_ill_11 (by decide) ?_
    obtain ⟨zv2, zhp, zhs⟩ := bnd_e zhs
    refine x_cSI (As := [.long (Int32.toInt64 a2), .long 0, .long 1]) (rest := []) C zhw zhl (cRef_in l D cI h (Int32.toInt64 a2) 0 1 M zv2 zhp) (by decide) (by decide) kw_10_14 kw_10_15 kw_1_5 kw_10_16 md_X12_in rfl rfl (Nat.le_of_ble_eq_true rfl) dX12_ill_12 (fun zH zlocs zhw hzv2 => ?_)
    refine lv_if_ne (tgt := 20) zhx zhb dX12_ill_15 (by decide) (fun zc9 => ?_) (fun zc9 => ?_)
    · replace zhs := br_F zhs zc9
      refine lv_iconst (v := 0) zhx zhb dX12_ill_20 (by decide) ?_
      refine lv_istore_n (lv' := [(3, .int 0), (0, .ref (h 0)), (1, .int a1), (2, .int a2)]) zhx zhb dX12_ill_21 rfl zhl (by decide) rfl (fun zls zhl => ?_)
      refine lv_iconst (v := 0) zhx zhb dX12_ill_22 (by decide) ?_
      refine lv_istore (lv' := [(4, .int 0), (3, .int 0), (0, .ref (h 0)), (1, .int a1), (2, .int a2)]) zhx zhb dX12_ill_23 zhl (by decide) rfl (fun zls zhl => ?_)
      obtain ⟨zq13, zhq13, zhs⟩ := bnd_e zhs
      have hloop13 : ∀ (zn : Nat) (zx3 : Int32) (zx4 : Int32) (zq : (Int32)), itr (fun z : Int32 × Int32 => LRef_ill_25_13 N M z.1 z.2) zn (zx3, zx4) = some zq → (∀ (zy1 : Int32), zy1 = zq → ∀ (zH : Heap) (zlocs : List Loc) (zls : Array Slot), lv_has zls 7 [(3, .int zy1), (0, .ref (h 0)), (1, .int a1), (2, .int a2)] → Hw D (wR h cI M) A s.heap zH zlocs → W p l e (RM 3) s m args below meth c zH zlocs 0 0 Q (F0 m 51 zls [])) → ∀ (zH : Heap) (zlocs : List Loc) (zls : Array Slot), lv_has zls 7 [(4, .int zx4), (3, .int zx3), (0, .ref (h 0)), (1, .int a1), (2, .int a2)] → Hw D (wR h cI M) A s.heap zH zlocs → W p l e (RM 3) s m args below meth c zH zlocs 0 0 Q (F0 m 25 zls []) := by
        intro zn
        induction zn with
        | zero => intro zx3 zx4 zq zhq; exact absurd zhq (fun h9 => itr_0 h9)
        | succ zn zih =>
            intro zx3 zx4 zq zhq k25_51 zH zlocs zls zhl zhw
            obtain ⟨zy9, zhs, zhq⟩ := itr_s zhq
            replace zhs : LRef_ill_25_13 N M zx3 zx4 = some zy9 := zhs
            unfold LRef_ill_25_13 at zhs
            refine lv_iload zhx zhb dX12_ill_25 (lv_at zhl 0 rfl) ?_
            refine lv_aload_n zhx zhb dX12_ill_27 rfl (lv_at zhl 2 rfl) ?_
            refine x_get C zhw inlX12 rfl 0 7 (by decide) kw_8_9 rfl (wR_c0 h cI M) rfl dX12_ill_28 ?_
            refine lv_iconst (v := 0) zhx zhb dX12_ill_31 (by decide) ?_
            obtain ⟨zv9, ze9, zhi, zhs⟩ := rdc_v zhs
            refine x_iald C zhw 7 (wR_c7 h cI M) zhi dX12_ill_32 ?_
            refine lv_topi (fun zy9 ze8 => ?_)
            obtain rfl : zv9 = zy9 := ze9.trans ze8.symm
            clear ze9 ze8
            refine lv_icmp_ge (tgt := 51) zhx zhb dX12_ill_33 (by decide) (fun zc9 => ?_) (fun zc9 => ?_)
            · replace zhs := br_T zhs zc9
              cases zhs
              exact k25_51 zx3 (itk_q zhq) zH zlocs zls (lv_sub zhl [1, 2, 3, 4] rfl) zhw
            · replace zhs := br_F zhs zc9
              refine lv_iload_n zhx zhb dX12_ill_36 rfl (lv_at zhl 1 rfl) ?_
              refine lv_aload_n zhx zhb dX12_ill_37 rfl (lv_at zhl 2 rfl) ?_
              refine lv_iload zhx zhb dX12_ill_38 (lv_at zhl 0 rfl) ?_
              obtain ⟨zv10, zhp, zhs⟩ := bnd_e zhs
              refine x_cVI (As := [.int zx4]) (rest := [.int zx3]) C zhw zhl (cRef_illOf l D cI h zx4 M zv10 zhp) (by decide) (by decide) kw_41_4 kw_41_5 kw_41_6 kw_1_5 kw_41_7 md_X12_illOf rfl 0 (wR_c0 h cI M) rfl rfl rfl rfl (Nat.le_of_ble_eq_true rfl) dX12_ill_40 (fun zH zlocs zhw hn9 => ?_)
              refine lv_iadd zhx zhb dX12_ill_43 ?_
              obtain ⟨zv11, ze9, zhs⟩ := ltI_e zhs
              refine lv_topi (fun zy9 ze8 => ?_)
              obtain rfl : zv11 = zy9 := ze9.trans ze8.symm
              clear ze9 ze8
              refine lv_istore_n (lv' := [(3, .int zv11), (4, .int zx4), (0, .ref (h 0)), (1, .int a1), (2, .int a2)]) zhx zhb dX12_ill_44 rfl zhl (by decide) rfl (fun zls zhl => ?_)
              obtain ⟨zv12, ze9, zhs⟩ := ltI_e zhs
              refine lv_iinc (v := zv12) (lv' := [(4, .int zv12), (3, .int zv11), (0, .ref (h 0)), (1, .int a1), (2, .int a2)]) zhx zhb dX12_ill_45 zhl (k := 1) rfl (by rw [ze9]; rfl) (by decide) rfl (fun zls zhl => ?_)
              clear ze9
              refine lv_goto (tgt := 25) zhx zhb dX12_ill_48 (by decide) ?_
              cases zhs
              exact zih zv11 zv12 zq (itk_l zhq) k25_51 zH zlocs zls zhl zhw
      refine hloop13 N 0 0 zq13 zhq13 (fun zv14 zhqe zH zlocs zls zhl zhw => ?_) zH zlocs zls zhl zhw
      · subst zhqe
        refine lv_iload_n zhx zhb dX12_ill_51 rfl (lv_at zhl 0 rfl) ?_
        refine lv_if_ne (tgt := 58) zhx zhb dX12_ill_52 (by decide) (fun zc9 => ?_) (fun zc9 => ?_)
        · replace zhs := br_F zhs zc9
          refine lv_aload_n zhx zhb dX12_ill_58 rfl (lv_at zhl 1 rfl) ?_
          refine lv_iload_n zhx zhb dX12_ill_59 rfl (lv_at zhl 2 rfl) ?_
          obtain ⟨zv15, zhp, zhs⟩ := bnd_e zhs
          refine x_cVI (As := [.int a1]) (rest := []) C zhw zhl (cRef_illOf l D cI h a1 M zv15 zhp) (by decide) (by decide) kw_41_4 kw_41_5 kw_41_6 kw_1_5 kw_41_7 md_X12_illOf rfl 0 (wR_c0 h cI M) rfl rfl rfl rfl (Nat.le_of_ble_eq_true rfl) dX12_ill_60 (fun zH zlocs zhw hn9 => ?_)
          refine lv_istore (lv' := [(4, .int zv15), (3, .int zv14), (0, .ref (h 0)), (1, .int a1), (2, .int a2)]) zhx zhb dX12_ill_63 zhl (by decide) rfl (fun zls zhl => ?_)
          refine lv_iload_n zhx zhb dX12_ill_65 rfl (lv_at zhl 1 rfl) ?_
          refine lv_istore (lv' := [(5, .int zv14), (4, .int zv15), (3, .int zv14), (0, .ref (h 0)), (1, .int a1), (2, .int a2)]) zhx zhb dX12_ill_66 zhl (by decide) rfl (fun zls zhl => ?_)
          obtain ⟨zq20, zhq20, zhs⟩ := bnd_e zhs
          have hloop20 : ∀ (zn : Nat) (zx16 : Int32) (zx17 : Int32) (zq : (Int32)), itr (fun z : Int32 × Int32 => LRef_ill_68_20 N z.1 z.2) zn (zx16, zx17) = some zq → (∀ (zy1 : Int32), zy1 = zq → ∀ (zH : Heap) (zlocs : List Loc) (zls : Array Slot), lv_has zls 7 [(4, .int zy1), (3, .int zv14), (0, .ref (h 0)), (1, .int a1), (2, .int a2)] → Hw D (wR h cI M) A s.heap zH zlocs → W p l e (RM 3) s m args below meth c zH zlocs 0 0 Q (F0 m 91 zls [])) → ∀ (zH : Heap) (zlocs : List Loc) (zls : Array Slot), lv_has zls 7 [(5, .int zx17), (4, .int zx16), (3, .int zv14), (0, .ref (h 0)), (1, .int a1), (2, .int a2)] → Hw D (wR h cI M) A s.heap zH zlocs → W p l e (RM 3) s m args below meth c zH zlocs 0 0 Q (F0 m 68 zls []) := by
            intro zn
            induction zn with
            | zero => intro zx16 zx17 zq zhq; exact absurd zhq (fun h9 => itr_0 h9)
            | succ zn zih =>
                intro zx16 zx17 zq zhq k68_91 zH zlocs zls zhl zhw
                obtain ⟨zy9, zhs, zhq⟩ := itr_s zhq
                replace zhs : LRef_ill_68_20 N zx16 zx17 = some zy9 := zhs
                unfold LRef_ill_68_20 at zhs
                refine lv_iload zhx zhb dX12_ill_68 (lv_at zhl 0 rfl) ?_
                refine lv_if_eq (tgt := 91) zhx zhb dX12_ill_70 (by decide) (fun zc9 => ?_) (fun zc9 => ?_)
                · replace zhs := br_T zhs zc9
                  cases zhs
                  exact k68_91 zx16 (itk_q zhq) zH zlocs zls (lv_sub zhl [1, 2, 3, 4, 5] rfl) zhw
                · replace zhs := br_F zhs zc9
                  refine lv_iload zhx zhb dX12_ill_73 (lv_at zhl 1 rfl) ?_
                  refine lv_iload zhx zhb dX12_ill_75 (lv_at zhl 0 rfl) ?_
                  obtain ⟨zhz, zhs⟩ := dvc_e zhs
                  refine lv_irem zhx zhb dX12_ill_77 zhz ?_
                  obtain ⟨zv19, ze9, zhs⟩ := ltI_e zhs
                  refine lv_topi (fun zy9 ze8 => ?_)
                  obtain rfl : zv19 = zy9 := ze9.trans ze8.symm
                  clear ze9 ze8
                  refine lv_istore (lv' := [(6, .int zv19), (5, .int zx17), (4, .int zx16), (3, .int zv14), (0, .ref (h 0)), (1, .int a1), (2, .int a2)]) zhx zhb dX12_ill_78 zhl (by decide) rfl (fun zls zhl => ?_)
                  refine lv_iload zhx zhb dX12_ill_80 (lv_at zhl 1 rfl) ?_
                  refine lv_istore (lv' := [(4, .int zx17), (6, .int zv19), (5, .int zx17), (3, .int zv14), (0, .ref (h 0)), (1, .int a1), (2, .int a2)]) zhx zhb dX12_ill_82 zhl (by decide) rfl (fun zls zhl => ?_)
                  refine lv_iload zhx zhb dX12_ill_84 (lv_at zhl 1 rfl) ?_
                  refine lv_istore (lv' := [(5, .int zv19), (4, .int zx17), (6, .int zv19), (3, .int zv14), (0, .ref (h 0)), (1, .int a1), (2, .int a2)]) zhx zhb dX12_ill_86 zhl (by decide) rfl (fun zls zhl => ?_)
                  refine lv_goto (tgt := 68) zhx zhb dX12_ill_88 (by decide) ?_
                  cases zhs
                  exact zih zx17 zv19 zq (itk_l zhq) k68_91 zH zlocs zls (lv_sub zhl [0, 1, 3, 4, 5, 6] rfl) zhw
          refine hloop20 N zv15 zv14 zq20 zhq20 (fun zv21 zhqe zH zlocs zls zhl zhw => ?_) zH zlocs zls zhl zhw
          · subst zhqe
            refine lv_iload_n zhx zhb dX12_ill_91 rfl (lv_at zhl 4 rfl) ?_
            refine lv_if_ne (tgt := 106) zhx zhb dX12_ill_92 (by decide) (fun zc9 => ?_) (fun zc9 => ?_)
            · replace zhs := br_F zhs zc9
              refine lv_iload_n zhx zhb dX12_ill_106 rfl (lv_at zhl 1 rfl) ?_
              refine lv_iload zhx zhb dX12_ill_107 (lv_at zhl 0 rfl) ?_
              obtain ⟨zhz, zhs⟩ := dvc_e zhs
              refine lv_idiv zhx zhb dX12_ill_109 zhz ?_
              cases zhs
              exact zhret _ _ _ _ dX12_ill_110 (by rfl) zhw
            · replace zhs := br_T zhs zc9
              refine lv_aload_n zhx zhb dX12_ill_95 rfl (lv_at zhl 2 rfl) ?_
              refine lv_iload_n zhx zhb dX12_ill_96 rfl (lv_at zhl 3 rfl) ?_
              obtain ⟨zv23, zhp, zhs⟩ := bnd_e zhs
              refine x_cVI (As := [.int a1]) (rest := []) C zhw zhl (cRef_illOf l D cI h a1 M zv23 zhp) (by decide) (by decide) kw_41_4 kw_41_5 kw_41_6 kw_1_5 kw_41_7 md_X12_illOf rfl 0 (wR_c0 h cI M) rfl rfl rfl rfl (Nat.le_of_ble_eq_true rfl) dX12_ill_97 (fun zH zlocs zhw hn9 => ?_)
              refine lv_iload zhx zhb dX12_ill_100 (lv_at zhl 0 rfl) ?_
              obtain ⟨zhz, zhs⟩ := dvc_e zhs
              refine lv_idiv zhx zhb dX12_ill_102 zhz ?_
              refine lv_goto (tgt := 110) zhx zhb dX12_ill_103 (by decide) ?_
              cases zhs
              exact zhret _ _ _ _ dX12_ill_110 (by rfl) zhw
        · replace zhs := br_T zhs zc9
          refine lv_bipush (v := (-4)) zhx zhb dX12_ill_55 (by decide) ?_
          cases zhs
          exact zhret _ _ _ _ dX12_ill_57 (by rfl) zhw
    · replace zhs := br_T zhs zc9
      refine lv_iconst (v := (-1)) zhx zhb dX12_ill_18 (by decide) ?_
      cases zhs
      exact zhret _ _ _ _ dX12_ill_19 (by rfl) zhw

-- OffFirstModel.span in (0, ())
def sRef_span (a1 : Int32) (a2 : Int32) (M : Mm) : Option (Int32 × Mm) :=
  (sRef_in (Int32.toInt64 a1) 0 300).bind fun zv1 =>
  (if zv1 = 0 then some ((-1), M)
  else (sRef_in (Int32.toInt64 a2) 1 300).bind fun zv2 =>
  (if zv2 = 0 then some ((-1), M)
  else (if (M 0 29) = 8 then some ((-3), M)
  else inc 16 (2 * (M 0 29)) <| ltM (mset M 28 (Int32.toNatClampNeg (2 * (M 0 29))) a1) fun zM3 =>
  inc 16 ((2 * (zM3 0 29)) + 1) <| ltM (mset zM3 28 (Int32.toNatClampNeg ((2 * (zM3 0 29)) + 1)) a2) fun zM4 =>
  ltM (mset zM4 0 29 ((zM4 0 29) + 1)) fun zM5 =>
  some ((zM5 0 29), zM5))))
set_option maxHeartbeats 4000000 in
set_option maxRecDepth 100000 in
theorem cRef_span (l : Launch) (D : va_G) (cI : ClassId) (h : Nat → Nat) (a1 : Int32) (a2 : Int32) (M : Mm) (r : Int32) (M' : Mm) (zhs : sRef_span a1 a2 M = some (r, M')) : CtI l yX12_span cX12_span 3 (some .int) 2 D cI (wR h cI M) (wR h cI M') [.ref (h 0), .int a1, .int a2] r := by
  unfold sRef_span at zhs
  refine CtI_of (by decide +kernel) (Nat.le_of_ble_eq_true rfl) ⟨_, rfl⟩ ?_
  intro p e s m args below meth c A Q zls zH zlocs C zhw zhl zhret
  have zhx := C.1
  have zhb := C.2.1
  have zhown := C.2.2.2.2.1
  have zhtB := C.2.2.2.2.2.2.1
  have zhl : lv_has zls 3 [(0, .ref (h 0)), (1, .int a1), (2, .int a2)] := zhl
  refine lv_iload_n zhx zhb dX12_span_0 rfl (lv_at zhl 1 rfl) ?_
  refine lv_i2l zhx zhb dX12_span_1 rfl ?_
  refine lv_lconst (v := 0) zhx zhb dX12_span_2 (by decide) ?_
  refine lv_ldc2 zhx zhb zhown (zhtB _ kw_41_22) dX12_span_3 ?_
  obtain ⟨zv1, zhp, zhs⟩ := bnd_e zhs
  refine x_cSI (As := [.long (Int32.toInt64 a1), .long 0, .long 300]) (rest := []) C zhw zhl (cRef_in l D cI h (Int32.toInt64 a1) 0 300 M zv1 zhp) (by decide) (by decide) kw_10_14 kw_10_15 kw_1_5 kw_10_16 md_X12_in rfl rfl (Nat.le_of_ble_eq_true rfl) dX12_span_6 (fun zH zlocs zhw hzv1 => ?_)
  refine lv_if_eq (tgt := 24) zhx zhb dX12_span_9 (by decide) (fun zc9 => ?_) (fun zc9 => ?_)
  · replace zhs := br_T zhs zc9
    refine lv_iconst (v := (-1)) zhx zhb dX12_span_24 (by decide) ?_
    cases zhs
    exact zhret _ _ _ _ dX12_span_25 (by rfl) zhw
  · replace zhs := br_F zhs zc9
    refine lv_iload_n zhx zhb dX12_span_12 rfl (lv_at zhl 2 rfl) ?_
    refine lv_i2l zhx zhb dX12_span_13 rfl ?_
    refine lv_lconst (v := 1) zhx zhb dX12_span_14 (by decide) ?_
    refine lv_ldc2 zhx zhb zhown (zhtB _ kw_41_22) dX12_span_15 ?_
    obtain ⟨zv2, zhp, zhs⟩ := bnd_e zhs
    refine x_cSI (As := [.long (Int32.toInt64 a2), .long 1, .long 300]) (rest := []) C zhw zhl (cRef_in l D cI h (Int32.toInt64 a2) 1 300 M zv2 zhp) (by decide) (by decide) kw_10_14 kw_10_15 kw_1_5 kw_10_16 md_X12_in rfl rfl (Nat.le_of_ble_eq_true rfl) dX12_span_18 (fun zH zlocs zhw hzv2 => ?_)
    refine lv_if_ne (tgt := 26) zhx zhb dX12_span_21 (by decide) (fun zc9 => ?_) (fun zc9 => ?_)
    · replace zhs := br_F zhs zc9
      refine lv_aload_n zhx zhb dX12_span_26 rfl (lv_at zhl 0 rfl) ?_
      refine x_get C zhw inlX12 rfl 0 29 (by decide) kw_9_17 rfl (wR_c0 h cI M) rfl dX12_span_27 ?_
      refine lv_bipush (v := 8) zhx zhb dX12_span_30 (by decide) ?_
      refine lv_icmp_ne (tgt := 38) zhx zhb dX12_span_32 (by decide) (fun zc9 => ?_) (fun zc9 => ?_)
      · replace zhs := br_F zhs zc9
        refine lv_aload_n zhx zhb dX12_span_38 rfl (lv_at zhl 0 rfl) ?_
        refine x_get C zhw inlX12 rfl 0 30 (by decide) kw_9_6 rfl (wR_c0 h cI M) rfl dX12_span_39 ?_
        refine lv_iconst (v := 2) zhx zhb dX12_span_42 (by decide) ?_
        refine lv_aload_n zhx zhb dX12_span_43 rfl (lv_at zhl 0 rfl) ?_
        refine x_get C zhw inlX12 rfl 0 29 (by decide) kw_9_17 rfl (wR_c0 h cI M) rfl dX12_span_44 ?_
        refine lv_imul zhx zhb dX12_span_47 ?_
        refine lv_iload_n zhx zhb dX12_span_48 rfl (lv_at zhl 1 rfl) ?_
        obtain ⟨zhi, zhs⟩ := inc_e zhs
        refine x_iast C zhw 28 (wR_c28 h cI M) zhi (wR_a28 h cI M _ _) dX12_span_49 (fun zH zlocs zhw => ?_)
        obtain ⟨zM3, ze9, zhs⟩ := ltM_e zhs
        rw [← ze9] at zhw; clear ze9
        refine lv_aload_n zhx zhb dX12_span_50 rfl (lv_at zhl 0 rfl) ?_
        refine x_get C zhw inlX12 rfl 0 30 (by decide) kw_9_6 rfl (wR_c0 h cI zM3) rfl dX12_span_51 ?_
        refine lv_iconst (v := 2) zhx zhb dX12_span_54 (by decide) ?_
        refine lv_aload_n zhx zhb dX12_span_55 rfl (lv_at zhl 0 rfl) ?_
        refine x_get C zhw inlX12 rfl 0 29 (by decide) kw_9_17 rfl (wR_c0 h cI zM3) rfl dX12_span_56 ?_
        refine lv_imul zhx zhb dX12_span_59 ?_
        refine lv_iconst (v := 1) zhx zhb dX12_span_60 (by decide) ?_
        refine lv_iadd zhx zhb dX12_span_61 ?_
        refine lv_iload_n zhx zhb dX12_span_62 rfl (lv_at zhl 2 rfl) ?_
        obtain ⟨zhi, zhs⟩ := inc_e zhs
        refine x_iast C zhw 28 (wR_c28 h cI zM3) zhi (wR_a28 h cI zM3 _ _) dX12_span_63 (fun zH zlocs zhw => ?_)
        obtain ⟨zM4, ze9, zhs⟩ := ltM_e zhs
        rw [← ze9] at zhw; clear ze9
        refine lv_aload_n zhx zhb dX12_span_64 rfl (lv_at zhl 0 rfl) ?_
        refine lv_dup zhx zhb dX12_span_65 rfl ?_
        refine x_get C zhw inlX12 rfl 0 29 (by decide) kw_9_17 rfl (wR_c0 h cI zM4) rfl dX12_span_66 ?_
        refine lv_iconst (v := 1) zhx zhb dX12_span_69 (by decide) ?_
        refine lv_iadd zhx zhb dX12_span_70 ?_
        refine x_put C zhw inlX12 rfl tyX12_ok nmX12 0 29 (by decide) kw_9_17 rfl rfl rfl (wR_c0 h cI zM4) (Nat.le_of_ble_eq_true rfl) (wR_s0_29 h cI zM4 _) dX12_span_71 (fun zH zlocs zhw => ?_)
        obtain ⟨zM5, ze9, zhs⟩ := ltM_e zhs
        rw [← ze9] at zhw; clear ze9
        refine lv_aload_n zhx zhb dX12_span_74 rfl (lv_at zhl 0 rfl) ?_
        refine x_get C zhw inlX12 rfl 0 29 (by decide) kw_9_17 rfl (wR_c0 h cI zM5) rfl dX12_span_75 ?_
        cases zhs
        exact zhret _ _ _ _ dX12_span_78 (by rfl) zhw
      · replace zhs := br_T zhs zc9
        refine lv_bipush (v := (-3)) zhx zhb dX12_span_35 (by decide) ?_
        cases zhs
        exact zhret _ _ _ _ dX12_span_37 (by rfl) zhw
    · replace zhs := br_T zhs zc9
      refine lv_iconst (v := (-1)) zhx zhb dX12_span_24 (by decide) ?_
      cases zhs
      exact zhret _ _ _ _ dX12_span_25 (by rfl) zhw

-- OffFirstModel.noSpans in (0, ())
def sRef_noSpans (M : Mm) : Option (Int32 × Mm) :=
  ltI (M 0 29) fun zv1 =>
  ltM (mset M 0 29 0) fun zM2 =>
  some (zv1, zM2)
set_option maxHeartbeats 4000000 in
set_option maxRecDepth 100000 in
theorem cRef_noSpans (l : Launch) (D : va_G) (cI : ClassId) (h : Nat → Nat) (M : Mm) (r : Int32) (M' : Mm) (zhs : sRef_noSpans M = some (r, M')) : CtI l yX12_noSpans cX12_noSpans 2 (some .int) 1 D cI (wR h cI M) (wR h cI M') [.ref (h 0)] r := by
  unfold sRef_noSpans at zhs
  refine CtI_of (by decide +kernel) (Nat.le_of_ble_eq_true rfl) ⟨_, rfl⟩ ?_
  intro p e s m args below meth c A Q zls zH zlocs C zhw zhl zhret
  have zhx := C.1
  have zhb := C.2.1
  have zhown := C.2.2.2.2.1
  have zhtB := C.2.2.2.2.2.2.1
  have zhl : lv_has zls 2 [(0, .ref (h 0))] := zhl
  refine lv_aload_n zhx zhb dX12_noSpans_0 rfl (lv_at zhl 0 rfl) ?_
  refine x_get C zhw inlX12 rfl 0 29 (by decide) kw_9_17 rfl (wR_c0 h cI M) rfl dX12_noSpans_1 ?_
  obtain ⟨zv1, ze9, zhs⟩ := ltI_e zhs
  refine lv_topi (fun zy9 ze8 => ?_)
  obtain rfl : zv1 = zy9 := ze9.trans ze8.symm
  clear ze9 ze8
  refine lv_istore_n (lv' := [(1, .int zv1), (0, .ref (h 0))]) zhx zhb dX12_noSpans_4 rfl zhl (by decide) rfl (fun zls zhl => ?_)
  refine lv_aload_n zhx zhb dX12_noSpans_5 rfl (lv_at zhl 1 rfl) ?_
  refine lv_iconst (v := 0) zhx zhb dX12_noSpans_6 (by decide) ?_
  refine x_put C zhw inlX12 rfl tyX12_ok nmX12 0 29 (by decide) kw_9_17 rfl rfl rfl (wR_c0 h cI M) (Nat.le_of_ble_eq_true rfl) (wR_s0_29 h cI M _) dX12_noSpans_7 (fun zH zlocs zhw => ?_)
  obtain ⟨zM2, ze9, zhs⟩ := ltM_e zhs
  rw [← ze9] at zhw; clear ze9
  refine lv_iload_n zhx zhb dX12_noSpans_10 rfl (lv_at zhl 0 rfl) ?_
  cases zhs
  exact zhret _ _ _ _ dX12_noSpans_11 (by rfl) zhw

-- OffFirstModel.fitsOf in (0, ())
def LRef_fitsOf_4_21 (N : Nat) (a1 : Int32) (M : Mm) (zx1 : Int32) (zx2 : Int32) : Option ((Int32 × Int32) ⊕ ((Int32))) :=
  (if (M 0 29) ≤ zx2 then some (.inr zx1)
  else rdc 16 (M 28) (2 * zx2) fun zv12 =>
  ltI (a1 + zv12) fun zv13 =>
  rdc 16 (M 28) ((2 * zx2) + 1) fun zv14 =>
  (if (zv13 * zv14) < 2400 then ltI (zx1 + 0) fun zv15 =>
  ltI (zx2 + 1) fun zv16 =>
  some (.inl (zv15, zv16))
  else (if 2400 ≤ (zv13 * (zv14 - 1)) then ltI (zx1 + 0) fun zv17 =>
  ltI (zx2 + 1) fun zv18 =>
  some (.inl (zv17, zv18))
  else ltI (zx1 + 1) fun zv19 =>
  ltI (zx2 + 1) fun zv20 =>
  some (.inl (zv19, zv20)))))
def sRef_fitsOf (N : Nat) (a1 : Int32) (M : Mm) : Option Int32 :=
  (itr (fun z : Int32 × Int32 => LRef_fitsOf_4_21 N a1 M z.1 z.2) N (0, 0)).bind fun zv22 =>
  some zv22
set_option maxHeartbeats 4000000 in
set_option maxRecDepth 100000 in
theorem cRef_fitsOf (l : Launch) (D : va_G) (cI : ClassId) (h : Nat → Nat) (N : Nat) (a1 : Int32) (M : Mm) (r : Int32) (zhs : sRef_fitsOf N a1 M = some r) : CtI l yX12_fitsOf cX12_fitsOf 6 (some .int) 1 D cI (wR h cI M) (wR h cI M) [.ref (h 0), .int a1] r := by
  unfold sRef_fitsOf at zhs
  refine CtI_of (by decide +kernel) (Nat.le_of_ble_eq_true rfl) ⟨_, rfl⟩ ?_
  intro p e s m args below meth c A Q zls zH zlocs C zhw zhl zhret
  have zhx := C.1
  have zhb := C.2.1
  have zhown := C.2.2.2.2.1
  have zhtB := C.2.2.2.2.2.2.1
  have zhl : lv_has zls 6 [(0, .ref (h 0)), (1, .int a1)] := zhl
  refine lv_iconst (v := 0) zhx zhb dX12_fitsOf_0 (by decide) ?_
  refine lv_istore_n (lv' := [(2, .int 0), (0, .ref (h 0)), (1, .int a1)]) zhx zhb dX12_fitsOf_1 rfl zhl (by decide) rfl (fun zls zhl => ?_)
  refine lv_iconst (v := 0) zhx zhb dX12_fitsOf_2 (by decide) ?_
  refine lv_istore_n (lv' := [(3, .int 0), (2, .int 0), (0, .ref (h 0)), (1, .int a1)]) zhx zhb dX12_fitsOf_3 rfl zhl (by decide) rfl (fun zls zhl => ?_)
  obtain ⟨zq21, zhq21, zhs⟩ := bnd_e zhs
  have hloop21 : ∀ (zn : Nat) (zx1 : Int32) (zx2 : Int32) (zq : (Int32)), itr (fun z : Int32 × Int32 => LRef_fitsOf_4_21 N a1 M z.1 z.2) zn (zx1, zx2) = some zq → (∀ (zy1 : Int32), zy1 = zq → ∀ (zH : Heap) (zlocs : List Loc) (zls : Array Slot), lv_has zls 6 [(2, .int zy1)] → Hw D (wR h cI M) A s.heap zH zlocs → W p l e (RM 1) s m args below meth c zH zlocs 0 0 Q (F0 m 74 zls [])) → ∀ (zH : Heap) (zlocs : List Loc) (zls : Array Slot), lv_has zls 6 [(3, .int zx2), (2, .int zx1), (0, .ref (h 0)), (1, .int a1)] → Hw D (wR h cI M) A s.heap zH zlocs → W p l e (RM 1) s m args below meth c zH zlocs 0 0 Q (F0 m 4 zls []) := by
    intro zn
    induction zn with
    | zero => intro zx1 zx2 zq zhq; exact absurd zhq (fun h9 => itr_0 h9)
    | succ zn zih =>
        intro zx1 zx2 zq zhq k4_74 zH zlocs zls zhl zhw
        obtain ⟨zy9, zhs, zhq⟩ := itr_s zhq
        replace zhs : LRef_fitsOf_4_21 N a1 M zx1 zx2 = some zy9 := zhs
        unfold LRef_fitsOf_4_21 at zhs
        refine lv_iload_n zhx zhb dX12_fitsOf_4 rfl (lv_at zhl 0 rfl) ?_
        refine lv_aload_n zhx zhb dX12_fitsOf_5 rfl (lv_at zhl 2 rfl) ?_
        refine x_get C zhw inlX12 rfl 0 29 (by decide) kw_9_17 rfl (wR_c0 h cI M) rfl dX12_fitsOf_6 ?_
        refine lv_icmp_ge (tgt := 74) zhx zhb dX12_fitsOf_9 (by decide) (fun zc9 => ?_) (fun zc9 => ?_)
        · replace zhs := br_T zhs zc9
          cases zhs
          exact k4_74 zx1 (itk_q zhq) zH zlocs zls (lv_sub zhl [1] rfl) zhw
        · replace zhs := br_F zhs zc9
          refine lv_iload_n zhx zhb dX12_fitsOf_12 rfl (lv_at zhl 3 rfl) ?_
          refine lv_aload_n zhx zhb dX12_fitsOf_13 rfl (lv_at zhl 2 rfl) ?_
          refine x_get C zhw inlX12 rfl 0 30 (by decide) kw_9_6 rfl (wR_c0 h cI M) rfl dX12_fitsOf_14 ?_
          refine lv_iconst (v := 2) zhx zhb dX12_fitsOf_17 (by decide) ?_
          refine lv_iload_n zhx zhb dX12_fitsOf_18 rfl (lv_at zhl 0 rfl) ?_
          refine lv_imul zhx zhb dX12_fitsOf_19 ?_
          obtain ⟨zv12, ze9, zhi, zhs⟩ := rdc_v zhs
          refine x_iald C zhw 28 (wR_c28 h cI M) zhi dX12_fitsOf_20 ?_
          refine lv_topi (fun zy9 ze8 => ?_)
          obtain rfl : zv12 = zy9 := ze9.trans ze8.symm
          clear ze9 ze8
          refine lv_iadd zhx zhb dX12_fitsOf_21 ?_
          obtain ⟨zv13, ze9, zhs⟩ := ltI_e zhs
          refine lv_topi (fun zy9 ze8 => ?_)
          obtain rfl : zv13 = zy9 := ze9.trans ze8.symm
          clear ze9 ze8
          refine lv_istore (lv' := [(4, .int zv13), (3, .int zx2), (2, .int zx1), (0, .ref (h 0)), (1, .int a1)]) zhx zhb dX12_fitsOf_22 zhl (by decide) rfl (fun zls zhl => ?_)
          refine lv_aload_n zhx zhb dX12_fitsOf_24 rfl (lv_at zhl 3 rfl) ?_
          refine x_get C zhw inlX12 rfl 0 30 (by decide) kw_9_6 rfl (wR_c0 h cI M) rfl dX12_fitsOf_25 ?_
          refine lv_iconst (v := 2) zhx zhb dX12_fitsOf_28 (by decide) ?_
          refine lv_iload_n zhx zhb dX12_fitsOf_29 rfl (lv_at zhl 1 rfl) ?_
          refine lv_imul zhx zhb dX12_fitsOf_30 ?_
          refine lv_iconst (v := 1) zhx zhb dX12_fitsOf_31 (by decide) ?_
          refine lv_iadd zhx zhb dX12_fitsOf_32 ?_
          obtain ⟨zv14, ze9, zhi, zhs⟩ := rdc_v zhs
          refine x_iald C zhw 28 (wR_c28 h cI M) zhi dX12_fitsOf_33 ?_
          refine lv_topi (fun zy9 ze8 => ?_)
          obtain rfl : zv14 = zy9 := ze9.trans ze8.symm
          clear ze9 ze8
          refine lv_istore (lv' := [(5, .int zv14), (4, .int zv13), (3, .int zx2), (2, .int zx1), (0, .ref (h 0)), (1, .int a1)]) zhx zhb dX12_fitsOf_34 zhl (by decide) rfl (fun zls zhl => ?_)
          refine lv_iload_n zhx zhb dX12_fitsOf_36 rfl (lv_at zhl 3 rfl) ?_
          refine lv_iload zhx zhb dX12_fitsOf_37 (lv_at zhl 1 rfl) ?_
          refine lv_iload zhx zhb dX12_fitsOf_39 (lv_at zhl 0 rfl) ?_
          refine lv_imul zhx zhb dX12_fitsOf_41 ?_
          refine lv_sipush (v := 2400) zhx zhb dX12_fitsOf_42 (by decide) ?_
          refine lv_icmp_lt (tgt := 65) zhx zhb dX12_fitsOf_45 (by decide) (fun zc9 => ?_) (fun zc9 => ?_)
          · replace zhs := br_T zhs zc9
            refine lv_iconst (v := 0) zhx zhb dX12_fitsOf_65 (by decide) ?_
            refine lv_iadd zhx zhb dX12_fitsOf_66 ?_
            obtain ⟨zv15, ze9, zhs⟩ := ltI_e zhs
            refine lv_topi (fun zy9 ze8 => ?_)
            obtain rfl : zv15 = zy9 := ze9.trans ze8.symm
            clear ze9 ze8
            refine lv_istore_n (lv' := [(2, .int zv15), (5, .int zv14), (4, .int zv13), (3, .int zx2), (0, .ref (h 0)), (1, .int a1)]) zhx zhb dX12_fitsOf_67 rfl zhl (by decide) rfl (fun zls zhl => ?_)
            obtain ⟨zv16, ze9, zhs⟩ := ltI_e zhs
            refine lv_iinc (v := zv16) (lv' := [(3, .int zv16), (2, .int zv15), (5, .int zv14), (4, .int zv13), (0, .ref (h 0)), (1, .int a1)]) zhx zhb dX12_fitsOf_68 zhl (k := 3) rfl (by rw [ze9]; rfl) (by decide) rfl (fun zls zhl => ?_)
            clear ze9
            refine lv_goto (tgt := 4) zhx zhb dX12_fitsOf_71 (by decide) ?_
            cases zhs
            exact zih zv15 zv16 zq (itk_l zhq) k4_74 zH zlocs zls (lv_sub zhl [0, 1, 4, 5] rfl) zhw
          · replace zhs := br_F zhs zc9
            refine lv_iload zhx zhb dX12_fitsOf_48 (lv_at zhl 1 rfl) ?_
            refine lv_iload zhx zhb dX12_fitsOf_50 (lv_at zhl 0 rfl) ?_
            refine lv_iconst (v := 1) zhx zhb dX12_fitsOf_52 (by decide) ?_
            refine lv_isub zhx zhb dX12_fitsOf_53 ?_
            refine lv_imul zhx zhb dX12_fitsOf_54 ?_
            refine lv_sipush (v := 2400) zhx zhb dX12_fitsOf_55 (by decide) ?_
            refine lv_icmp_ge (tgt := 65) zhx zhb dX12_fitsOf_58 (by decide) (fun zc9 => ?_) (fun zc9 => ?_)
            · replace zhs := br_T zhs zc9
              refine lv_iconst (v := 0) zhx zhb dX12_fitsOf_65 (by decide) ?_
              refine lv_iadd zhx zhb dX12_fitsOf_66 ?_
              obtain ⟨zv17, ze9, zhs⟩ := ltI_e zhs
              refine lv_topi (fun zy9 ze8 => ?_)
              obtain rfl : zv17 = zy9 := ze9.trans ze8.symm
              clear ze9 ze8
              refine lv_istore_n (lv' := [(2, .int zv17), (5, .int zv14), (4, .int zv13), (3, .int zx2), (0, .ref (h 0)), (1, .int a1)]) zhx zhb dX12_fitsOf_67 rfl zhl (by decide) rfl (fun zls zhl => ?_)
              obtain ⟨zv18, ze9, zhs⟩ := ltI_e zhs
              refine lv_iinc (v := zv18) (lv' := [(3, .int zv18), (2, .int zv17), (5, .int zv14), (4, .int zv13), (0, .ref (h 0)), (1, .int a1)]) zhx zhb dX12_fitsOf_68 zhl (k := 3) rfl (by rw [ze9]; rfl) (by decide) rfl (fun zls zhl => ?_)
              clear ze9
              refine lv_goto (tgt := 4) zhx zhb dX12_fitsOf_71 (by decide) ?_
              cases zhs
              exact zih zv17 zv18 zq (itk_l zhq) k4_74 zH zlocs zls (lv_sub zhl [0, 1, 4, 5] rfl) zhw
            · replace zhs := br_F zhs zc9
              refine lv_iconst (v := 1) zhx zhb dX12_fitsOf_61 (by decide) ?_
              refine lv_goto (tgt := 66) zhx zhb dX12_fitsOf_62 (by decide) ?_
              refine lv_iadd zhx zhb dX12_fitsOf_66 ?_
              obtain ⟨zv19, ze9, zhs⟩ := ltI_e zhs
              refine lv_topi (fun zy9 ze8 => ?_)
              obtain rfl : zv19 = zy9 := ze9.trans ze8.symm
              clear ze9 ze8
              refine lv_istore_n (lv' := [(2, .int zv19), (5, .int zv14), (4, .int zv13), (3, .int zx2), (0, .ref (h 0)), (1, .int a1)]) zhx zhb dX12_fitsOf_67 rfl zhl (by decide) rfl (fun zls zhl => ?_)
              obtain ⟨zv20, ze9, zhs⟩ := ltI_e zhs
              refine lv_iinc (v := zv20) (lv' := [(3, .int zv20), (2, .int zv19), (5, .int zv14), (4, .int zv13), (0, .ref (h 0)), (1, .int a1)]) zhx zhb dX12_fitsOf_68 zhl (k := 3) rfl (by rw [ze9]; rfl) (by decide) rfl (fun zls zhl => ?_)
              clear ze9
              refine lv_goto (tgt := 4) zhx zhb dX12_fitsOf_71 (by decide) ?_
              cases zhs
              exact zih zv19 zv20 zq (itk_l zhq) k4_74 zH zlocs zls (lv_sub zhl [0, 1, 4, 5] rfl) zhw
  refine hloop21 N 0 0 zq21 zhq21 (fun zv22 zhqe zH zlocs zls zhl zhw => ?_) zH zlocs zls zhl zhw
  · subst zhqe
    refine lv_iload_n zhx zhb dX12_fitsOf_74 rfl (lv_at zhl 0 rfl) ?_
    cases zhs
    exact zhret _ _ _ _ dX12_fitsOf_75 (by rfl) zhw

-- OffFirstModel.law in (0, ())
def LRef_law_16_12 (N : Nat) (M : Mm) (zx2 : Int32) (zx3 : Int32) : Option ((Int32 × Int32) ⊕ ((Int32))) :=
  (if 41 ≤ zx3 then some (.inr zx2)
  else (sRef_fitsOf N zx3 M).bind fun zv8 =>
  (sRef_fitsOf N zx2 M).bind fun zv9 =>
  (if zv8 ≤ zv9 then ltI (zx3 + 1) fun zv10 =>
  some (.inl (zx2, zv10))
  else ltI (zx3 + 1) fun zv11 =>
  some (.inl (zx3, zv11))))
def sRef_law (N : Nat) (a1 : Int32) (M : Mm) : Option Int32 :=
  (sRef_in (Int32.toInt64 a1) 0 1).bind fun zv1 =>
  (if zv1 = 0 then some (-1)
  else (itr (fun z : Int32 × Int32 => LRef_law_16_12 N M z.1 z.2) N (0, 1)).bind fun zv13 =>
  (if a1 = 0 then (sRef_fitsOf N zv13 M).bind fun zv15 =>
  some zv15
  else some zv13))
set_option maxHeartbeats 4000000 in
set_option maxRecDepth 100000 in
theorem cRef_law (l : Launch) (D : va_G) (cI : ClassId) (h : Nat → Nat) (N : Nat) (a1 : Int32) (M : Mm) (r : Int32) (zhs : sRef_law N a1 M = some r) : CtI l yX12_law cX12_law 4 (some .int) 2 D cI (wR h cI M) (wR h cI M) [.ref (h 0), .int a1] r := by
  unfold sRef_law at zhs
  refine CtI_of (by decide +kernel) (Nat.le_of_ble_eq_true rfl) ⟨_, rfl⟩ ?_
  intro p e s m args below meth c A Q zls zH zlocs C zhw zhl zhret
  have zhx := C.1
  have zhb := C.2.1
  have zhown := C.2.2.2.2.1
  have zhtB := C.2.2.2.2.2.2.1
  have zhl : lv_has zls 4 [(0, .ref (h 0)), (1, .int a1)] := zhl
  refine lv_iload_n zhx zhb dX12_law_0 rfl (lv_at zhl 1 rfl) ?_
  refine lv_i2l zhx zhb dX12_law_1 rfl ?_
  refine lv_lconst (v := 0) zhx zhb dX12_law_2 (by decide) ?_
  refine lv_lconst (v := 1) zhx zhb dX12_law_3 (by decide) ?_
  obtain ⟨zv1, zhp, zhs⟩ := bnd_e zhs
  refine x_cSI (As := [.long (Int32.toInt64 a1), .long 0, .long 1]) (rest := []) C zhw zhl (cRef_in l D cI h (Int32.toInt64 a1) 0 1 M zv1 zhp) (by decide) (by decide) kw_10_14 kw_10_15 kw_1_5 kw_10_16 md_X12_in rfl rfl (Nat.le_of_ble_eq_true rfl) dX12_law_4 (fun zH zlocs zhw hzv1 => ?_)
  refine lv_if_ne (tgt := 12) zhx zhb dX12_law_7 (by decide) (fun zc9 => ?_) (fun zc9 => ?_)
  · replace zhs := br_F zhs zc9
    refine lv_iconst (v := 0) zhx zhb dX12_law_12 (by decide) ?_
    refine lv_istore_n (lv' := [(2, .int 0), (0, .ref (h 0)), (1, .int a1)]) zhx zhb dX12_law_13 rfl zhl (by decide) rfl (fun zls zhl => ?_)
    refine lv_iconst (v := 1) zhx zhb dX12_law_14 (by decide) ?_
    refine lv_istore_n (lv' := [(3, .int 1), (2, .int 0), (0, .ref (h 0)), (1, .int a1)]) zhx zhb dX12_law_15 rfl zhl (by decide) rfl (fun zls zhl => ?_)
    obtain ⟨zq12, zhq12, zhs⟩ := bnd_e zhs
    have hloop12 : ∀ (zn : Nat) (zx2 : Int32) (zx3 : Int32) (zq : (Int32)), itr (fun z : Int32 × Int32 => LRef_law_16_12 N M z.1 z.2) zn (zx2, zx3) = some zq → (∀ (zy1 : Int32), zy1 = zq → ∀ (zH : Heap) (zlocs : List Loc) (zls : Array Slot), lv_has zls 4 [(2, .int zy1), (0, .ref (h 0)), (1, .int a1)] → Hw D (wR h cI M) A s.heap zH zlocs → W p l e (RM 2) s m args below meth c zH zlocs 0 0 Q (F0 m 47 zls [])) → ∀ (zH : Heap) (zlocs : List Loc) (zls : Array Slot), lv_has zls 4 [(3, .int zx3), (2, .int zx2), (0, .ref (h 0)), (1, .int a1)] → Hw D (wR h cI M) A s.heap zH zlocs → W p l e (RM 2) s m args below meth c zH zlocs 0 0 Q (F0 m 16 zls []) := by
      intro zn
      induction zn with
      | zero => intro zx2 zx3 zq zhq; exact absurd zhq (fun h9 => itr_0 h9)
      | succ zn zih =>
          intro zx2 zx3 zq zhq k16_47 zH zlocs zls zhl zhw
          obtain ⟨zy9, zhs, zhq⟩ := itr_s zhq
          replace zhs : LRef_law_16_12 N M zx2 zx3 = some zy9 := zhs
          unfold LRef_law_16_12 at zhs
          refine lv_iload_n zhx zhb dX12_law_16 rfl (lv_at zhl 0 rfl) ?_
          refine lv_bipush (v := 41) zhx zhb dX12_law_17 (by decide) ?_
          refine lv_icmp_ge (tgt := 47) zhx zhb dX12_law_19 (by decide) (fun zc9 => ?_) (fun zc9 => ?_)
          · replace zhs := br_T zhs zc9
            cases zhs
            exact k16_47 zx2 (itk_q zhq) zH zlocs zls (lv_sub zhl [1, 2, 3] rfl) zhw
          · replace zhs := br_F zhs zc9
            refine lv_aload_n zhx zhb dX12_law_22 rfl (lv_at zhl 2 rfl) ?_
            refine lv_iload_n zhx zhb dX12_law_23 rfl (lv_at zhl 0 rfl) ?_
            obtain ⟨zv8, zhp, zhs⟩ := bnd_e zhs
            refine x_cVI (As := [.int zx3]) (rest := []) C zhw zhl (cRef_fitsOf l D cI h N zx3 M zv8 zhp) (by decide) (by decide) kw_43_0 kw_43_1 kw_43_2 kw_1_5 kw_43_3 md_X12_fitsOf rfl 0 (wR_c0 h cI M) rfl rfl rfl rfl (Nat.le_of_ble_eq_true rfl) dX12_law_24 (fun zH zlocs zhw hn9 => ?_)
            refine lv_aload_n zhx zhb dX12_law_27 rfl (lv_at zhl 2 rfl) ?_
            refine lv_iload_n zhx zhb dX12_law_28 rfl (lv_at zhl 1 rfl) ?_
            obtain ⟨zv9, zhp, zhs⟩ := bnd_e zhs
            refine x_cVI (As := [.int zx2]) (rest := [.int zv8]) C zhw zhl (cRef_fitsOf l D cI h N zx2 M zv9 zhp) (by decide) (by decide) kw_43_0 kw_43_1 kw_43_2 kw_1_5 kw_43_3 md_X12_fitsOf rfl 0 (wR_c0 h cI M) rfl rfl rfl rfl (Nat.le_of_ble_eq_true rfl) dX12_law_29 (fun zH zlocs zhw hn9 => ?_)
            refine lv_icmp_le (tgt := 39) zhx zhb dX12_law_32 (by decide) (fun zc9 => ?_) (fun zc9 => ?_)
            · replace zhs := br_T zhs zc9
              refine lv_iload_n zhx zhb dX12_law_39 rfl (lv_at zhl 1 rfl) ?_
              refine lv_istore_n (lv' := [(2, .int zx2), (3, .int zx3), (0, .ref (h 0)), (1, .int a1)]) zhx zhb dX12_law_40 rfl zhl (by decide) rfl (fun zls zhl => ?_)
              obtain ⟨zv10, ze9, zhs⟩ := ltI_e zhs
              refine lv_iinc (v := zv10) (lv' := [(3, .int zv10), (2, .int zx2), (0, .ref (h 0)), (1, .int a1)]) zhx zhb dX12_law_41 zhl (k := 1) rfl (by rw [ze9]; rfl) (by decide) rfl (fun zls zhl => ?_)
              clear ze9
              refine lv_goto (tgt := 16) zhx zhb dX12_law_44 (by decide) ?_
              cases zhs
              exact zih zx2 zv10 zq (itk_l zhq) k16_47 zH zlocs zls zhl zhw
            · replace zhs := br_F zhs zc9
              refine lv_iload_n zhx zhb dX12_law_35 rfl (lv_at zhl 0 rfl) ?_
              refine lv_goto (tgt := 40) zhx zhb dX12_law_36 (by decide) ?_
              refine lv_istore_n (lv' := [(2, .int zx3), (3, .int zx3), (0, .ref (h 0)), (1, .int a1)]) zhx zhb dX12_law_40 rfl zhl (by decide) rfl (fun zls zhl => ?_)
              obtain ⟨zv11, ze9, zhs⟩ := ltI_e zhs
              refine lv_iinc (v := zv11) (lv' := [(3, .int zv11), (2, .int zx3), (0, .ref (h 0)), (1, .int a1)]) zhx zhb dX12_law_41 zhl (k := 1) rfl (by rw [ze9]; rfl) (by decide) rfl (fun zls zhl => ?_)
              clear ze9
              refine lv_goto (tgt := 16) zhx zhb dX12_law_44 (by decide) ?_
              cases zhs
              exact zih zx3 zv11 zq (itk_l zhq) k16_47 zH zlocs zls zhl zhw
    refine hloop12 N 0 1 zq12 zhq12 (fun zv13 zhqe zH zlocs zls zhl zhw => ?_) zH zlocs zls zhl zhw
    · subst zhqe
      refine lv_iload_n zhx zhb dX12_law_47 rfl (lv_at zhl 2 rfl) ?_
      refine lv_if_ne (tgt := 59) zhx zhb dX12_law_48 (by decide) (fun zc9 => ?_) (fun zc9 => ?_)
      · replace zhs := br_F zhs zc9
        refine lv_iload_n zhx zhb dX12_law_59 rfl (lv_at zhl 0 rfl) ?_
        cases zhs
        exact zhret _ _ _ _ dX12_law_60 (by rfl) zhw
      · replace zhs := br_T zhs zc9
        refine lv_aload_n zhx zhb dX12_law_51 rfl (lv_at zhl 1 rfl) ?_
        refine lv_iload_n zhx zhb dX12_law_52 rfl (lv_at zhl 0 rfl) ?_
        obtain ⟨zv15, zhp, zhs⟩ := bnd_e zhs
        refine x_cVI (As := [.int zv13]) (rest := []) C zhw zhl (cRef_fitsOf l D cI h N zv13 M zv15 zhp) (by decide) (by decide) kw_43_0 kw_43_1 kw_43_2 kw_1_5 kw_43_3 md_X12_fitsOf rfl 0 (wR_c0 h cI M) rfl rfl rfl rfl (Nat.le_of_ble_eq_true rfl) dX12_law_53 (fun zH zlocs zhw hn9 => ?_)
        refine lv_goto (tgt := 60) zhx zhb dX12_law_56 (by decide) ?_
        cases zhs
        exact zhret _ _ _ _ dX12_law_60 (by rfl) zhw
  · replace zhs := br_T zhs zc9
    refine lv_iconst (v := (-1)) zhx zhb dX12_law_10 (by decide) ?_
    cases zhs
    exact zhret _ _ _ _ dX12_law_11 (by rfl) zhw

-- OffFirstModel.takenBy in (0, ())
def LRef_takenBy_6_29 (N : Nat) (a1 : Int32) (M : Mm) (zx1 : Int32) (zx2 : Int32) : Option ((Int32 × Int32) ⊕ ((Int32))) :=
  rdc 2 (M 7) 0 fun zv16 =>
  (if (10 + zv16) ≤ zx2 then some (.inr zx1)
  else rdc 40 (M 25) zx2 fun zv17 =>
  (if zv17 = 0 then (if zx1 < 0 then ltI (zx2 + 1) fun zv23 =>
  some (.inl (zx2, zv23))
  else (if a1 = 0 then ltI (zx2 + 1) fun zv25 =>
  some (.inl (zx2, zv25))
  else (sRef_isOlder zx2 zx1 M).bind fun zv26 =>
  (if zv26 = 0 then ltI (zx2 + 1) fun zv27 =>
  some (.inl (zx1, zv27))
  else ltI (zx2 + 1) fun zv28 =>
  some (.inl (zx2, zv28)))))
  else ltI (zx2 + 1) fun zv21 =>
  some (.inl (zx1, zv21))))
def sRef_takenBy (N : Nat) (a1 : Int32) (M : Mm) : Option Int32 :=
  (itr (fun z : Int32 × Int32 => LRef_takenBy_6_29 N a1 M z.1 z.2) N ((-4), 10)).bind fun zv30 =>
  some zv30
set_option maxHeartbeats 4000000 in
set_option maxRecDepth 100000 in
theorem cRef_takenBy (l : Launch) (D : va_G) (cI : ClassId) (h : Nat → Nat) (N : Nat) (a1 : Int32) (M : Mm) (r : Int32) (zhs : sRef_takenBy N a1 M = some r) : CtI l yX12_takenBy cX12_takenBy 4 (some .int) 3 D cI (wR h cI M) (wR h cI M) [.ref (h 0), .int a1] r := by
  unfold sRef_takenBy at zhs
  refine CtI_of (by decide +kernel) (Nat.le_of_ble_eq_true rfl) ⟨_, rfl⟩ ?_
  intro p e s m args below meth c A Q zls zH zlocs C zhw zhl zhret
  have zhx := C.1
  have zhb := C.2.1
  have zhown := C.2.2.2.2.1
  have zhtB := C.2.2.2.2.2.2.1
  have zhl : lv_has zls 4 [(0, .ref (h 0)), (1, .int a1)] := zhl
  refine lv_bipush (v := (-4)) zhx zhb dX12_takenBy_0 (by decide) ?_
  refine lv_istore_n (lv' := [(2, .int (-4)), (0, .ref (h 0)), (1, .int a1)]) zhx zhb dX12_takenBy_2 rfl zhl (by decide) rfl (fun zls zhl => ?_)
  refine lv_bipush (v := 10) zhx zhb dX12_takenBy_3 (by decide) ?_
  refine lv_istore_n (lv' := [(3, .int 10), (2, .int (-4)), (0, .ref (h 0)), (1, .int a1)]) zhx zhb dX12_takenBy_5 rfl zhl (by decide) rfl (fun zls zhl => ?_)
  obtain ⟨zq29, zhq29, zhs⟩ := bnd_e zhs
  have hloop29 : ∀ (zn : Nat) (zx1 : Int32) (zx2 : Int32) (zq : (Int32)), itr (fun z : Int32 × Int32 => LRef_takenBy_6_29 N a1 M z.1 z.2) zn (zx1, zx2) = some zq → (∀ (zy1 : Int32), zy1 = zq → ∀ (zH : Heap) (zlocs : List Loc) (zls : Array Slot), lv_has zls 4 [(2, .int zy1)] → Hw D (wR h cI M) A s.heap zH zlocs → W p l e (RM 3) s m args below meth c zH zlocs 0 0 Q (F0 m 57 zls [])) → ∀ (zH : Heap) (zlocs : List Loc) (zls : Array Slot), lv_has zls 4 [(3, .int zx2), (2, .int zx1), (0, .ref (h 0)), (1, .int a1)] → Hw D (wR h cI M) A s.heap zH zlocs → W p l e (RM 3) s m args below meth c zH zlocs 0 0 Q (F0 m 6 zls []) := by
    intro zn
    induction zn with
    | zero => intro zx1 zx2 zq zhq; exact absurd zhq (fun h9 => itr_0 h9)
    | succ zn zih =>
        intro zx1 zx2 zq zhq k6_57 zH zlocs zls zhl zhw
        obtain ⟨zy9, zhs, zhq⟩ := itr_s zhq
        replace zhs : LRef_takenBy_6_29 N a1 M zx1 zx2 = some zy9 := zhs
        unfold LRef_takenBy_6_29 at zhs
        refine lv_iload_n zhx zhb dX12_takenBy_6 rfl (lv_at zhl 0 rfl) ?_
        refine lv_bipush (v := 10) zhx zhb dX12_takenBy_7 (by decide) ?_
        refine lv_aload_n zhx zhb dX12_takenBy_9 rfl (lv_at zhl 2 rfl) ?_
        refine x_get C zhw inlX12 rfl 0 7 (by decide) kw_8_9 rfl (wR_c0 h cI M) rfl dX12_takenBy_10 ?_
        refine lv_iconst (v := 0) zhx zhb dX12_takenBy_13 (by decide) ?_
        obtain ⟨zv16, ze9, zhi, zhs⟩ := rdc_v zhs
        refine x_iald C zhw 7 (wR_c7 h cI M) zhi dX12_takenBy_14 ?_
        refine lv_topi (fun zy9 ze8 => ?_)
        obtain rfl : zv16 = zy9 := ze9.trans ze8.symm
        clear ze9 ze8
        refine lv_iadd zhx zhb dX12_takenBy_15 ?_
        refine lv_icmp_ge (tgt := 57) zhx zhb dX12_takenBy_16 (by decide) (fun zc9 => ?_) (fun zc9 => ?_)
        · replace zhs := br_T zhs zc9
          cases zhs
          exact k6_57 zx1 (itk_q zhq) zH zlocs zls (lv_sub zhl [1] rfl) zhw
        · replace zhs := br_F zhs zc9
          refine lv_aload_n zhx zhb dX12_takenBy_19 rfl (lv_at zhl 2 rfl) ?_
          refine x_get C zhw inlX12 rfl 0 25 (by decide) kw_9_3 rfl (wR_c0 h cI M) rfl dX12_takenBy_20 ?_
          refine lv_iload_n zhx zhb dX12_takenBy_23 rfl (lv_at zhl 0 rfl) ?_
          obtain ⟨zv17, ze9, zhi, zhs⟩ := rdc_v zhs
          refine x_iald C zhw 25 (wR_c25 h cI M) zhi dX12_takenBy_24 ?_
          refine lv_topi (fun zy9 ze8 => ?_)
          obtain rfl : zv17 = zy9 := ze9.trans ze8.symm
          clear ze9 ze8
          refine lv_if_ne (tgt := 51) zhx zhb dX12_takenBy_25 (by decide) (fun zc9 => ?_) (fun zc9 => ?_)
          · replace zhs := br_F zhs zc9
            obtain ⟨zv21, ze9, zhs⟩ := ltI_e zhs
            refine lv_iinc (v := zv21) (lv' := [(3, .int zv21), (2, .int zx1), (0, .ref (h 0)), (1, .int a1)]) zhx zhb dX12_takenBy_51 zhl (k := 0) rfl (by rw [ze9]; rfl) (by decide) rfl (fun zls zhl => ?_)
            clear ze9
            refine lv_goto (tgt := 6) zhx zhb dX12_takenBy_54 (by decide) ?_
            cases zhs
            exact zih zx1 zv21 zq (itk_l zhq) k6_57 zH zlocs zls zhl zhw
          · replace zhs := br_T zhs zc9
            refine lv_iload_n zhx zhb dX12_takenBy_28 rfl (lv_at zhl 1 rfl) ?_
            refine lv_if_lt (tgt := 45) zhx zhb dX12_takenBy_29 (by decide) (fun zc9 => ?_) (fun zc9 => ?_)
            · replace zhs := br_T zhs zc9
              refine lv_iload_n zhx zhb dX12_takenBy_45 rfl (lv_at zhl 0 rfl) ?_
              refine lv_goto (tgt := 50) zhx zhb dX12_takenBy_46 (by decide) ?_
              refine lv_istore_n (lv' := [(2, .int zx2), (3, .int zx2), (0, .ref (h 0)), (1, .int a1)]) zhx zhb dX12_takenBy_50 rfl zhl (by decide) rfl (fun zls zhl => ?_)
              obtain ⟨zv23, ze9, zhs⟩ := ltI_e zhs
              refine lv_iinc (v := zv23) (lv' := [(3, .int zv23), (2, .int zx2), (0, .ref (h 0)), (1, .int a1)]) zhx zhb dX12_takenBy_51 zhl (k := 1) rfl (by rw [ze9]; rfl) (by decide) rfl (fun zls zhl => ?_)
              clear ze9
              refine lv_goto (tgt := 6) zhx zhb dX12_takenBy_54 (by decide) ?_
              cases zhs
              exact zih zx2 zv23 zq (itk_l zhq) k6_57 zH zlocs zls zhl zhw
            · replace zhs := br_F zhs zc9
              refine lv_iload_n zhx zhb dX12_takenBy_32 rfl (lv_at zhl 3 rfl) ?_
              refine lv_if_eq (tgt := 45) zhx zhb dX12_takenBy_33 (by decide) (fun zc9 => ?_) (fun zc9 => ?_)
              · replace zhs := br_T zhs zc9
                refine lv_iload_n zhx zhb dX12_takenBy_45 rfl (lv_at zhl 0 rfl) ?_
                refine lv_goto (tgt := 50) zhx zhb dX12_takenBy_46 (by decide) ?_
                refine lv_istore_n (lv' := [(2, .int zx2), (3, .int zx2), (0, .ref (h 0)), (1, .int a1)]) zhx zhb dX12_takenBy_50 rfl zhl (by decide) rfl (fun zls zhl => ?_)
                obtain ⟨zv25, ze9, zhs⟩ := ltI_e zhs
                refine lv_iinc (v := zv25) (lv' := [(3, .int zv25), (2, .int zx2), (0, .ref (h 0)), (1, .int a1)]) zhx zhb dX12_takenBy_51 zhl (k := 1) rfl (by rw [ze9]; rfl) (by decide) rfl (fun zls zhl => ?_)
                clear ze9
                refine lv_goto (tgt := 6) zhx zhb dX12_takenBy_54 (by decide) ?_
                cases zhs
                exact zih zx2 zv25 zq (itk_l zhq) k6_57 zH zlocs zls zhl zhw
              · replace zhs := br_F zhs zc9
                refine lv_aload_n zhx zhb dX12_takenBy_36 rfl (lv_at zhl 2 rfl) ?_
                refine lv_iload_n zhx zhb dX12_takenBy_37 rfl (lv_at zhl 0 rfl) ?_
                refine lv_iload_n zhx zhb dX12_takenBy_38 rfl (lv_at zhl 1 rfl) ?_
                obtain ⟨zv26, zhp, zhs⟩ := bnd_e zhs
                refine x_cVI (As := [.int zx2, .int zx1]) (rest := []) C zhw zhl (cRef_isOlder l D cI h zx2 zx1 M zv26 zhp) (by decide) (by decide) kw_33_1 kw_33_2 kw_33_3 kw_1_5 kw_33_4 md_X12_isOlder rfl 0 (wR_c0 h cI M) rfl rfl rfl rfl (Nat.le_of_ble_eq_true rfl) dX12_takenBy_39 (fun zH zlocs zhw hzv26 => ?_)
                refine lv_if_eq (tgt := 49) zhx zhb dX12_takenBy_42 (by decide) (fun zc9 => ?_) (fun zc9 => ?_)
                · replace zhs := br_T zhs zc9
                  refine lv_iload_n zhx zhb dX12_takenBy_49 rfl (lv_at zhl 1 rfl) ?_
                  refine lv_istore_n (lv' := [(2, .int zx1), (3, .int zx2), (0, .ref (h 0)), (1, .int a1)]) zhx zhb dX12_takenBy_50 rfl zhl (by decide) rfl (fun zls zhl => ?_)
                  obtain ⟨zv27, ze9, zhs⟩ := ltI_e zhs
                  refine lv_iinc (v := zv27) (lv' := [(3, .int zv27), (2, .int zx1), (0, .ref (h 0)), (1, .int a1)]) zhx zhb dX12_takenBy_51 zhl (k := 1) rfl (by rw [ze9]; rfl) (by decide) rfl (fun zls zhl => ?_)
                  clear ze9
                  refine lv_goto (tgt := 6) zhx zhb dX12_takenBy_54 (by decide) ?_
                  cases zhs
                  exact zih zx1 zv27 zq (itk_l zhq) k6_57 zH zlocs zls zhl zhw
                · replace zhs := br_F zhs zc9
                  refine lv_iload_n zhx zhb dX12_takenBy_45 rfl (lv_at zhl 0 rfl) ?_
                  refine lv_goto (tgt := 50) zhx zhb dX12_takenBy_46 (by decide) ?_
                  refine lv_istore_n (lv' := [(2, .int zx2), (3, .int zx2), (0, .ref (h 0)), (1, .int a1)]) zhx zhb dX12_takenBy_50 rfl zhl (by decide) rfl (fun zls zhl => ?_)
                  obtain ⟨zv28, ze9, zhs⟩ := ltI_e zhs
                  refine lv_iinc (v := zv28) (lv' := [(3, .int zv28), (2, .int zx2), (0, .ref (h 0)), (1, .int a1)]) zhx zhb dX12_takenBy_51 zhl (k := 1) rfl (by rw [ze9]; rfl) (by decide) rfl (fun zls zhl => ?_)
                  clear ze9
                  refine lv_goto (tgt := 6) zhx zhb dX12_takenBy_54 (by decide) ?_
                  cases zhs
                  exact zih zx2 zv28 zq (itk_l zhq) k6_57 zH zlocs zls zhl zhw
  refine hloop29 N (-4) 10 zq29 zhq29 (fun zv30 zhqe zH zlocs zls zhl zhw => ?_) zH zlocs zls zhl zhw
  · subst zhqe
    refine lv_iload_n zhx zhb dX12_takenBy_57 rfl (lv_at zhl 0 rfl) ?_
    cases zhs
    exact zhret _ _ _ _ dX12_takenBy_58 (by rfl) zhw

-- OffFirstModel.habit in (0, ())
def LRef_habit_48_62 (N : Nat) (a1 : Int32) (a2 : Int32) (a3 : Int32) (zx5 : Int32) (zx6 : Int32) (zM7 : Mm) : Option ((Int32 × Int32 × Mm) ⊕ ((Int32 × Mm))) :=
  (if a2 ≤ zx6 then some (.inr (zx5, zM7))
  else (((if zx6 ≤ 0 then some zM7
  else (sRef_goHour N 1 zM7).bind fun zM38 =>
  some zM38) : Option (Mm))).bind fun zM36 =>
  (sRef_goToEvening N zM36).bind fun zM39 =>
  ltL (((7919 * (Int32.toInt64 a1)) + (6151 * (Int32.toInt64 zx6))) + 1) fun zv40 =>
  (((if (lg_cmp (remL (remL (zv40 * zv40) 65521) 3) 0) = 0 then some (-4)
  else (sRef_takenBy N a3 zM39).bind fun zv44 =>
  some zv44) : Option (Int32))).bind fun zv42 =>
  (if zv42 < 0 then ltI (zx6 + 1) fun zv52 =>
  some (.inl (zx5, zv52, zM39))
  else (sRef_isOff zv42 zM39).bind fun zv53 =>
  (if zv53 = 0 then ltI (zx5 + 0) fun zv55 =>
  inc 40 zv42 <| ltM (mset zM39 25 (Int32.toNatClampNeg zv42) 1) fun zM56 =>
  ltI (zx6 + 1) fun zv57 =>
  some (.inl (zv55, zv57, zM56))
  else rdc 20 (zM39 10) (zv42 - 10) fun zv58 =>
  ltI (zx5 + zv58) fun zv59 =>
  inc 40 zv42 <| ltM (mset zM39 25 (Int32.toNatClampNeg zv42) 1) fun zM60 =>
  ltI (zx6 + 1) fun zv61 =>
  some (.inl (zv59, zv61, zM60)))))
def sRef_habit (N : Nat) (a1 : Int32) (a2 : Int32) (a3 : Int32) (M : Mm) : Option (Int32 × Mm) :=
  (sRef_in (Int32.toInt64 a1) 0 9999).bind fun zv1 =>
  (if zv1 = 0 then some ((-1), M)
  else (sRef_in (Int32.toInt64 a2) 1 20).bind fun zv2 =>
  (if zv2 = 0 then some ((-1), M)
  else (sRef_in (Int32.toInt64 a3) 0 1).bind fun zv3 =>
  (if zv3 = 0 then some ((-1), M)
  else (sRef_copy N 0 1 M).bind fun zM4 =>
  (itr (fun z : Int32 × Int32 × Mm => LRef_habit_48_62 N a1 a2 a3 z.1 z.2.1 z.2.2) N (0, 0, zM4)).bind fun (zv63, zM64) =>
  (sRef_offCoin N 1 zM64).bind fun zv65 =>
  some (zv63 + zv65, zM64))))
set_option maxHeartbeats 4000000 in
set_option maxRecDepth 100000 in
theorem cRef_habit (l : Launch) (D : va_G) (cI : ClassId) (h : Nat → Nat) (N : Nat) (a1 : Int32) (a2 : Int32) (a3 : Int32) (M : Mm) (r : Int32) (M' : Mm) (zhs : sRef_habit N a1 a2 a3 M = some (r, M')) : CtI l yX12_habit cX12_habit 9 (some .int) 5 D cI (wR h cI M) (wR h cI M') [.ref (h 0), .int a1, .int a2, .int a3] r := by
  unfold sRef_habit at zhs
  refine CtI_of (by decide +kernel) (Nat.le_of_ble_eq_true rfl) ⟨_, rfl⟩ ?_
  intro p e s m args below meth c A Q zls zH zlocs C zhw zhl zhret
  have zhx := C.1
  have zhb := C.2.1
  have zhown := C.2.2.2.2.1
  have zhtB := C.2.2.2.2.2.2.1
  have zhl : lv_has zls 9 [(0, .ref (h 0)), (1, .int a1), (2, .int a2), (3, .int a3)] := zhl
  refine lv_iload_n zhx zhb dX12_habit_0 rfl (lv_at zhl 1 rfl) ?_
  refine lv_i2l zhx zhb dX12_habit_1 rfl ?_
  refine lv_lconst (v := 0) zhx zhb dX12_habit_2 (by decide) ?_
  refine lv_ldc2 zhx zhb zhown (zhtB _ kw_44_7) dX12_habit_3 ?_
  obtain ⟨zv1, zhp, zhs⟩ := bnd_e zhs
  refine x_cSI (As := [.long (Int32.toInt64 a1), .long 0, .long 9999]) (rest := []) C zhw zhl (cRef_in l D cI h (Int32.toInt64 a1) 0 9999 M zv1 zhp) (by decide) (by decide) kw_10_14 kw_10_15 kw_1_5 kw_10_16 md_X12_in rfl rfl (Nat.le_of_ble_eq_true rfl) dX12_habit_6 (fun zH zlocs zhw hzv1 => ?_)
  refine lv_if_eq (tgt := 34) zhx zhb dX12_habit_9 (by decide) (fun zc9 => ?_) (fun zc9 => ?_)
  · replace zhs := br_T zhs zc9
    refine lv_iconst (v := (-1)) zhx zhb dX12_habit_34 (by decide) ?_
    cases zhs
    exact zhret _ _ _ _ dX12_habit_35 (by rfl) zhw
  · replace zhs := br_F zhs zc9
    refine lv_iload_n zhx zhb dX12_habit_12 rfl (lv_at zhl 2 rfl) ?_
    refine lv_i2l zhx zhb dX12_habit_13 rfl ?_
    refine lv_lconst (v := 1) zhx zhb dX12_habit_14 (by decide) ?_
    refine lv_ldc2 zhx zhb zhown (zhtB _ kw_38_22) dX12_habit_15 ?_
    obtain ⟨zv2, zhp, zhs⟩ := bnd_e zhs
    refine x_cSI (As := [.long (Int32.toInt64 a2), .long 1, .long 20]) (rest := []) C zhw zhl (cRef_in l D cI h (Int32.toInt64 a2) 1 20 M zv2 zhp) (by decide) (by decide) kw_10_14 kw_10_15 kw_1_5 kw_10_16 md_X12_in rfl rfl (Nat.le_of_ble_eq_true rfl) dX12_habit_18 (fun zH zlocs zhw hzv2 => ?_)
    refine lv_if_eq (tgt := 34) zhx zhb dX12_habit_21 (by decide) (fun zc9 => ?_) (fun zc9 => ?_)
    · replace zhs := br_T zhs zc9
      refine lv_iconst (v := (-1)) zhx zhb dX12_habit_34 (by decide) ?_
      cases zhs
      exact zhret _ _ _ _ dX12_habit_35 (by rfl) zhw
    · replace zhs := br_F zhs zc9
      refine lv_iload_n zhx zhb dX12_habit_24 rfl (lv_at zhl 3 rfl) ?_
      refine lv_i2l zhx zhb dX12_habit_25 rfl ?_
      refine lv_lconst (v := 0) zhx zhb dX12_habit_26 (by decide) ?_
      refine lv_lconst (v := 1) zhx zhb dX12_habit_27 (by decide) ?_
      obtain ⟨zv3, zhp, zhs⟩ := bnd_e zhs
      refine x_cSI (As := [.long (Int32.toInt64 a3), .long 0, .long 1]) (rest := []) C zhw zhl (cRef_in l D cI h (Int32.toInt64 a3) 0 1 M zv3 zhp) (by decide) (by decide) kw_10_14 kw_10_15 kw_1_5 kw_10_16 md_X12_in rfl rfl (Nat.le_of_ble_eq_true rfl) dX12_habit_28 (fun zH zlocs zhw hzv3 => ?_)
      refine lv_if_ne (tgt := 36) zhx zhb dX12_habit_31 (by decide) (fun zc9 => ?_) (fun zc9 => ?_)
      · replace zhs := br_F zhs zc9
        refine lv_aload_n zhx zhb dX12_habit_36 rfl (lv_at zhl 0 rfl) ?_
        refine lv_iconst (v := 0) zhx zhb dX12_habit_37 (by decide) ?_
        refine lv_iconst (v := 1) zhx zhb dX12_habit_38 (by decide) ?_
        obtain ⟨zM4, zhp, zhs⟩ := bnd_e zhs
        refine x_cVV (As := [.int 0, .int 1]) (rest := []) C zhw zhl (cRef_copy l D cI h N 0 1 M zM4 zhp) (by decide) (by decide) kw_28_9 kw_28_10 kw_28_11 kw_1_5 kw_28_12 md_X12_copy rfl 0 (wR_c0 h cI M) rfl rfl rfl rfl (Nat.le_of_ble_eq_true rfl) dX12_habit_39 (fun zH zlocs zhw => ?_)
        refine lv_iconst (v := 0) zhx zhb dX12_habit_42 (by decide) ?_
        refine lv_istore (lv' := [(4, .int 0), (0, .ref (h 0)), (1, .int a1), (2, .int a2), (3, .int a3)]) zhx zhb dX12_habit_43 zhl (by decide) rfl (fun zls zhl => ?_)
        refine lv_iconst (v := 0) zhx zhb dX12_habit_45 (by decide) ?_
        refine lv_istore (lv' := [(5, .int 0), (4, .int 0), (0, .ref (h 0)), (1, .int a1), (2, .int a2), (3, .int a3)]) zhx zhb dX12_habit_46 zhl (by decide) rfl (fun zls zhl => ?_)
        obtain ⟨zq62, zhq62, zhs⟩ := bnd_e zhs
        have hloop62 : ∀ (zn : Nat) (zx5 : Int32) (zx6 : Int32) (zM7 : Mm) (zq : (Int32 × Mm)), itr (fun z : Int32 × Int32 × Mm => LRef_habit_48_62 N a1 a2 a3 z.1 z.2.1 z.2.2) zn (zx5, zx6, zM7) = some zq → (∀ (zy1 : Int32) (zy2 : Mm), (zy1, zy2) = zq → ∀ (zH : Heap) (zlocs : List Loc) (zls : Array Slot), lv_has zls 9 [(4, .int zy1), (0, .ref (h 0))] → Hw D (wR h cI zy2) A s.heap zH zlocs → W p l e (RM 5) s m args below meth c zH zlocs 0 0 Q (F0 m 163 zls [])) → ∀ (zH : Heap) (zlocs : List Loc) (zls : Array Slot), lv_has zls 9 [(5, .int zx6), (4, .int zx5), (0, .ref (h 0)), (1, .int a1), (2, .int a2), (3, .int a3)] → Hw D (wR h cI zM7) A s.heap zH zlocs → W p l e (RM 5) s m args below meth c zH zlocs 0 0 Q (F0 m 48 zls []) := by
          intro zn
          induction zn with
          | zero => intro zx5 zx6 zM7 zq zhq; exact absurd zhq (fun h9 => itr_0 h9)
          | succ zn zih =>
              intro zx5 zx6 zM7 zq zhq k48_163 zH zlocs zls zhl zhw
              obtain ⟨zy9, zhs, zhq⟩ := itr_s zhq
              replace zhs : LRef_habit_48_62 N a1 a2 a3 zx5 zx6 zM7 = some zy9 := zhs
              unfold LRef_habit_48_62 at zhs
              refine lv_iload zhx zhb dX12_habit_48 (lv_at zhl 0 rfl) ?_
              refine lv_iload_n zhx zhb dX12_habit_50 rfl (lv_at zhl 4 rfl) ?_
              refine lv_icmp_ge (tgt := 163) zhx zhb dX12_habit_51 (by decide) (fun zc9 => ?_) (fun zc9 => ?_)
              · replace zhs := br_T zhs zc9
                cases zhs
                exact k48_163 zx5 zM7 (itk_q zhq) zH zlocs zls (lv_sub zhl [1, 2] rfl) zhw
              · replace zhs := br_F zhs zc9
                refine lv_iload zhx zhb dX12_habit_54 (lv_at zhl 0 rfl) ?_
                obtain ⟨zM36, zhq, zhs⟩ := bnd_e zhs
                have hJ37 : ∀ (zH : Heap) (zlocs : List Loc) (zls : Array Slot), lv_has zls 9 [(5, .int zx6), (4, .int zx5), (0, .ref (h 0)), (1, .int a1), (2, .int a2), (3, .int a3)] → Hw D (wR h cI zM36) A s.heap zH zlocs → W p l e (RM 5) s m args below meth c zH zlocs 0 0 Q (F0 m 64 zls []) := by
                  intro zH zlocs zls zhl zhw
                  refine lv_aload_n zhx zhb dX12_habit_64 rfl (lv_at zhl 2 rfl) ?_
                  obtain ⟨zM39, zhp, zhs⟩ := bnd_e zhs
                  refine x_cVV (As := []) (rest := []) C zhw zhl (cRef_goToEvening l D cI h N zM36 zM39 zhp) (by decide) (by decide) kw_32_9 kw_32_10 kw_32_11 kw_1_5 kw_32_12 md_X12_goToEvening rfl 0 (wR_c0 h cI zM36) rfl rfl rfl rfl (Nat.le_of_ble_eq_true rfl) dX12_habit_65 (fun zH zlocs zhw => ?_)
                  refine lv_ldc2 zhx zhb zhown (zhtB _ kw_44_8) dX12_habit_68 ?_
                  refine lv_iload_n zhx zhb dX12_habit_71 rfl (lv_at zhl 3 rfl) ?_
                  refine lv_i2l zhx zhb dX12_habit_72 rfl ?_
                  refine lv_lmul zhx zhb dX12_habit_73 ?_
                  refine lv_ldc2 zhx zhb zhown (zhtB _ kw_44_9) dX12_habit_74 ?_
                  refine lv_iload zhx zhb dX12_habit_77 (lv_at zhl 0 rfl) ?_
                  refine lv_i2l zhx zhb dX12_habit_79 rfl ?_
                  refine lv_lmul zhx zhb dX12_habit_80 ?_
                  refine lv_ladd zhx zhb dX12_habit_81 ?_
                  refine lv_lconst (v := 1) zhx zhb dX12_habit_82 (by decide) ?_
                  refine lv_ladd zhx zhb dX12_habit_83 ?_
                  obtain ⟨zv40, ze9, zhs⟩ := ltL_e zhs
                  refine lv_topl (fun zy9 ze8 => ?_)
                  obtain rfl : zv40 = zy9 := ze9.trans ze8.symm
                  clear ze9 ze8
                  refine lv_lstore (lv' := [(6, .long zv40), (5, .int zx6), (4, .int zx5), (0, .ref (h 0)), (1, .int a1), (2, .int a2), (3, .int a3)]) zhx zhb dX12_habit_84 zhl (by decide) rfl (fun zls zhl => ?_)
                  refine lv_lload zhx zhb dX12_habit_86 (lv_at zhl 0 rfl) ?_
                  refine lv_lload zhx zhb dX12_habit_88 (lv_at zhl 0 rfl) ?_
                  refine lv_lmul zhx zhb dX12_habit_90 ?_
                  refine lv_ldc2 zhx zhb zhown (zhtB _ kw_44_10) dX12_habit_91 ?_
                  refine lv_lrem zhx zhb dX12_habit_94 (by decide) ?_
                  refine lv_ldc2 zhx zhb zhown (zhtB _ kw_16_16) dX12_habit_95 ?_
                  refine lv_lrem zhx zhb dX12_habit_98 (by decide) ?_
                  refine lv_lconst (v := 0) zhx zhb dX12_habit_99 (by decide) ?_
                  refine W.lcmp zhx zhb dX12_habit_100 ?_
                  obtain ⟨zv42, zhq, zhs⟩ := bnd_e zhs
                  have hJ43 : ∀ (zH : Heap) (zlocs : List Loc) (zls : Array Slot), lv_has zls 9 [(5, .int zx6), (4, .int zx5), (0, .ref (h 0)), (1, .int a1), (2, .int a2), (3, .int a3)] → Hw D (wR h cI zM39) A s.heap zH zlocs → W p l e (RM 5) s m args below meth c zH zlocs 0 0 Q (F0 m 114 zls [.int zv42]) := by
                    intro zH zlocs zls zhl zhw
                    refine lv_istore (lv' := [(8, .int zv42), (5, .int zx6), (4, .int zx5), (0, .ref (h 0)), (1, .int a1), (2, .int a2), (3, .int a3)]) zhx zhb dX12_habit_114 zhl (by decide) rfl (fun zls zhl => ?_)
                    refine lv_iload zhx zhb dX12_habit_116 (lv_at zhl 0 rfl) ?_
                    refine lv_if_lt (tgt := 157) zhx zhb dX12_habit_118 (by decide) (fun zc9 => ?_) (fun zc9 => ?_)
                    · replace zhs := br_T zhs zc9
                      obtain ⟨zv52, ze9, zhs⟩ := ltI_e zhs
                      refine lv_iinc (v := zv52) (lv' := [(5, .int zv52), (8, .int zv42), (4, .int zx5), (0, .ref (h 0)), (1, .int a1), (2, .int a2), (3, .int a3)]) zhx zhb dX12_habit_157 zhl (k := 1) rfl (by rw [ze9]; rfl) (by decide) rfl (fun zls zhl => ?_)
                      clear ze9
                      refine lv_goto (tgt := 48) zhx zhb dX12_habit_160 (by decide) ?_
                      cases zhs
                      exact zih zx5 zv52 zM39 zq (itk_l zhq) k48_163 zH zlocs zls (lv_sub zhl [0, 2, 3, 4, 5, 6] rfl) zhw
                    · replace zhs := br_F zhs zc9
                      refine lv_iload zhx zhb dX12_habit_121 (lv_at zhl 2 rfl) ?_
                      refine lv_aload_n zhx zhb dX12_habit_123 rfl (lv_at zhl 3 rfl) ?_
                      refine lv_iload zhx zhb dX12_habit_124 (lv_at zhl 0 rfl) ?_
                      obtain ⟨zv53, zhp, zhs⟩ := bnd_e zhs
                      refine x_cVI (As := [.int zv42]) (rest := [.int zx5]) C zhw zhl (cRef_isOff l D cI h zv42 zM39 zv53 zhp) (by decide) (by decide) kw_20_7 kw_20_8 kw_20_9 kw_1_5 kw_20_10 md_X12_isOff rfl 0 (wR_c0 h cI zM39) rfl rfl rfl rfl (Nat.le_of_ble_eq_true rfl) dX12_habit_126 (fun zH zlocs zhw hzv53 => ?_)
                      refine lv_if_eq (tgt := 145) zhx zhb dX12_habit_129 (by decide) (fun zc9 => ?_) (fun zc9 => ?_)
                      · replace zhs := br_T zhs zc9
                        refine lv_iconst (v := 0) zhx zhb dX12_habit_145 (by decide) ?_
                        refine lv_iadd zhx zhb dX12_habit_146 ?_
                        obtain ⟨zv55, ze9, zhs⟩ := ltI_e zhs
                        refine lv_topi (fun zy9 ze8 => ?_)
                        obtain rfl : zv55 = zy9 := ze9.trans ze8.symm
                        clear ze9 ze8
                        refine lv_istore (lv' := [(4, .int zv55), (8, .int zv42), (5, .int zx6), (0, .ref (h 0)), (1, .int a1), (2, .int a2), (3, .int a3)]) zhx zhb dX12_habit_147 zhl (by decide) rfl (fun zls zhl => ?_)
                        refine lv_aload_n zhx zhb dX12_habit_149 rfl (lv_at zhl 3 rfl) ?_
                        refine x_get C zhw inlX12 rfl 0 25 (by decide) kw_9_3 rfl (wR_c0 h cI zM39) rfl dX12_habit_150 ?_
                        refine lv_iload zhx zhb dX12_habit_153 (lv_at zhl 1 rfl) ?_
                        refine lv_iconst (v := 1) zhx zhb dX12_habit_155 (by decide) ?_
                        obtain ⟨zhi, zhs⟩ := inc_e zhs
                        refine x_iast C zhw 25 (wR_c25 h cI zM39) zhi (wR_a25 h cI zM39 _ _) dX12_habit_156 (fun zH zlocs zhw => ?_)
                        obtain ⟨zM56, ze9, zhs⟩ := ltM_e zhs
                        rw [← ze9] at zhw; clear ze9
                        obtain ⟨zv57, ze9, zhs⟩ := ltI_e zhs
                        refine lv_iinc (v := zv57) (lv' := [(5, .int zv57), (4, .int zv55), (8, .int zv42), (0, .ref (h 0)), (1, .int a1), (2, .int a2), (3, .int a3)]) zhx zhb dX12_habit_157 zhl (k := 2) rfl (by rw [ze9]; rfl) (by decide) rfl (fun zls zhl => ?_)
                        clear ze9
                        refine lv_goto (tgt := 48) zhx zhb dX12_habit_160 (by decide) ?_
                        cases zhs
                        exact zih zv55 zv57 zM56 zq (itk_l zhq) k48_163 zH zlocs zls (lv_sub zhl [0, 1, 3, 4, 5, 6] rfl) zhw
                      · replace zhs := br_F zhs zc9
                        refine lv_aload_n zhx zhb dX12_habit_132 rfl (lv_at zhl 3 rfl) ?_
                        refine x_get C zhw inlX12 rfl 0 10 (by decide) kw_8_12 rfl (wR_c0 h cI zM39) rfl dX12_habit_133 ?_
                        refine lv_iload zhx zhb dX12_habit_136 (lv_at zhl 0 rfl) ?_
                        refine lv_bipush (v := 10) zhx zhb dX12_habit_138 (by decide) ?_
                        refine lv_isub zhx zhb dX12_habit_140 ?_
                        obtain ⟨zv58, ze9, zhi, zhs⟩ := rdc_v zhs
                        refine x_iald C zhw 10 (wR_c10 h cI zM39) zhi dX12_habit_141 ?_
                        refine lv_topi (fun zy9 ze8 => ?_)
                        obtain rfl : zv58 = zy9 := ze9.trans ze8.symm
                        clear ze9 ze8
                        refine lv_goto (tgt := 146) zhx zhb dX12_habit_142 (by decide) ?_
                        refine lv_iadd zhx zhb dX12_habit_146 ?_
                        obtain ⟨zv59, ze9, zhs⟩ := ltI_e zhs
                        refine lv_topi (fun zy9 ze8 => ?_)
                        obtain rfl : zv59 = zy9 := ze9.trans ze8.symm
                        clear ze9 ze8
                        refine lv_istore (lv' := [(4, .int zv59), (8, .int zv42), (5, .int zx6), (0, .ref (h 0)), (1, .int a1), (2, .int a2), (3, .int a3)]) zhx zhb dX12_habit_147 zhl (by decide) rfl (fun zls zhl => ?_)
                        refine lv_aload_n zhx zhb dX12_habit_149 rfl (lv_at zhl 3 rfl) ?_
                        refine x_get C zhw inlX12 rfl 0 25 (by decide) kw_9_3 rfl (wR_c0 h cI zM39) rfl dX12_habit_150 ?_
                        refine lv_iload zhx zhb dX12_habit_153 (lv_at zhl 1 rfl) ?_
                        refine lv_iconst (v := 1) zhx zhb dX12_habit_155 (by decide) ?_
                        obtain ⟨zhi, zhs⟩ := inc_e zhs
                        refine x_iast C zhw 25 (wR_c25 h cI zM39) zhi (wR_a25 h cI zM39 _ _) dX12_habit_156 (fun zH zlocs zhw => ?_)
                        obtain ⟨zM60, ze9, zhs⟩ := ltM_e zhs
                        rw [← ze9] at zhw; clear ze9
                        obtain ⟨zv61, ze9, zhs⟩ := ltI_e zhs
                        refine lv_iinc (v := zv61) (lv' := [(5, .int zv61), (4, .int zv59), (8, .int zv42), (0, .ref (h 0)), (1, .int a1), (2, .int a2), (3, .int a3)]) zhx zhb dX12_habit_157 zhl (k := 2) rfl (by rw [ze9]; rfl) (by decide) rfl (fun zls zhl => ?_)
                        clear ze9
                        refine lv_goto (tgt := 48) zhx zhb dX12_habit_160 (by decide) ?_
                        cases zhs
                        exact zih zv59 zv61 zM60 zq (itk_l zhq) k48_163 zH zlocs zls (lv_sub zhl [0, 1, 3, 4, 5, 6] rfl) zhw
                  replace zhs := zhq
                  clear zhq
                  refine lv_if_eq (tgt := 112) zhx zhb dX12_habit_101 (by decide) (fun zc9 => ?_) (fun zc9 => ?_)
                  · replace zhs := br_T zhs zc9
                    refine lv_bipush (v := (-4)) zhx zhb dX12_habit_112 (by decide) ?_
                    cases zhs
                    exact hJ43 zH zlocs zls (lv_sub zhl [1, 2, 3, 4, 5, 6] rfl) zhw
                  · replace zhs := br_F zhs zc9
                    refine lv_aload_n zhx zhb dX12_habit_104 rfl (lv_at zhl 3 rfl) ?_
                    refine lv_iload_n zhx zhb dX12_habit_105 rfl (lv_at zhl 6 rfl) ?_
                    obtain ⟨zv44, zhp, zhs⟩ := bnd_e zhs
                    refine x_cVI (As := [.int a3]) (rest := []) C zhw zhl (cRef_takenBy l D cI h N a3 zM39 zv44 zhp) (by decide) (by decide) kw_44_11 kw_44_12 kw_44_13 kw_1_5 kw_44_14 md_X12_takenBy rfl 0 (wR_c0 h cI zM39) rfl rfl rfl rfl (Nat.le_of_ble_eq_true rfl) dX12_habit_106 (fun zH zlocs zhw hn9 => ?_)
                    refine lv_goto (tgt := 114) zhx zhb dX12_habit_109 (by decide) ?_
                    cases zhs
                    exact hJ43 zH zlocs zls (lv_sub zhl [1, 2, 3, 4, 5, 6] rfl) zhw
                replace zhs := zhq
                clear zhq
                refine lv_if_le (tgt := 64) zhx zhb dX12_habit_56 (by decide) (fun zc9 => ?_) (fun zc9 => ?_)
                · replace zhs := br_T zhs zc9
                  cases zhs
                  exact hJ37 zH zlocs zls zhl zhw
                · replace zhs := br_F zhs zc9
                  refine lv_aload_n zhx zhb dX12_habit_59 rfl (lv_at zhl 2 rfl) ?_
                  refine lv_iconst (v := 1) zhx zhb dX12_habit_60 (by decide) ?_
                  obtain ⟨zM38, zhp, zhs⟩ := bnd_e zhs
                  refine x_cVV (As := [.int 1]) (rest := []) C zhw zhl (cRef_goHour l D cI h N 1 zM7 zM38 zhp) (by decide) (by decide) kw_23_19 kw_23_20 kw_23_21 kw_1_5 kw_23_22 md_X12_goHour rfl 0 (wR_c0 h cI zM7) rfl rfl rfl rfl (Nat.le_of_ble_eq_true rfl) dX12_habit_61 (fun zH zlocs zhw => ?_)
                  cases zhs
                  exact hJ37 zH zlocs zls zhl zhw
        refine hloop62 N 0 0 zM4 zq62 zhq62 (fun zv63 zM64 zhqe zH zlocs zls zhl zhw => ?_) zH zlocs zls zhl zhw
        · subst zhqe
          try dsimp only at zhs
          refine lv_iload zhx zhb dX12_habit_163 (lv_at zhl 0 rfl) ?_
          refine lv_aload_n zhx zhb dX12_habit_165 rfl (lv_at zhl 1 rfl) ?_
          refine lv_iconst (v := 1) zhx zhb dX12_habit_166 (by decide) ?_
          obtain ⟨zv65, zhp, zhs⟩ := bnd_e zhs
          refine x_cVI (As := [.int 1]) (rest := [.int zv63]) C zhw zhl (cRef_offCoin l D cI h N 1 zM64 zv65 zhp) (by decide) (by decide) kw_28_17 kw_28_18 kw_28_19 kw_1_5 kw_28_20 md_X12_offCoin rfl 0 (wR_c0 h cI zM64) rfl rfl rfl rfl (Nat.le_of_ble_eq_true rfl) dX12_habit_167 (fun zH zlocs zhw hn9 => ?_)
          refine lv_iadd zhx zhb dX12_habit_170 ?_
          cases zhs
          exact zhret _ _ _ _ dX12_habit_171 (by rfl) zhw
      · replace zhs := br_T zhs zc9
        refine lv_iconst (v := (-1)) zhx zhb dX12_habit_34 (by decide) ?_
        cases zhs
        exact zhret _ _ _ _ dX12_habit_35 (by rfl) zhw

