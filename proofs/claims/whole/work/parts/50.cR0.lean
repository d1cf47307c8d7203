-- OffFirstModel.in in (None, ())
def sRef_in (a1 : Int64) (a2 : Int64) (a3 : Int64) : Option Int32 :=
  (if (lg_cmp a1 a2) < 0 then some 0
  else (if 0 < (lg_cmp a1 a3) then some 0
  else some 1))
set_option maxHeartbeats 4000000 in
set_option maxRecDepth 100000 in
theorem cRef_in (l : Launch) (D : va_G) (cI : ClassId) (h : Nat → Nat) (a1 : Int64) (a2 : Int64) (a3 : Int64) (M : Mm) (r : Int32) (zhs : sRef_in a1 a2 a3 = some r) : CtI l yX12_in cX12_in 6 (some .boolean) 1 D cI (wR h cI M) (wR h cI M) [.long a1, .long a2, .long a3] r := by
  unfold sRef_in at zhs
  refine CtI_of (by decide +kernel) (Nat.le_of_ble_eq_true rfl) ⟨_, rfl⟩ ?_
  intro p e s m args below meth c A Q zls zH zlocs C zhw zhl zhret
  have zhx := C.1
  have zhb := C.2.1
  have zhown := C.2.2.2.2.1
  have zhtB := C.2.2.2.2.2.2.1
  have zhl : lv_has zls 6 [(0, .long a1), (2, .long a2), (4, .long a3)] := zhl
  refine lv_lload_n zhx zhb dX12_in_0 rfl (lv_at zhl 0 rfl) ?_
  refine lv_lload_n zhx zhb dX12_in_1 rfl (lv_at zhl 1 rfl) ?_
  refine W.lcmp zhx zhb dX12_in_2 ?_
  refine lv_if_lt (tgt := 17) zhx zhb dX12_in_3 (by decide) (fun zc9 => ?_) (fun zc9 => ?_)
  · replace zhs := br_T zhs zc9
    refine lv_iconst (v := 0) zhx zhb dX12_in_17 (by decide) ?_
    cases zhs
    exact zhret _ _ _ _ dX12_in_18 (by rfl) zhw
  · replace zhs := br_F zhs zc9
    refine lv_lload_n zhx zhb dX12_in_6 rfl (lv_at zhl 0 rfl) ?_
    refine lv_lload zhx zhb dX12_in_7 (lv_at zhl 2 rfl) ?_
    refine W.lcmp zhx zhb dX12_in_9 ?_
    refine lv_if_gt (tgt := 17) zhx zhb dX12_in_10 (by decide) (fun zc9 => ?_) (fun zc9 => ?_)
    · replace zhs := br_T zhs zc9
      refine lv_iconst (v := 0) zhx zhb dX12_in_17 (by decide) ?_
      cases zhs
      exact zhret _ _ _ _ dX12_in_18 (by rfl) zhw
    · replace zhs := br_F zhs zc9
      refine lv_iconst (v := 1) zhx zhb dX12_in_13 (by decide) ?_
      refine lv_goto (tgt := 18) zhx zhb dX12_in_14 (by decide) ?_
      cases zhs
      exact zhret _ _ _ _ dX12_in_18 (by rfl) zhw

-- OffFirstModel.write in (0, ())
def LRef_write_34_11 (N : Nat) (a2 : Int64) (zx3 : Int32) (zM4 : Mm) : Option ((Int32 × Mm) ⊕ ((Mm))) :=
  (if zx3 < 0 then some (.inr zM4)
  else inc 400 (zM4 0 0) <| ltM (mset zM4 1 (Int32.toNatClampNeg (zM4 0 0)) (Int64.toInt32 ((shrL a2 (8 * zx3)) &&& 255))) fun zM8 =>
  ltM (mset zM8 0 0 ((zM8 0 0) + 1)) fun zM9 =>
  ltI (zx3 + (-1)) fun zv10 =>
  some (.inl (zv10, zM9)))
def sRef_write (N : Nat) (a1 : Int32) (a2 : Int64) (M : Mm) : Option (Int32 × Mm) :=
  (sRef_in (Int32.toInt64 a1) 1 8).bind fun zv1 =>
  (if zv1 = 0 then some ((-1), M)
  else (if ((M 0 0) + a1) ≤ 400 then ltI (a1 - 1) fun zv2 =>
  (itr (fun z : Int32 × Mm => LRef_write_34_11 N a2 z.1 z.2) N (zv2, M)).bind fun zM12 =>
  some ((zM12 0 0), zM12)
  else some ((-3), M)))
set_option maxHeartbeats 4000000 in
set_option maxRecDepth 100000 in
theorem cRef_write (l : Launch) (D : va_G) (cI : ClassId) (h : Nat → Nat) (N : Nat) (a1 : Int32) (a2 : Int64) (M : Mm) (r : Int32) (M' : Mm) (zhs : sRef_write N a1 a2 M = some (r, M')) : CtI l yX12_write cX12_write 5 (some .int) 2 D cI (wR h cI M) (wR h cI M') [.ref (h 0), .int a1, .long a2] r := by
  unfold sRef_write at zhs
  refine CtI_of (by decide +kernel) (Nat.le_of_ble_eq_true rfl) ⟨_, rfl⟩ ?_
  intro p e s m args below meth c A Q zls zH zlocs C zhw zhl zhret
  have zhx := C.1
  have zhb := C.2.1
  have zhown := C.2.2.2.2.1
  have zhtB := C.2.2.2.2.2.2.1
  have zhl : lv_has zls 5 [(0, .ref (h 0)), (1, .int a1), (2, .long a2)] := zhl
  refine lv_iload_n zhx zhb dX12_write_0 rfl (lv_at zhl 1 rfl) ?_
  refine lv_i2l zhx zhb dX12_write_1 rfl ?_
  refine lv_lconst (v := 1) zhx zhb dX12_write_2 (by decide) ?_
  refine lv_ldc2 zhx zhb zhown (zhtB _ kw_10_11) dX12_write_3 ?_
  obtain ⟨zv1, zhp, zhs⟩ := bnd_e zhs
  refine x_cSI (As := [.long (Int32.toInt64 a1), .long 1, .long 8]) (rest := []) C zhw zhl (cRef_in l D cI h (Int32.toInt64 a1) 1 8 M zv1 zhp) (by decide) (by decide) kw_10_14 kw_10_15 kw_1_5 kw_10_16 md_X12_in rfl rfl (Nat.le_of_ble_eq_true rfl) dX12_write_6 (fun zH zlocs zhw hzv1 => ?_)
  refine lv_if_ne (tgt := 14) zhx zhb dX12_write_9 (by decide) (fun zc9 => ?_) (fun zc9 => ?_)
  · replace zhs := br_F zhs zc9
    refine lv_aload_n zhx zhb dX12_write_14 rfl (lv_at zhl 0 rfl) ?_
    refine x_get C zhw inlX12 rfl 0 0 (by decide) kw_10_12 rfl (wR_c0 h cI M) rfl dX12_write_15 ?_
    refine lv_iload_n zhx zhb dX12_write_18 rfl (lv_at zhl 1 rfl) ?_
    refine lv_iadd zhx zhb dX12_write_19 ?_
    refine lv_sipush (v := 400) zhx zhb dX12_write_20 (by decide) ?_
    refine lv_icmp_le (tgt := 29) zhx zhb dX12_write_23 (by decide) (fun zc9 => ?_) (fun zc9 => ?_)
    · replace zhs := br_T zhs zc9
      refine lv_iload_n zhx zhb dX12_write_29 rfl (lv_at zhl 1 rfl) ?_
      refine lv_iconst (v := 1) zhx zhb dX12_write_30 (by decide) ?_
      refine lv_isub zhx zhb dX12_write_31 ?_
      obtain ⟨zv2, ze9, zhs⟩ := ltI_e zhs
      refine lv_topi (fun zy9 ze8 => ?_)
      obtain rfl : zv2 = zy9 := ze9.trans ze8.symm
      clear ze9 ze8
      refine lv_istore (lv' := [(4, .int zv2), (0, .ref (h 0)), (1, .int a1), (2, .long a2)]) zhx zhb dX12_write_32 zhl (by decide) rfl (fun zls zhl => ?_)
      obtain ⟨zq11, zhq11, zhs⟩ := bnd_e zhs
      have hloop11 : ∀ (zn : Nat) (zx3 : Int32) (zM4 : Mm) (zq : (Mm)), itr (fun z : Int32 × Mm => LRef_write_34_11 N a2 z.1 z.2) zn (zx3, zM4) = some zq → (∀ (zy1 : Mm), zy1 = zq → ∀ (zH : Heap) (zlocs : List Loc) (zls : Array Slot), lv_has zls 5 [(0, .ref (h 0))] → Hw D (wR h cI zy1) A s.heap zH zlocs → W p l e (RM 2) s m args below meth c zH zlocs 0 0 Q (F0 m 76 zls [])) → ∀ (zH : Heap) (zlocs : List Loc) (zls : Array Slot), lv_has zls 5 [(4, .int zx3), (0, .ref (h 0)), (2, .long a2)] → Hw D (wR h cI zM4) A s.heap zH zlocs → W p l e (RM 2) s m args below meth c zH zlocs 0 0 Q (F0 m 34 zls []) := by
        intro zn
        induction zn with
        | zero => intro zx3 zM4 zq zhq; exact absurd zhq (fun h9 => itr_0 h9)
        | succ zn zih =>
            intro zx3 zM4 zq zhq k34_76 zH zlocs zls zhl zhw
            obtain ⟨zy9, zhs, zhq⟩ := itr_s zhq
            replace zhs : LRef_write_34_11 N a2 zx3 zM4 = some zy9 := zhs
            unfold LRef_write_34_11 at zhs
            refine lv_iload zhx zhb dX12_write_34 (lv_at zhl 0 rfl) ?_
            refine lv_if_lt (tgt := 76) zhx zhb dX12_write_36 (by decide) (fun zc9 => ?_) (fun zc9 => ?_)
            · replace zhs := br_T zhs zc9
              cases zhs
              exact k34_76 zM4 (itk_q zhq) zH zlocs zls (lv_sub zhl [1] rfl) zhw
            · replace zhs := br_F zhs zc9
              refine lv_aload_n zhx zhb dX12_write_39 rfl (lv_at zhl 1 rfl) ?_
              refine x_get C zhw inlX12 rfl 0 1 (by decide) kw_8_3 rfl (wR_c0 h cI zM4) rfl dX12_write_40 ?_
              refine lv_aload_n zhx zhb dX12_write_43 rfl (lv_at zhl 1 rfl) ?_
              refine x_get C zhw inlX12 rfl 0 0 (by decide) kw_10_12 rfl (wR_c0 h cI zM4) rfl dX12_write_44 ?_
              refine lv_lload_n zhx zhb dX12_write_47 rfl (lv_at zhl 2 rfl) ?_
              refine lv_bipush (v := 8) zhx zhb dX12_write_48 (by decide) ?_
              refine lv_iload zhx zhb dX12_write_50 (lv_at zhl 0 rfl) ?_
              refine lv_imul zhx zhb dX12_write_52 ?_
              refine lv_lshr zhx zhb dX12_write_53 rfl ?_
              refine lv_ldc2 zhx zhb zhown (zhtB _ kw_10_13) dX12_write_54 ?_
              refine lv_land zhx zhb dX12_write_57 ?_
              refine lv_l2i zhx zhb dX12_write_58 rfl ?_
              obtain ⟨zhi, zhs⟩ := inc_e zhs
              refine x_iast C zhw 1 (wR_c1 h cI zM4) zhi (wR_a1 h cI zM4 _ _) dX12_write_59 (fun zH zlocs zhw => ?_)
              obtain ⟨zM8, ze9, zhs⟩ := ltM_e zhs
              rw [← ze9] at zhw; clear ze9
              refine lv_aload_n zhx zhb dX12_write_60 rfl (lv_at zhl 1 rfl) ?_
              refine lv_dup zhx zhb dX12_write_61 rfl ?_
              refine x_get C zhw inlX12 rfl 0 0 (by decide) kw_10_12 rfl (wR_c0 h cI zM8) rfl dX12_write_62 ?_
              refine lv_iconst (v := 1) zhx zhb dX12_write_65 (by decide) ?_
              refine lv_iadd zhx zhb dX12_write_66 ?_
              refine x_put C zhw inlX12 rfl tyX12_ok nmX12 0 0 (by decide) kw_10_12 rfl rfl rfl (wR_c0 h cI zM8) (Nat.le_of_ble_eq_true rfl) (wR_s0_0 h cI zM8 _) dX12_write_67 (fun zH zlocs zhw => ?_)
              obtain ⟨zM9, ze9, zhs⟩ := ltM_e zhs
              rw [← ze9] at zhw; clear ze9
              obtain ⟨zv10, ze9, zhs⟩ := ltI_e zhs
              refine lv_iinc (v := zv10) (lv' := [(4, .int zv10), (0, .ref (h 0)), (2, .long a2)]) zhx zhb dX12_write_70 zhl (k := 0) rfl (by rw [ze9]; rfl) (by decide) rfl (fun zls zhl => ?_)
              clear ze9
              refine lv_goto (tgt := 34) zhx zhb dX12_write_73 (by decide) ?_
              cases zhs
              exact zih zv10 zM9 zq (itk_l zhq) k34_76 zH zlocs zls zhl zhw
      refine hloop11 N zv2 M zq11 zhq11 (fun zM12 zhqe zH zlocs zls zhl zhw => ?_) zH zlocs zls (lv_sub zhl [0, 1, 3] rfl) zhw
      · subst zhqe
        refine lv_aload_n zhx zhb dX12_write_76 rfl (lv_at zhl 0 rfl) ?_
        refine x_get C zhw inlX12 rfl 0 0 (by decide) kw_10_12 rfl (wR_c0 h cI zM12) rfl dX12_write_77 ?_
        cases zhs
        exact zhret _ _ _ _ dX12_write_80 (by rfl) zhw
    · replace zhs := br_F zhs zc9
      refine lv_bipush (v := (-3)) zhx zhb dX12_write_26 (by decide) ?_
      cases zhs
      exact zhret _ _ _ _ dX12_write_28 (by rfl) zhw
  · replace zhs := br_T zhs zc9
    refine lv_iconst (v := (-1)) zhx zhb dX12_write_12 (by decide) ?_
    cases zhs
    exact zhret _ _ _ _ dX12_write_13 (by rfl) zhw

-- OffFirstModel.wipe in (0, ())
def sRef_wipe (M : Mm) : Option (Int32 × Mm) :=
  ltI (M 0 0) fun zv1 =>
  ltM (mset M 0 0 0) fun zM2 =>
  some (zv1, zM2)
set_option maxHeartbeats 4000000 in
set_option maxRecDepth 100000 in
theorem cRef_wipe (l : Launch) (D : va_G) (cI : ClassId) (h : Nat → Nat) (M : Mm) (r : Int32) (M' : Mm) (zhs : sRef_wipe M = some (r, M')) : CtI l yX12_wipe cX12_wipe 2 (some .int) 1 D cI (wR h cI M) (wR h cI M') [.ref (h 0)] r := by
  unfold sRef_wipe at zhs
  refine CtI_of (by decide +kernel) (Nat.le_of_ble_eq_true rfl) ⟨_, rfl⟩ ?_
  intro p e s m args below meth c A Q zls zH zlocs C zhw zhl zhret
  have zhx := C.1
  have zhb := C.2.1
  have zhown := C.2.2.2.2.1
  have zhtB := C.2.2.2.2.2.2.1
  have zhl : lv_has zls 2 [(0, .ref (h 0))] := zhl
  refine lv_aload_n zhx zhb dX12_wipe_0 rfl (lv_at zhl 0 rfl) ?_
  refine x_get C zhw inlX12 rfl 0 0 (by decide) kw_10_12 rfl (wR_c0 h cI M) rfl dX12_wipe_1 ?_
  obtain ⟨zv1, ze9, zhs⟩ := ltI_e zhs
  refine lv_topi (fun zy9 ze8 => ?_)
  obtain rfl : zv1 = zy9 := ze9.trans ze8.symm
  clear ze9 ze8
  refine lv_istore_n (lv' := [(1, .int zv1), (0, .ref (h 0))]) zhx zhb dX12_wipe_4 rfl zhl (by decide) rfl (fun zls zhl => ?_)
  refine lv_aload_n zhx zhb dX12_wipe_5 rfl (lv_at zhl 1 rfl) ?_
  refine lv_iconst (v := 0) zhx zhb dX12_wipe_6 (by decide) ?_
  refine x_put C zhw inlX12 rfl tyX12_ok nmX12 0 0 (by decide) kw_10_12 rfl rfl rfl (wR_c0 h cI M) (Nat.le_of_ble_eq_true rfl) (wR_s0_0 h cI M _) dX12_wipe_7 (fun zH zlocs zhw => ?_)
  obtain ⟨zM2, ze9, zhs⟩ := ltM_e zhs
  rw [← ze9] at zhw; clear ze9
  refine lv_iload_n zhx zhb dX12_wipe_10 rfl (lv_at zhl 0 rfl) ?_
  cases zhs
  exact zhret _ _ _ _ dX12_wipe_11 (by rfl) zhw

-- OffFirstModel.noFridge in (0, ())
def sRef_noFridge (a1 : Int32) (M : Mm) : Option Mm :=
  inc 2 a1 <| ltM (mset M 2 (Int32.toNatClampNeg a1) 0) fun zM1 =>
  inc 2 a1 <| ltM (mset zM1 6 (Int32.toNatClampNeg a1) 0) fun zM2 =>
  inc 2 a1 <| ltM (mset zM2 7 (Int32.toNatClampNeg a1) 0) fun zM3 =>
  inc 2 a1 <| ltM (mset zM3 14 (Int32.toNatClampNeg a1) 0) fun zM4 =>
  inc 2 a1 <| ltM (mset zM4 16 (Int32.toNatClampNeg a1) 0) fun zM5 =>
  inc 2 a1 <| ltM (mset zM5 18 (Int32.toNatClampNeg a1) 0) fun zM6 =>
  inc 6 (3 * a1) <| ltM (mset zM6 21 (Int32.toNatClampNeg (3 * a1)) 10) fun zM7 =>
  inc 6 ((3 * a1) + 1) <| ltM (mset zM7 21 (Int32.toNatClampNeg ((3 * a1) + 1)) 20) fun zM8 =>
  inc 6 ((3 * a1) + 2) <| ltM (mset zM8 21 (Int32.toNatClampNeg ((3 * a1) + 2)) 1) fun zM9 =>
  some zM9
set_option maxHeartbeats 4000000 in
set_option maxRecDepth 100000 in
theorem cRef_noFridge (l : Launch) (D : va_G) (cI : ClassId) (h : Nat → Nat) (a1 : Int32) (M : Mm) (M' : Mm) (zhs : sRef_noFridge a1 M = some M') : CtV l yX12_noFridge cX12_noFridge 2 1 D cI (wR h cI M) (wR h cI M') [.ref (h 0), .int a1] := by
  unfold sRef_noFridge at zhs
  refine CtV_of (by decide +kernel) (Nat.le_of_ble_eq_true rfl) ?_
  intro p e s m args below meth c A Q zls zH zlocs C zhw zhl zhret
  have zhx := C.1
  have zhb := C.2.1
  have zhown := C.2.2.2.2.1
  have zhtB := C.2.2.2.2.2.2.1
  have zhl : lv_has zls 2 [(0, .ref (h 0)), (1, .int a1)] := zhl
  refine lv_aload_n zhx zhb dX12_noFridge_0 rfl (lv_at zhl 0 rfl) ?_
  refine x_get C zhw inlX12 rfl 0 2 (by decide) kw_8_4 rfl (wR_c0 h cI M) rfl dX12_noFridge_1 ?_
  refine lv_iload_n zhx zhb dX12_noFridge_4 rfl (lv_at zhl 1 rfl) ?_
  refine lv_iconst (v := 0) zhx zhb dX12_noFridge_5 (by decide) ?_
  obtain ⟨zhi, zhs⟩ := inc_e zhs
  refine x_iast C zhw 2 (wR_c2 h cI M) zhi (wR_a2 h cI M _ _) dX12_noFridge_6 (fun zH zlocs zhw => ?_)
  obtain ⟨zM1, ze9, zhs⟩ := ltM_e zhs
  rw [← ze9] at zhw; clear ze9
  refine lv_aload_n zhx zhb dX12_noFridge_7 rfl (lv_at zhl 0 rfl) ?_
  refine x_get C zhw inlX12 rfl 0 6 (by decide) kw_8_8 rfl (wR_c0 h cI zM1) rfl dX12_noFridge_8 ?_
  refine lv_iload_n zhx zhb dX12_noFridge_11 rfl (lv_at zhl 1 rfl) ?_
  refine lv_iconst (v := 0) zhx zhb dX12_noFridge_12 (by decide) ?_
  obtain ⟨zhi, zhs⟩ := inc_e zhs
  refine x_iast C zhw 6 (wR_c6 h cI zM1) zhi (wR_a6 h cI zM1 _ _) dX12_noFridge_13 (fun zH zlocs zhw => ?_)
  obtain ⟨zM2, ze9, zhs⟩ := ltM_e zhs
  rw [← ze9] at zhw; clear ze9
  refine lv_aload_n zhx zhb dX12_noFridge_14 rfl (lv_at zhl 0 rfl) ?_
  refine x_get C zhw inlX12 rfl 0 7 (by decide) kw_8_9 rfl (wR_c0 h cI zM2) rfl dX12_noFridge_15 ?_
  refine lv_iload_n zhx zhb dX12_noFridge_18 rfl (lv_at zhl 1 rfl) ?_
  refine lv_iconst (v := 0) zhx zhb dX12_noFridge_19 (by decide) ?_
  obtain ⟨zhi, zhs⟩ := inc_e zhs
  refine x_iast C zhw 7 (wR_c7 h cI zM2) zhi (wR_a7 h cI zM2 _ _) dX12_noFridge_20 (fun zH zlocs zhw => ?_)
  obtain ⟨zM3, ze9, zhs⟩ := ltM_e zhs
  rw [← ze9] at zhw; clear ze9
  refine lv_aload_n zhx zhb dX12_noFridge_21 rfl (lv_at zhl 0 rfl) ?_
  refine x_get C zhw inlX12 rfl 0 14 (by decide) kw_8_16 rfl (wR_c0 h cI zM3) rfl dX12_noFridge_22 ?_
  refine lv_iload_n zhx zhb dX12_noFridge_25 rfl (lv_at zhl 1 rfl) ?_
  refine lv_iconst (v := 0) zhx zhb dX12_noFridge_26 (by decide) ?_
  obtain ⟨zhi, zhs⟩ := inc_e zhs
  refine x_iast C zhw 14 (wR_c14 h cI zM3) zhi (wR_a14 h cI zM3 _ _) dX12_noFridge_27 (fun zH zlocs zhw => ?_)
  obtain ⟨zM4, ze9, zhs⟩ := ltM_e zhs
  rw [← ze9] at zhw; clear ze9
  refine lv_aload_n zhx zhb dX12_noFridge_28 rfl (lv_at zhl 0 rfl) ?_
  refine x_get C zhw inlX12 rfl 0 16 (by decide) kw_8_18 rfl (wR_c0 h cI zM4) rfl dX12_noFridge_29 ?_
  refine lv_iload_n zhx zhb dX12_noFridge_32 rfl (lv_at zhl 1 rfl) ?_
  refine lv_iconst (v := 0) zhx zhb dX12_noFridge_33 (by decide) ?_
  obtain ⟨zhi, zhs⟩ := inc_e zhs
  refine x_iast C zhw 16 (wR_c16 h cI zM4) zhi (wR_a16 h cI zM4 _ _) dX12_noFridge_34 (fun zH zlocs zhw => ?_)
  obtain ⟨zM5, ze9, zhs⟩ := ltM_e zhs
  rw [← ze9] at zhw; clear ze9
  refine lv_aload_n zhx zhb dX12_noFridge_35 rfl (lv_at zhl 0 rfl) ?_
  refine x_get C zhw inlX12 rfl 0 18 (by decide) kw_8_20 rfl (wR_c0 h cI zM5) rfl dX12_noFridge_36 ?_
  refine lv_iload_n zhx zhb dX12_noFridge_39 rfl (lv_at zhl 1 rfl) ?_
  refine lv_iconst (v := 0) zhx zhb dX12_noFridge_40 (by decide) ?_
  obtain ⟨zhi, zhs⟩ := inc_e zhs
  refine x_iast C zhw 18 (wR_c18 h cI zM5) zhi (wR_a18 h cI zM5 _ _) dX12_noFridge_41 (fun zH zlocs zhw => ?_)
  obtain ⟨zM6, ze9, zhs⟩ := ltM_e zhs
  rw [← ze9] at zhw; clear ze9
  refine lv_aload_n zhx zhb dX12_noFridge_42 rfl (lv_at zhl 0 rfl) ?_
  refine x_get C zhw inlX12 rfl 0 21 (by decide) kw_8_23 rfl (wR_c0 h cI zM6) rfl dX12_noFridge_43 ?_
  refine lv_iconst (v := 3) zhx zhb dX12_noFridge_46 (by decide) ?_
  refine lv_iload_n zhx zhb dX12_noFridge_47 rfl (lv_at zhl 1 rfl) ?_
  refine lv_imul zhx zhb dX12_noFridge_48 ?_
  refine lv_bipush (v := 10) zhx zhb dX12_noFridge_49 (by decide) ?_
  obtain ⟨zhi, zhs⟩ := inc_e zhs
  refine x_iast C zhw 21 (wR_c21 h cI zM6) zhi (wR_a21 h cI zM6 _ _) dX12_noFridge_51 (fun zH zlocs zhw => ?_)
  obtain ⟨zM7, ze9, zhs⟩ := ltM_e zhs
  rw [← ze9] at zhw; clear ze9
  refine lv_aload_n zhx zhb dX12_noFridge_52 rfl (lv_at zhl 0 rfl) ?_
  refine x_get C zhw inlX12 rfl 0 21 (by decide) kw_8_23 rfl (wR_c0 h cI zM7) rfl dX12_noFridge_53 ?_
  refine lv_iconst (v := 3) zhx zhb dX12_noFridge_56 (by decide) ?_
  refine lv_iload_n zhx zhb dX12_noFridge_57 rfl (lv_at zhl 1 rfl) ?_
  refine lv_imul zhx zhb dX12_noFridge_58 ?_
  refine lv_iconst (v := 1) zhx zhb dX12_noFridge_59 (by decide) ?_
  refine lv_iadd zhx zhb dX12_noFridge_60 ?_
  refine lv_bipush (v := 20) zhx zhb dX12_noFridge_61 (by decide) ?_
  obtain ⟨zhi, zhs⟩ := inc_e zhs
  refine x_iast C zhw 21 (wR_c21 h cI zM7) zhi (wR_a21 h cI zM7 _ _) dX12_noFridge_63 (fun zH zlocs zhw => ?_)
  obtain ⟨zM8, ze9, zhs⟩ := ltM_e zhs
  rw [← ze9] at zhw; clear ze9
  refine lv_aload_n zhx zhb dX12_noFridge_64 rfl (lv_at zhl 0 rfl) ?_
  refine x_get C zhw inlX12 rfl 0 21 (by decide) kw_8_23 rfl (wR_c0 h cI zM8) rfl dX12_noFridge_65 ?_
  refine lv_iconst (v := 3) zhx zhb dX12_noFridge_68 (by decide) ?_
  refine lv_iload_n zhx zhb dX12_noFridge_69 rfl (lv_at zhl 1 rfl) ?_
  refine lv_imul zhx zhb dX12_noFridge_70 ?_
  refine lv_iconst (v := 2) zhx zhb dX12_noFridge_71 (by decide) ?_
  refine lv_iadd zhx zhb dX12_noFridge_72 ?_
  refine lv_iconst (v := 1) zhx zhb dX12_noFridge_73 (by decide) ?_
  obtain ⟨zhi, zhs⟩ := inc_e zhs
  refine x_iast C zhw 21 (wR_c21 h cI zM8) zhi (wR_a21 h cI zM8 _ _) dX12_noFridge_74 (fun zH zlocs zhw => ?_)
  obtain ⟨zM9, ze9, zhs⟩ := ltM_e zhs
  rw [← ze9] at zhw; clear ze9
  cases zhs
  exact zhret _ _ _ _ dX12_noFridge_75 zhw

-- OffFirstModel.byteAt in (0, ())
def sRef_byteAt (a1 : Int32) (M : Mm) : Option Int32 :=
  (if (M 0 0) ≤ a1 then some 0
  else rdc 400 (M 1) a1 fun zv2 =>
  some zv2)
set_option maxHeartbeats 4000000 in
set_option maxRecDepth 100000 in
theorem cRef_byteAt (l : Launch) (D : va_G) (cI : ClassId) (h : Nat → Nat) (a1 : Int32) (M : Mm) (r : Int32) (zhs : sRef_byteAt a1 M = some r) : CtI l yX12_byteAt cX12_byteAt 2 (some .int) 1 D cI (wR h cI M) (wR h cI M) [.ref (h 0), .int a1] r := by
  unfold sRef_byteAt at zhs
  refine CtI_of (by decide +kernel) (Nat.le_of_ble_eq_true rfl) ⟨_, rfl⟩ ?_
  intro p e s m args below meth c A Q zls zH zlocs C zhw zhl zhret
  have zhx := C.1
  have zhb := C.2.1
  have zhown := C.2.2.2.2.1
  have zhtB := C.2.2.2.2.2.2.1
  have zhl : lv_has zls 2 [(0, .ref (h 0)), (1, .int a1)] := zhl
  refine lv_iload_n zhx zhb dX12_byteAt_0 rfl (lv_at zhl 1 rfl) ?_
  refine lv_aload_n zhx zhb dX12_byteAt_1 rfl (lv_at zhl 0 rfl) ?_
  refine x_get C zhw inlX12 rfl 0 0 (by decide) kw_10_12 rfl (wR_c0 h cI M) rfl dX12_byteAt_2 ?_
  refine lv_icmp_ge (tgt := 17) zhx zhb dX12_byteAt_5 (by decide) (fun zc9 => ?_) (fun zc9 => ?_)
  · replace zhs := br_T zhs zc9
    refine lv_iconst (v := 0) zhx zhb dX12_byteAt_17 (by decide) ?_
    cases zhs
    exact zhret _ _ _ _ dX12_byteAt_18 (by rfl) zhw
  · replace zhs := br_F zhs zc9
    refine lv_aload_n zhx zhb dX12_byteAt_8 rfl (lv_at zhl 0 rfl) ?_
    refine x_get C zhw inlX12 rfl 0 1 (by decide) kw_8_3 rfl (wR_c0 h cI M) rfl dX12_byteAt_9 ?_
    refine lv_iload_n zhx zhb dX12_byteAt_12 rfl (lv_at zhl 1 rfl) ?_
    obtain ⟨zv2, ze9, zhi, zhs⟩ := rdc_v zhs
    refine x_iald C zhw 1 (wR_c1 h cI M) zhi dX12_byteAt_13 ?_
    refine lv_topi (fun zy9 ze8 => ?_)
    obtain rfl : zv2 = zy9 := ze9.trans ze8.symm
    clear ze9 ze8
    refine lv_goto (tgt := 18) zhx zhb dX12_byteAt_14 (by decide) ?_
    cases zhs
    exact zhret _ _ _ _ dX12_byteAt_18 (by rfl) zhw

-- OffFirstModel.figures in (0, ())
def LRef_figures_12_44 (N : Nat) (zx29 : Int32) (zx30 : Int32) (zM31 : Mm) : Option ((Int32 × Int32 × Mm) ⊕ ((Int32 × Int32 × Mm))) :=
  (sRef_byteAt (zM31 0 31) zM31).bind fun zv38 =>
  (sRef_in (Int32.toInt64 zv38) 48 57).bind fun zv39 =>
  (if zv39 = 0 then some (.inr (zx29, zx30, zM31))
  else (if 4 ≤ zx29 then some (.inr (zx29, zx30, zM31))
  else (sRef_byteAt (zM31 0 31) zM31).bind fun zv40 =>
  ltI (((10 * zx30) + zv40) - 48) fun zv41 =>
  ltI (zx29 + 1) fun zv42 =>
  ltM (mset zM31 0 31 ((zM31 0 31) + 1)) fun zM43 =>
  some (.inl (zv42, zv41, zM43))))
def LRef_figures_2_55 (N : Nat) (a1 : Int32) (zx1 : Int32) (zM2 : Mm) : Option ((Int32 × Mm) ⊕ ((Mm) ⊕ (Mm))) :=
  (if a1 ≤ zx1 then some (.inr (.inr zM2))
  else (itr (fun z : Int32 × Int32 × Mm => LRef_figures_12_44 N z.1 z.2.1 z.2.2) N (0, 0, zM2)).bind fun (zv45, zv46, zM47) =>
  (sRef_in (Int32.toInt64 zv45) 1 3).bind fun zv48 =>
  (if zv48 = 0 then some (.inr (.inl zM47))
  else (sRef_byteAt (zM47 0 31) zM47).bind fun zv49 =>
  (((if (a1 - 1) ≤ zx1 then some 59
  else some 44) : Option (Int32))).bind fun zv50 =>
  (if zv49 = zv50 then inc 6 zx1 <| ltM (mset zM47 29 (Int32.toNatClampNeg zx1) zv46) fun zM52 =>
  ltM (mset zM52 0 31 ((zM52 0 31) + 1)) fun zM53 =>
  ltI (zx1 + 1) fun zv54 =>
  some (.inl (zv54, zM53))
  else some (.inr (.inl zM47)))))
def sRef_figures (N : Nat) (a1 : Int32) (M : Mm) : Option (Int32 × Mm) :=
  ((itr (fun z : Int32 × Mm => LRef_figures_2_55 N a1 z.1 z.2) N (0, M)).bind fun q => match q with
  | .inl zM56 => some (0, zM56)
  | .inr zM57 => some (1, zM57))
set_option maxHeartbeats 4000000 in
set_option maxRecDepth 100000 in
theorem cRef_figures (l : Launch) (D : va_G) (cI : ClassId) (h : Nat → Nat) (N : Nat) (a1 : Int32) (M : Mm) (r : Int32) (M' : Mm) (zhs : sRef_figures N a1 M = some (r, M')) : CtI l yX12_figures cX12_figures 5 (some .boolean) 2 D cI (wR h cI M) (wR h cI M') [.ref (h 0), .int a1] r := by
  unfold sRef_figures at zhs
  refine CtI_of (by decide +kernel) (Nat.le_of_ble_eq_true rfl) ⟨_, rfl⟩ ?_
  intro p e s m args below meth c A Q zls zH zlocs C zhw zhl zhret
  have zhx := C.1
  have zhb := C.2.1
  have zhown := C.2.2.2.2.1
  have zhtB := C.2.2.2.2.2.2.1
  have zhl : lv_has zls 5 [(0, .ref (h 0)), (1, .int a1)] := zhl
  refine lv_iconst (v := 0) zhx zhb dX12_figures_0 (by decide) ?_
  refine lv_istore_n (lv' := [(2, .int 0), (0, .ref (h 0)), (1, .int a1)]) zhx zhb dX12_figures_1 rfl zhl (by decide) rfl (fun zls zhl => ?_)
  obtain ⟨zq55, zhq55, zhs⟩ := bnd_e zhs
  have hloop55 : ∀ (zn : Nat) (zx1 : Int32) (zM2 : Mm) (zq : (Mm) ⊕ (Mm)), itr (fun z : Int32 × Mm => LRef_figures_2_55 N a1 z.1 z.2) zn (zx1, zM2) = some zq → (∀ (zy1 : Mm), (.inl zy1) = zq → ∀ (zH : Heap) (zlocs : List Loc) (zls : Array Slot), lv_has zls 5 [] → Hw D (wR h cI zy1) A s.heap zH zlocs → W p l e (RM 2) s m args below meth c zH zlocs 0 0 Q (F0 m 110 zls [])) → (∀ (zy1 : Mm), (.inr zy1) = zq → ∀ (zH : Heap) (zlocs : List Loc) (zls : Array Slot), lv_has zls 5 [] → Hw D (wR h cI zy1) A s.heap zH zlocs → W p l e (RM 2) s m args below meth c zH zlocs 0 0 Q (F0 m 136 zls [])) → ∀ (zH : Heap) (zlocs : List Loc) (zls : Array Slot), lv_has zls 5 [(2, .int zx1), (0, .ref (h 0)), (1, .int a1)] → Hw D (wR h cI zM2) A s.heap zH zlocs → W p l e (RM 2) s m args below meth c zH zlocs 0 0 Q (F0 m 2 zls []) := by
    intro zn
    induction zn with
    | zero => intro zx1 zM2 zq zhq; exact absurd zhq (fun h9 => itr_0 h9)
    | succ zn zih =>
        intro zx1 zM2 zq zhq k2_110 k2_136 zH zlocs zls zhl zhw
        obtain ⟨zy9, zhs, zhq⟩ := itr_s zhq
        replace zhs : LRef_figures_2_55 N a1 zx1 zM2 = some zy9 := zhs
        unfold LRef_figures_2_55 at zhs
        refine lv_iload_n zhx zhb dX12_figures_2 rfl (lv_at zhl 0 rfl) ?_
        refine lv_iload_n zhx zhb dX12_figures_3 rfl (lv_at zhl 2 rfl) ?_
        refine lv_icmp_ge (tgt := 136) zhx zhb dX12_figures_4 (by decide) (fun zc9 => ?_) (fun zc9 => ?_)
        · replace zhs := br_T zhs zc9
          cases zhs
          exact k2_136 zM2 (itk_q zhq) zH zlocs zls (lv_sub zhl [] rfl) zhw
        · replace zhs := br_F zhs zc9
          refine lv_iconst (v := 0) zhx zhb dX12_figures_7 (by decide) ?_
          refine lv_istore_n (lv' := [(3, .int 0), (2, .int zx1), (0, .ref (h 0)), (1, .int a1)]) zhx zhb dX12_figures_8 rfl zhl (by decide) rfl (fun zls zhl => ?_)
          refine lv_iconst (v := 0) zhx zhb dX12_figures_9 (by decide) ?_
          refine lv_istore (lv' := [(4, .int 0), (3, .int 0), (2, .int zx1), (0, .ref (h 0)), (1, .int a1)]) zhx zhb dX12_figures_10 zhl (by decide) rfl (fun zls zhl => ?_)
          obtain ⟨zq44, zhq44, zhs⟩ := bnd_e zhs
          have hloop44 : ∀ (zn : Nat) (zx29 : Int32) (zx30 : Int32) (zM31 : Mm) (zq : (Int32 × Int32 × Mm)), itr (fun z : Int32 × Int32 × Mm => LRef_figures_12_44 N z.1 z.2.1 z.2.2) zn (zx29, zx30, zM31) = some zq → (∀ (zy1 : Int32) (zy2 : Int32) (zy3 : Mm), (zy1, zy2, zy3) = zq → ∀ (zH : Heap) (zlocs : List Loc) (zls : Array Slot), lv_has zls 5 [(4, .int zy2), (3, .int zy1), (2, .int zx1), (0, .ref (h 0)), (1, .int a1)] → Hw D (wR h cI zy3) A s.heap zH zlocs → W p l e (RM 2) s m args below meth c zH zlocs 0 0 Q (F0 m 73 zls [])) → ∀ (zH : Heap) (zlocs : List Loc) (zls : Array Slot), lv_has zls 5 [(4, .int zx30), (3, .int zx29), (2, .int zx1), (0, .ref (h 0)), (1, .int a1)] → Hw D (wR h cI zM31) A s.heap zH zlocs → W p l e (RM 2) s m args below meth c zH zlocs 0 0 Q (F0 m 12 zls []) := by
            intro zn
            induction zn with
            | zero => intro zx29 zx30 zM31 zq zhq; exact absurd zhq (fun h9 => itr_0 h9)
            | succ zn zih =>
                intro zx29 zx30 zM31 zq zhq k12_73 zH zlocs zls zhl zhw
                obtain ⟨zy9, zhs, zhq⟩ := itr_s zhq
                replace zhs : LRef_figures_12_44 N zx29 zx30 zM31 = some zy9 := zhs
                unfold LRef_figures_12_44 at zhs
                refine lv_aload_n zhx zhb dX12_figures_12 rfl (lv_at zhl 3 rfl) ?_
                refine lv_aload_n zhx zhb dX12_figures_13 rfl (lv_at zhl 3 rfl) ?_
                refine x_get C zhw inlX12 rfl 0 31 (by decide) kw_15_17 rfl (wR_c0 h cI zM31) rfl dX12_figures_14 ?_
                obtain ⟨zv38, zhp, zhs⟩ := bnd_e zhs
                refine x_cVI (As := [.int (zM31 0 31)]) (rest := []) C zhw zhl (cRef_byteAt l D cI h (zM31 0 31) zM31 zv38 zhp) (by decide) (by decide) kw_16_1 kw_16_2 kw_16_3 kw_1_5 kw_16_4 md_X12_byteAt rfl 0 (wR_c0 h cI zM31) rfl rfl rfl rfl (Nat.le_of_ble_eq_true rfl) dX12_figures_17 (fun zH zlocs zhw hn9 => ?_)
                refine lv_i2l zhx zhb dX12_figures_20 rfl ?_
                refine lv_ldc2 zhx zhb zhown (zhtB _ kw_16_14) dX12_figures_21 ?_
                refine lv_ldc2 zhx zhb zhown (zhtB _ kw_16_15) dX12_figures_24 ?_
                obtain ⟨zv39, zhp, zhs⟩ := bnd_e zhs
                refine x_cSI (As := [.long (Int32.toInt64 zv38), .long 48, .long 57]) (rest := []) C zhw zhl (cRef_in l D cI h (Int32.toInt64 zv38) 48 57 zM31 zv39 zhp) (by decide) (by decide) kw_10_14 kw_10_15 kw_1_5 kw_10_16 md_X12_in rfl rfl (Nat.le_of_ble_eq_true rfl) dX12_figures_27 (fun zH zlocs zhw hzv39 => ?_)
                refine lv_if_eq (tgt := 73) zhx zhb dX12_figures_30 (by decide) (fun zc9 => ?_) (fun zc9 => ?_)
                · replace zhs := br_T zhs zc9
                  cases zhs
                  exact k12_73 zx29 zx30 zM31 (itk_q zhq) zH zlocs zls zhl zhw
                · replace zhs := br_F zhs zc9
                  refine lv_iload_n zhx zhb dX12_figures_33 rfl (lv_at zhl 1 rfl) ?_
                  refine lv_iconst (v := 4) zhx zhb dX12_figures_34 (by decide) ?_
                  refine lv_icmp_ge (tgt := 73) zhx zhb dX12_figures_35 (by decide) (fun zc9 => ?_) (fun zc9 => ?_)
                  · replace zhs := br_T zhs zc9
                    cases zhs
                    exact k12_73 zx29 zx30 zM31 (itk_q zhq) zH zlocs zls zhl zhw
                  · replace zhs := br_F zhs zc9
                    refine lv_bipush (v := 10) zhx zhb dX12_figures_38 (by decide) ?_
                    refine lv_iload zhx zhb dX12_figures_40 (lv_at zhl 0 rfl) ?_
                    refine lv_imul zhx zhb dX12_figures_42 ?_
                    refine lv_aload_n zhx zhb dX12_figures_43 rfl (lv_at zhl 3 rfl) ?_
                    refine lv_aload_n zhx zhb dX12_figures_44 rfl (lv_at zhl 3 rfl) ?_
                    refine x_get C zhw inlX12 rfl 0 31 (by decide) kw_15_17 rfl (wR_c0 h cI zM31) rfl dX12_figures_45 ?_
                    obtain ⟨zv40, zhp, zhs⟩ := bnd_e zhs
                    refine x_cVI (As := [.int (zM31 0 31)]) (rest := [.int (10 * zx30)]) C zhw zhl (cRef_byteAt l D cI h (zM31 0 31) zM31 zv40 zhp) (by decide) (by decide) kw_16_1 kw_16_2 kw_16_3 kw_1_5 kw_16_4 md_X12_byteAt rfl 0 (wR_c0 h cI zM31) rfl rfl rfl rfl (Nat.le_of_ble_eq_true rfl) dX12_figures_48 (fun zH zlocs zhw hn9 => ?_)
                    refine lv_iadd zhx zhb dX12_figures_51 ?_
                    refine lv_bipush (v := 48) zhx zhb dX12_figures_52 (by decide) ?_
                    refine lv_isub zhx zhb dX12_figures_54 ?_
                    obtain ⟨zv41, ze9, zhs⟩ := ltI_e zhs
                    refine lv_topi (fun zy9 ze8 => ?_)
                    obtain rfl : zv41 = zy9 := ze9.trans ze8.symm
                    clear ze9 ze8
                    refine lv_istore (lv' := [(4, .int zv41), (3, .int zx29), (2, .int zx1), (0, .ref (h 0)), (1, .int a1)]) zhx zhb dX12_figures_55 zhl (by decide) rfl (fun zls zhl => ?_)
                    obtain ⟨zv42, ze9, zhs⟩ := ltI_e zhs
                    refine lv_iinc (v := zv42) (lv' := [(3, .int zv42), (4, .int zv41), (2, .int zx1), (0, .ref (h 0)), (1, .int a1)]) zhx zhb dX12_figures_57 zhl (k := 1) rfl (by rw [ze9]; rfl) (by decide) rfl (fun zls zhl => ?_)
                    clear ze9
                    refine lv_aload_n zhx zhb dX12_figures_60 rfl (lv_at zhl 3 rfl) ?_
                    refine lv_dup zhx zhb dX12_figures_61 rfl ?_
                    refine x_get C zhw inlX12 rfl 0 31 (by decide) kw_15_17 rfl (wR_c0 h cI zM31) rfl dX12_figures_62 ?_
                    refine lv_iconst (v := 1) zhx zhb dX12_figures_65 (by decide) ?_
                    refine lv_iadd zhx zhb dX12_figures_66 ?_
                    refine x_put C zhw inlX12 rfl tyX12_ok nmX12 0 31 (by decide) kw_15_17 rfl rfl rfl (wR_c0 h cI zM31) (Nat.le_of_ble_eq_true rfl) (wR_s0_31 h cI zM31 _) dX12_figures_67 (fun zH zlocs zhw => ?_)
                    obtain ⟨zM43, ze9, zhs⟩ := ltM_e zhs
                    rw [← ze9] at zhw; clear ze9
                    refine lv_goto (tgt := 12) zhx zhb dX12_figures_70 (by decide) ?_
                    cases zhs
                    exact zih zv42 zv41 zM43 zq (itk_l zhq) k12_73 zH zlocs zls (lv_sub zhl [1, 0, 2, 3, 4] rfl) zhw
          refine hloop44 N 0 0 zM2 zq44 zhq44 (fun zv45 zv46 zM47 zhqe zH zlocs zls zhl zhw => ?_) zH zlocs zls zhl zhw
          · subst zhqe
            try dsimp only at zhs
            refine lv_iload_n zhx zhb dX12_figures_73 rfl (lv_at zhl 1 rfl) ?_
            refine lv_i2l zhx zhb dX12_figures_74 rfl ?_
            refine lv_lconst (v := 1) zhx zhb dX12_figures_75 (by decide) ?_
            refine lv_ldc2 zhx zhb zhown (zhtB _ kw_16_16) dX12_figures_76 ?_
            obtain ⟨zv48, zhp, zhs⟩ := bnd_e zhs
            refine x_cSI (As := [.long (Int32.toInt64 zv45), .long 1, .long 3]) (rest := []) C zhw zhl (cRef_in l D cI h (Int32.toInt64 zv45) 1 3 zM47 zv48 zhp) (by decide) (by decide) kw_10_14 kw_10_15 kw_1_5 kw_10_16 md_X12_in rfl rfl (Nat.le_of_ble_eq_true rfl) dX12_figures_79 (fun zH zlocs zhw hzv48 => ?_)
            refine lv_if_eq (tgt := 110) zhx zhb dX12_figures_82 (by decide) (fun zc9 => ?_) (fun zc9 => ?_)
            · replace zhs := br_T zhs zc9
              cases zhs
              exact k2_110 zM47 (itk_q zhq) zH zlocs zls (lv_sub zhl [] rfl) zhw
            · replace zhs := br_F zhs zc9
              refine lv_aload_n zhx zhb dX12_figures_85 rfl (lv_at zhl 3 rfl) ?_
              refine lv_aload_n zhx zhb dX12_figures_86 rfl (lv_at zhl 3 rfl) ?_
              refine x_get C zhw inlX12 rfl 0 31 (by decide) kw_15_17 rfl (wR_c0 h cI zM47) rfl dX12_figures_87 ?_
              obtain ⟨zv49, zhp, zhs⟩ := bnd_e zhs
              refine x_cVI (As := [.int (zM47 0 31)]) (rest := []) C zhw zhl (cRef_byteAt l D cI h (zM47 0 31) zM47 zv49 zhp) (by decide) (by decide) kw_16_1 kw_16_2 kw_16_3 kw_1_5 kw_16_4 md_X12_byteAt rfl 0 (wR_c0 h cI zM47) rfl rfl rfl rfl (Nat.le_of_ble_eq_true rfl) dX12_figures_90 (fun zH zlocs zhw hn9 => ?_)
              refine lv_iload_n zhx zhb dX12_figures_93 rfl (lv_at zhl 2 rfl) ?_
              refine lv_iload_n zhx zhb dX12_figures_94 rfl (lv_at zhl 4 rfl) ?_
              refine lv_iconst (v := 1) zhx zhb dX12_figures_95 (by decide) ?_
              refine lv_isub zhx zhb dX12_figures_96 ?_
              obtain ⟨zv50, zhq, zhs⟩ := bnd_e zhs
              have hJ51 : ∀ (zH : Heap) (zlocs : List Loc) (zls : Array Slot), lv_has zls 5 [(4, .int zv46), (2, .int zx1), (0, .ref (h 0)), (1, .int a1)] → Hw D (wR h cI zM47) A s.heap zH zlocs → W p l e (RM 2) s m args below meth c zH zlocs 0 0 Q (F0 m 107 zls [.int zv50, .int zv49]) := by
                intro zH zlocs zls zhl zhw
                refine lv_icmp_eq (tgt := 112) zhx zhb dX12_figures_107 (by decide) (fun zc9 => ?_) (fun zc9 => ?_)
                · replace zhs := br_T zhs zc9
                  refine lv_aload_n zhx zhb dX12_figures_112 rfl (lv_at zhl 2 rfl) ?_
                  refine x_get C zhw inlX12 rfl 0 32 (by decide) kw_9_7 rfl (wR_c0 h cI zM47) rfl dX12_figures_113 ?_
                  refine lv_iload_n zhx zhb dX12_figures_116 rfl (lv_at zhl 1 rfl) ?_
                  refine lv_iload zhx zhb dX12_figures_117 (lv_at zhl 0 rfl) ?_
                  obtain ⟨zhi, zhs⟩ := inc_e zhs
                  refine x_iast C zhw 29 (wR_c29 h cI zM47) zhi (wR_a29 h cI zM47 _ _) dX12_figures_119 (fun zH zlocs zhw => ?_)
                  obtain ⟨zM52, ze9, zhs⟩ := ltM_e zhs
                  rw [← ze9] at zhw; clear ze9
                  refine lv_aload_n zhx zhb dX12_figures_120 rfl (lv_at zhl 2 rfl) ?_
                  refine lv_dup zhx zhb dX12_figures_121 rfl ?_
                  refine x_get C zhw inlX12 rfl 0 31 (by decide) kw_15_17 rfl (wR_c0 h cI zM52) rfl dX12_figures_122 ?_
                  refine lv_iconst (v := 1) zhx zhb dX12_figures_125 (by decide) ?_
                  refine lv_iadd zhx zhb dX12_figures_126 ?_
                  refine x_put C zhw inlX12 rfl tyX12_ok nmX12 0 31 (by decide) kw_15_17 rfl rfl rfl (wR_c0 h cI zM52) (Nat.le_of_ble_eq_true rfl) (wR_s0_31 h cI zM52 _) dX12_figures_127 (fun zH zlocs zhw => ?_)
                  obtain ⟨zM53, ze9, zhs⟩ := ltM_e zhs
                  rw [← ze9] at zhw; clear ze9
                  obtain ⟨zv54, ze9, zhs⟩ := ltI_e zhs
                  refine lv_iinc (v := zv54) (lv' := [(2, .int zv54), (4, .int zv46), (0, .ref (h 0)), (1, .int a1)]) zhx zhb dX12_figures_130 zhl (k := 1) rfl (by rw [ze9]; rfl) (by decide) rfl (fun zls zhl => ?_)
                  clear ze9
                  refine lv_goto (tgt := 2) zhx zhb dX12_figures_133 (by decide) ?_
                  cases zhs
                  exact zih zv54 zM53 zq (itk_l zhq) k2_110 k2_136 zH zlocs zls (lv_sub zhl [0, 2, 3] rfl) zhw
                · replace zhs := br_F zhs zc9
                  cases zhs
                  exact k2_110 zM47 (itk_q zhq) zH zlocs zls (lv_sub zhl [] rfl) zhw
              replace zhs := zhq
              clear zhq
              refine lv_icmp_ge (tgt := 105) zhx zhb dX12_figures_97 (by decide) (fun zc9 => ?_) (fun zc9 => ?_)
              · replace zhs := br_T zhs zc9
                refine lv_bipush (v := 59) zhx zhb dX12_figures_105 (by decide) ?_
                cases zhs
                exact hJ51 zH zlocs zls (lv_sub zhl [0, 2, 3, 4] rfl) zhw
              · replace zhs := br_F zhs zc9
                refine lv_bipush (v := 44) zhx zhb dX12_figures_100 (by decide) ?_
                refine lv_goto (tgt := 107) zhx zhb dX12_figures_102 (by decide) ?_
                cases zhs
                exact hJ51 zH zlocs zls (lv_sub zhl [0, 2, 3, 4] rfl) zhw
  refine hloop55 N 0 M zq55 zhq55 (fun zM56 zhqe zH zlocs zls zhl zhw => ?_) (fun zM57 zhqe zH zlocs zls zhl zhw => ?_) zH zlocs zls zhl zhw
  · subst zhqe
    try dsimp only at zhs
    refine lv_iconst (v := 0) zhx zhb dX12_figures_110 (by decide) ?_
    cases zhs
    exact zhret _ _ _ _ dX12_figures_111 (by rfl) zhw
  · subst zhqe
    try dsimp only at zhs
    refine lv_iconst (v := 1) zhx zhb dX12_figures_136 (by decide) ?_
    cases zhs
    exact zhret _ _ _ _ dX12_figures_137 (by rfl) zhw

-- OffFirstModel.cellItem in (0, ())
def sRef_cellItem (N : Nat) (M : Mm) : Option (Int32 × Mm) :=
  rdc 2 (M 2) 1 fun zv1 =>
  ltI (6 + zv1) fun zv2 =>
  (sRef_figures N 3 M).bind fun (zv3, zM4) =>
  (if zv3 = 0 then some (0, zM4)
  else rdc 2 (zM4 2) 1 fun zv5 =>
  (if zv5 = 6 then some (0, zM4)
  else rdc 6 (zM4 29) 0 fun zv6 =>
  (if 200 < zv6 then some (0, zM4)
  else rdc 6 (zM4 29) 1 fun zv7 =>
  (if 99 < zv7 then some (0, zM4)
  else rdc 6 (zM4 29) 2 fun zv8 =>
  (sRef_in (Int32.toInt64 zv8) 1 10).bind fun zv9 =>
  (if zv9 = 0 then some (0, zM4)
  else rdc 6 (zM4 29) 0 fun zv10 =>
  inc 12 zv2 <| ltM (mset zM4 3 (Int32.toNatClampNeg zv2) zv10) fun zM11 =>
  rdc 6 (zM11 29) 1 fun zv12 =>
  inc 12 zv2 <| ltM (mset zM11 4 (Int32.toNatClampNeg zv2) zv12) fun zM13 =>
  rdc 6 (zM13 29) 2 fun zv14 =>
  inc 12 zv2 <| ltM (mset zM13 5 (Int32.toNatClampNeg zv2) zv14) fun zM15 =>
  rdc 2 (zM15 2) 1 fun zv16 =>
  inc 2 1 <| ltM (mset zM15 2 (Int32.toNatClampNeg 1) (zv16 + 1)) fun zM17 =>
  some (1, zM17))))))
set_option maxHeartbeats 4000000 in
set_option maxRecDepth 100000 in
theorem cRef_cellItem (l : Launch) (D : va_G) (cI : ClassId) (h : Nat → Nat) (N : Nat) (M : Mm) (r : Int32) (M' : Mm) (zhs : sRef_cellItem N M = some (r, M')) : CtI l yX12_cellItem cX12_cellItem 2 (some .boolean) 3 D cI (wR h cI M) (wR h cI M') [.ref (h 0)] r := by
  unfold sRef_cellItem at zhs
  refine CtI_of (by decide +kernel) (Nat.le_of_ble_eq_true rfl) ⟨_, rfl⟩ ?_
  intro p e s m args below meth c A Q zls zH zlocs C zhw zhl zhret
  have zhx := C.1
  have zhb := C.2.1
  have zhown := C.2.2.2.2.1
  have zhtB := C.2.2.2.2.2.2.1
  have zhl : lv_has zls 2 [(0, .ref (h 0))] := zhl
  refine lv_bipush (v := 6) zhx zhb dX12_cellItem_0 (by decide) ?_
  refine lv_aload_n zhx zhb dX12_cellItem_2 rfl (lv_at zhl 0 rfl) ?_
  refine x_get C zhw inlX12 rfl 0 2 (by decide) kw_8_4 rfl (wR_c0 h cI M) rfl dX12_cellItem_3 ?_
  refine lv_iconst (v := 1) zhx zhb dX12_cellItem_6 (by decide) ?_
  obtain ⟨zv1, ze9, zhi, zhs⟩ := rdc_v zhs
  refine x_iald C zhw 2 (wR_c2 h cI M) zhi dX12_cellItem_7 ?_
  refine lv_topi (fun zy9 ze8 => ?_)
  obtain rfl : zv1 = zy9 := ze9.trans ze8.symm
  clear ze9 ze8
  refine lv_iadd zhx zhb dX12_cellItem_8 ?_
  obtain ⟨zv2, ze9, zhs⟩ := ltI_e zhs
  refine lv_topi (fun zy9 ze8 => ?_)
  obtain rfl : zv2 = zy9 := ze9.trans ze8.symm
  clear ze9 ze8
  refine lv_istore_n (lv' := [(1, .int zv2), (0, .ref (h 0))]) zhx zhb dX12_cellItem_9 rfl zhl (by decide) rfl (fun zls zhl => ?_)
  refine lv_aload_n zhx zhb dX12_cellItem_10 rfl (lv_at zhl 1 rfl) ?_
  refine lv_iconst (v := 3) zhx zhb dX12_cellItem_11 (by decide) ?_
  obtain ⟨⟨zv3, zM4⟩, zhp, zhs⟩ := bnd_e zhs
  try dsimp only at zhs
  refine x_cVI (As := [.int 3]) (rest := []) C zhw zhl (cRef_figures l D cI h N 3 M zv3 zM4 zhp) (by decide) (by decide) kw_16_10 kw_16_11 kw_16_12 kw_1_5 kw_16_13 md_X12_figures rfl 0 (wR_c0 h cI M) rfl rfl rfl rfl (Nat.le_of_ble_eq_true rfl) dX12_cellItem_12 (fun zH zlocs zhw hzv3 => ?_)
  refine lv_if_eq (tgt := 69) zhx zhb dX12_cellItem_15 (by decide) (fun zc9 => ?_) (fun zc9 => ?_)
  · replace zhs := br_T zhs zc9
    refine lv_iconst (v := 0) zhx zhb dX12_cellItem_69 (by decide) ?_
    cases zhs
    exact zhret _ _ _ _ dX12_cellItem_70 (by rfl) zhw
  · replace zhs := br_F zhs zc9
    refine lv_aload_n zhx zhb dX12_cellItem_18 rfl (lv_at zhl 1 rfl) ?_
    refine x_get C zhw inlX12 rfl 0 2 (by decide) kw_8_4 rfl (wR_c0 h cI zM4) rfl dX12_cellItem_19 ?_
    refine lv_iconst (v := 1) zhx zhb dX12_cellItem_22 (by decide) ?_
    obtain ⟨zv5, ze9, zhi, zhs⟩ := rdc_v zhs
    refine x_iald C zhw 2 (wR_c2 h cI zM4) zhi dX12_cellItem_23 ?_
    refine lv_topi (fun zy9 ze8 => ?_)
    obtain rfl : zv5 = zy9 := ze9.trans ze8.symm
    clear ze9 ze8
    refine lv_bipush (v := 6) zhx zhb dX12_cellItem_24 (by decide) ?_
    refine lv_icmp_eq (tgt := 69) zhx zhb dX12_cellItem_26 (by decide) (fun zc9 => ?_) (fun zc9 => ?_)
    · replace zhs := br_T zhs zc9
      refine lv_iconst (v := 0) zhx zhb dX12_cellItem_69 (by decide) ?_
      cases zhs
      exact zhret _ _ _ _ dX12_cellItem_70 (by rfl) zhw
    · replace zhs := br_F zhs zc9
      refine lv_aload_n zhx zhb dX12_cellItem_29 rfl (lv_at zhl 1 rfl) ?_
      refine x_get C zhw inlX12 rfl 0 32 (by decide) kw_9_7 rfl (wR_c0 h cI zM4) rfl dX12_cellItem_30 ?_
      refine lv_iconst (v := 0) zhx zhb dX12_cellItem_33 (by decide) ?_
      obtain ⟨zv6, ze9, zhi, zhs⟩ := rdc_v zhs
      refine x_iald C zhw 29 (wR_c29 h cI zM4) zhi dX12_cellItem_34 ?_
      refine lv_topi (fun zy9 ze8 => ?_)
      obtain rfl : zv6 = zy9 := ze9.trans ze8.symm
      clear ze9 ze8
      refine lv_sipush (v := 200) zhx zhb dX12_cellItem_35 (by decide) ?_
      refine lv_icmp_gt (tgt := 69) zhx zhb dX12_cellItem_38 (by decide) (fun zc9 => ?_) (fun zc9 => ?_)
      · replace zhs := br_T zhs zc9
        refine lv_iconst (v := 0) zhx zhb dX12_cellItem_69 (by decide) ?_
        cases zhs
        exact zhret _ _ _ _ dX12_cellItem_70 (by rfl) zhw
      · replace zhs := br_F zhs zc9
        refine lv_aload_n zhx zhb dX12_cellItem_41 rfl (lv_at zhl 1 rfl) ?_
        refine x_get C zhw inlX12 rfl 0 32 (by decide) kw_9_7 rfl (wR_c0 h cI zM4) rfl dX12_cellItem_42 ?_
        refine lv_iconst (v := 1) zhx zhb dX12_cellItem_45 (by decide) ?_
        obtain ⟨zv7, ze9, zhi, zhs⟩ := rdc_v zhs
        refine x_iald C zhw 29 (wR_c29 h cI zM4) zhi dX12_cellItem_46 ?_
        refine lv_topi (fun zy9 ze8 => ?_)
        obtain rfl : zv7 = zy9 := ze9.trans ze8.symm
        clear ze9 ze8
        refine lv_bipush (v := 99) zhx zhb dX12_cellItem_47 (by decide) ?_
        refine lv_icmp_gt (tgt := 69) zhx zhb dX12_cellItem_49 (by decide) (fun zc9 => ?_) (fun zc9 => ?_)
        · replace zhs := br_T zhs zc9
          refine lv_iconst (v := 0) zhx zhb dX12_cellItem_69 (by decide) ?_
          cases zhs
          exact zhret _ _ _ _ dX12_cellItem_70 (by rfl) zhw
        · replace zhs := br_F zhs zc9
          refine lv_aload_n zhx zhb dX12_cellItem_52 rfl (lv_at zhl 1 rfl) ?_
          refine x_get C zhw inlX12 rfl 0 32 (by decide) kw_9_7 rfl (wR_c0 h cI zM4) rfl dX12_cellItem_53 ?_
          refine lv_iconst (v := 2) zhx zhb dX12_cellItem_56 (by decide) ?_
          obtain ⟨zv8, ze9, zhi, zhs⟩ := rdc_v zhs
          refine x_iald C zhw 29 (wR_c29 h cI zM4) zhi dX12_cellItem_57 ?_
          refine lv_topi (fun zy9 ze8 => ?_)
          obtain rfl : zv8 = zy9 := ze9.trans ze8.symm
          clear ze9 ze8
          refine lv_i2l zhx zhb dX12_cellItem_58 rfl ?_
          refine lv_lconst (v := 1) zhx zhb dX12_cellItem_59 (by decide) ?_
          refine lv_ldc2 zhx zhb zhown (zhtB _ kw_16_9) dX12_cellItem_60 ?_
          obtain ⟨zv9, zhp, zhs⟩ := bnd_e zhs
          refine x_cSI (As := [.long (Int32.toInt64 zv8), .long 1, .long 10]) (rest := []) C zhw zhl (cRef_in l D cI h (Int32.toInt64 zv8) 1 10 zM4 zv9 zhp) (by decide) (by decide) kw_10_14 kw_10_15 kw_1_5 kw_10_16 md_X12_in rfl rfl (Nat.le_of_ble_eq_true rfl) dX12_cellItem_63 (fun zH zlocs zhw hzv9 => ?_)
          refine lv_if_ne (tgt := 71) zhx zhb dX12_cellItem_66 (by decide) (fun zc9 => ?_) (fun zc9 => ?_)
          · replace zhs := br_F zhs zc9
            refine lv_aload_n zhx zhb dX12_cellItem_71 rfl (lv_at zhl 1 rfl) ?_
            refine x_get C zhw inlX12 rfl 0 3 (by decide) kw_8_5 rfl (wR_c0 h cI zM4) rfl dX12_cellItem_72 ?_
            refine lv_iload_n zhx zhb dX12_cellItem_75 rfl (lv_at zhl 0 rfl) ?_
            refine lv_aload_n zhx zhb dX12_cellItem_76 rfl (lv_at zhl 1 rfl) ?_
            refine x_get C zhw inlX12 rfl 0 32 (by decide) kw_9_7 rfl (wR_c0 h cI zM4) rfl dX12_cellItem_77 ?_
            refine lv_iconst (v := 0) zhx zhb dX12_cellItem_80 (by decide) ?_
            obtain ⟨zv10, ze9, zhi, zhs⟩ := rdc_v zhs
            refine x_iald C zhw 29 (wR_c29 h cI zM4) zhi dX12_cellItem_81 ?_
            refine lv_topi (fun zy9 ze8 => ?_)
            obtain rfl : zv10 = zy9 := ze9.trans ze8.symm
            clear ze9 ze8
            obtain ⟨zhi, zhs⟩ := inc_e zhs
            refine x_iast C zhw 3 (wR_c3 h cI zM4) zhi (wR_a3 h cI zM4 _ _) dX12_cellItem_82 (fun zH zlocs zhw => ?_)
            obtain ⟨zM11, ze9, zhs⟩ := ltM_e zhs
            rw [← ze9] at zhw; clear ze9
            refine lv_aload_n zhx zhb dX12_cellItem_83 rfl (lv_at zhl 1 rfl) ?_
            refine x_get C zhw inlX12 rfl 0 4 (by decide) kw_8_6 rfl (wR_c0 h cI zM11) rfl dX12_cellItem_84 ?_
            refine lv_iload_n zhx zhb dX12_cellItem_87 rfl (lv_at zhl 0 rfl) ?_
            refine lv_aload_n zhx zhb dX12_cellItem_88 rfl (lv_at zhl 1 rfl) ?_
            refine x_get C zhw inlX12 rfl 0 32 (by decide) kw_9_7 rfl (wR_c0 h cI zM11) rfl dX12_cellItem_89 ?_
            refine lv_iconst (v := 1) zhx zhb dX12_cellItem_92 (by decide) ?_
            obtain ⟨zv12, ze9, zhi, zhs⟩ := rdc_v zhs
            refine x_iald C zhw 29 (wR_c29 h cI zM11) zhi dX12_cellItem_93 ?_
            refine lv_topi (fun zy9 ze8 => ?_)
            obtain rfl : zv12 = zy9 := ze9.trans ze8.symm
            clear ze9 ze8
            obtain ⟨zhi, zhs⟩ := inc_e zhs
            refine x_iast C zhw 4 (wR_c4 h cI zM11) zhi (wR_a4 h cI zM11 _ _) dX12_cellItem_94 (fun zH zlocs zhw => ?_)
            obtain ⟨zM13, ze9, zhs⟩ := ltM_e zhs
            rw [← ze9] at zhw; clear ze9
            refine lv_aload_n zhx zhb dX12_cellItem_95 rfl (lv_at zhl 1 rfl) ?_
            refine x_get C zhw inlX12 rfl 0 5 (by decide) kw_8_7 rfl (wR_c0 h cI zM13) rfl dX12_cellItem_96 ?_
            refine lv_iload_n zhx zhb dX12_cellItem_99 rfl (lv_at zhl 0 rfl) ?_
            refine lv_aload_n zhx zhb dX12_cellItem_100 rfl (lv_at zhl 1 rfl) ?_
            refine x_get C zhw inlX12 rfl 0 32 (by decide) kw_9_7 rfl (wR_c0 h cI zM13) rfl dX12_cellItem_101 ?_
            refine lv_iconst (v := 2) zhx zhb dX12_cellItem_104 (by decide) ?_
            obtain ⟨zv14, ze9, zhi, zhs⟩ := rdc_v zhs
            refine x_iald C zhw 29 (wR_c29 h cI zM13) zhi dX12_cellItem_105 ?_
            refine lv_topi (fun zy9 ze8 => ?_)
            obtain rfl : zv14 = zy9 := ze9.trans ze8.symm
            clear ze9 ze8
            obtain ⟨zhi, zhs⟩ := inc_e zhs
            refine x_iast C zhw 5 (wR_c5 h cI zM13) zhi (wR_a5 h cI zM13 _ _) dX12_cellItem_106 (fun zH zlocs zhw => ?_)
            obtain ⟨zM15, ze9, zhs⟩ := ltM_e zhs
            rw [← ze9] at zhw; clear ze9
            refine lv_aload_n zhx zhb dX12_cellItem_107 rfl (lv_at zhl 1 rfl) ?_
            refine x_get C zhw inlX12 rfl 0 2 (by decide) kw_8_4 rfl (wR_c0 h cI zM15) rfl dX12_cellItem_108 ?_
            refine lv_iconst (v := 1) zhx zhb dX12_cellItem_111 (by decide) ?_
            refine lv_dup2_11 zhx zhb dX12_cellItem_112 rfl rfl ?_
            obtain ⟨zv16, ze9, zhi, zhs⟩ := rdc_v zhs
            refine x_iald C zhw 2 (wR_c2 h cI zM15) zhi dX12_cellItem_113 ?_
            refine lv_topi (fun zy9 ze8 => ?_)
            obtain rfl : zv16 = zy9 := ze9.trans ze8.symm
            clear ze9 ze8
            refine lv_iconst (v := 1) zhx zhb dX12_cellItem_114 (by decide) ?_
            refine lv_iadd zhx zhb dX12_cellItem_115 ?_
            obtain ⟨zhi, zhs⟩ := inc_e zhs
            refine x_iast C zhw 2 (wR_c2 h cI zM15) zhi (wR_a2 h cI zM15 _ _) dX12_cellItem_116 (fun zH zlocs zhw => ?_)
            obtain ⟨zM17, ze9, zhs⟩ := ltM_e zhs
            rw [← ze9] at zhw; clear ze9
            refine lv_iconst (v := 1) zhx zhb dX12_cellItem_117 (by decide) ?_
            cases zhs
            exact zhret _ _ _ _ dX12_cellItem_118 (by rfl) zhw
          · replace zhs := br_T zhs zc9
            refine lv_iconst (v := 0) zhx zhb dX12_cellItem_69 (by decide) ?_
            cases zhs
            exact zhret _ _ _ _ dX12_cellItem_70 (by rfl) zhw

-- OffFirstModel.foodItem in (0, ())
def sRef_foodItem (N : Nat) (M : Mm) : Option (Int32 × Mm) :=
  rdc 2 (M 7) 1 fun zv1 =>
  ltI (10 + zv1) fun zv2 =>
  (sRef_figures N 6 M).bind fun (zv3, zM4) =>
  (if zv3 = 0 then some (0, zM4)
  else rdc 2 (zM4 7) 1 fun zv5 =>
  (if zv5 = 10 then some (0, zM4)
  else rdc 6 (zM4 29) 0 fun zv6 =>
  (if 3 < zv6 then some (0, zM4)
  else rdc 6 (zM4 29) 1 fun zv7 =>
  rdc 2 (zM4 2) 1 fun zv8 =>
  (if zv8 ≤ zv7 then some (0, zM4)
  else rdc 6 (zM4 29) 2 fun zv9 =>
  (if 99 < zv9 then some (0, zM4)
  else rdc 6 (zM4 29) 3 fun zv10 =>
  (sRef_in (Int32.toInt64 zv10) 1 240).bind fun zv11 =>
  (if zv11 = 0 then some (0, zM4)
  else rdc 6 (zM4 29) 4 fun zv12 =>
  (if 99 < zv12 then some (0, zM4)
  else rdc 6 (zM4 29) 5 fun zv13 =>
  (if zv13 ≤ 3 then rdc 6 (zM4 29) 0 fun zv14 =>
  inc 20 zv2 <| ltM (mset zM4 8 (Int32.toNatClampNeg zv2) zv14) fun zM15 =>
  rdc 6 (zM15 29) 1 fun zv16 =>
  inc 20 zv2 <| ltM (mset zM15 9 (Int32.toNatClampNeg zv2) zv16) fun zM17 =>
  rdc 6 (zM17 29) 2 fun zv18 =>
  inc 20 zv2 <| ltM (mset zM17 10 (Int32.toNatClampNeg zv2) zv18) fun zM19 =>
  rdc 6 (zM19 29) 3 fun zv20 =>
  inc 20 zv2 <| ltM (mset zM19 11 (Int32.toNatClampNeg zv2) zv20) fun zM21 =>
  rdc 6 (zM21 29) 4 fun zv22 =>
  inc 20 zv2 <| ltM (mset zM21 12 (Int32.toNatClampNeg zv2) zv22) fun zM23 =>
  rdc 6 (zM23 29) 5 fun zv24 =>
  inc 20 zv2 <| ltM (mset zM23 13 (Int32.toNatClampNeg zv2) zv24) fun zM25 =>
  rdc 2 (zM25 7) 1 fun zv26 =>
  inc 2 1 <| ltM (mset zM25 7 (Int32.toNatClampNeg 1) (zv26 + 1)) fun zM27 =>
  some (1, zM27)
  else some (0, zM4)))))))))
set_option maxHeartbeats 4000000 in
set_option maxRecDepth 100000 in
theorem cRef_foodItem (l : Launch) (D : va_G) (cI : ClassId) (h : Nat → Nat) (N : Nat) (M : Mm) (r : Int32) (M' : Mm) (zhs : sRef_foodItem N M = some (r, M')) : CtI l yX12_foodItem cX12_foodItem 2 (some .boolean) 3 D cI (wR h cI M) (wR h cI M') [.ref (h 0)] r := by
  unfold sRef_foodItem at zhs
  refine CtI_of (by decide +kernel) (Nat.le_of_ble_eq_true rfl) ⟨_, rfl⟩ ?_
  intro p e s m args below meth c A Q zls zH zlocs C zhw zhl zhret
  have zhx := C.1
  have zhb := C.2.1
  have zhown := C.2.2.2.2.1
  have zhtB := C.2.2.2.2.2.2.1
  have zhl : lv_has zls 2 [(0, .ref (h 0))] := zhl
  refine lv_bipush (v := 10) zhx zhb dX12_foodItem_0 (by decide) ?_
  refine lv_aload_n zhx zhb dX12_foodItem_2 rfl (lv_at zhl 0 rfl) ?_
  refine x_get C zhw inlX12 rfl 0 7 (by decide) kw_8_9 rfl (wR_c0 h cI M) rfl dX12_foodItem_3 ?_
  refine lv_iconst (v := 1) zhx zhb dX12_foodItem_6 (by decide) ?_
  obtain ⟨zv1, ze9, zhi, zhs⟩ := rdc_v zhs
  refine x_iald C zhw 7 (wR_c7 h cI M) zhi dX12_foodItem_7 ?_
  refine lv_topi (fun zy9 ze8 => ?_)
  obtain rfl : zv1 = zy9 := ze9.trans ze8.symm
  clear ze9 ze8
  refine lv_iadd zhx zhb dX12_foodItem_8 ?_
  obtain ⟨zv2, ze9, zhs⟩ := ltI_e zhs
  refine lv_topi (fun zy9 ze8 => ?_)
  obtain rfl : zv2 = zy9 := ze9.trans ze8.symm
  clear ze9 ze8
  refine lv_istore_n (lv' := [(1, .int zv2), (0, .ref (h 0))]) zhx zhb dX12_foodItem_9 rfl zhl (by decide) rfl (fun zls zhl => ?_)
  refine lv_aload_n zhx zhb dX12_foodItem_10 rfl (lv_at zhl 1 rfl) ?_
  refine lv_bipush (v := 6) zhx zhb dX12_foodItem_11 (by decide) ?_
  obtain ⟨⟨zv3, zM4⟩, zhp, zhs⟩ := bnd_e zhs
  try dsimp only at zhs
  refine x_cVI (As := [.int 6]) (rest := []) C zhw zhl (cRef_figures l D cI h N 6 M zv3 zM4 zhp) (by decide) (by decide) kw_16_10 kw_16_11 kw_16_12 kw_1_5 kw_16_13 md_X12_figures rfl 0 (wR_c0 h cI M) rfl rfl rfl rfl (Nat.le_of_ble_eq_true rfl) dX12_foodItem_13 (fun zH zlocs zhw hzv3 => ?_)
  refine lv_if_eq (tgt := 104) zhx zhb dX12_foodItem_16 (by decide) (fun zc9 => ?_) (fun zc9 => ?_)
  · replace zhs := br_T zhs zc9
    refine lv_iconst (v := 0) zhx zhb dX12_foodItem_104 (by decide) ?_
    cases zhs
    exact zhret _ _ _ _ dX12_foodItem_105 (by rfl) zhw
  · replace zhs := br_F zhs zc9
    refine lv_aload_n zhx zhb dX12_foodItem_19 rfl (lv_at zhl 1 rfl) ?_
    refine x_get C zhw inlX12 rfl 0 7 (by decide) kw_8_9 rfl (wR_c0 h cI zM4) rfl dX12_foodItem_20 ?_
    refine lv_iconst (v := 1) zhx zhb dX12_foodItem_23 (by decide) ?_
    obtain ⟨zv5, ze9, zhi, zhs⟩ := rdc_v zhs
    refine x_iald C zhw 7 (wR_c7 h cI zM4) zhi dX12_foodItem_24 ?_
    refine lv_topi (fun zy9 ze8 => ?_)
    obtain rfl : zv5 = zy9 := ze9.trans ze8.symm
    clear ze9 ze8
    refine lv_bipush (v := 10) zhx zhb dX12_foodItem_25 (by decide) ?_
    refine lv_icmp_eq (tgt := 104) zhx zhb dX12_foodItem_27 (by decide) (fun zc9 => ?_) (fun zc9 => ?_)
    · replace zhs := br_T zhs zc9
      refine lv_iconst (v := 0) zhx zhb dX12_foodItem_104 (by decide) ?_
      cases zhs
      exact zhret _ _ _ _ dX12_foodItem_105 (by rfl) zhw
    · replace zhs := br_F zhs zc9
      refine lv_aload_n zhx zhb dX12_foodItem_30 rfl (lv_at zhl 1 rfl) ?_
      refine x_get C zhw inlX12 rfl 0 32 (by decide) kw_9_7 rfl (wR_c0 h cI zM4) rfl dX12_foodItem_31 ?_
      refine lv_iconst (v := 0) zhx zhb dX12_foodItem_34 (by decide) ?_
      obtain ⟨zv6, ze9, zhi, zhs⟩ := rdc_v zhs
      refine x_iald C zhw 29 (wR_c29 h cI zM4) zhi dX12_foodItem_35 ?_
      refine lv_topi (fun zy9 ze8 => ?_)
      obtain rfl : zv6 = zy9 := ze9.trans ze8.symm
      clear ze9 ze8
      refine lv_iconst (v := 3) zhx zhb dX12_foodItem_36 (by decide) ?_
      refine lv_icmp_gt (tgt := 104) zhx zhb dX12_foodItem_37 (by decide) (fun zc9 => ?_) (fun zc9 => ?_)
      · replace zhs := br_T zhs zc9
        refine lv_iconst (v := 0) zhx zhb dX12_foodItem_104 (by decide) ?_
        cases zhs
        exact zhret _ _ _ _ dX12_foodItem_105 (by rfl) zhw
      · replace zhs := br_F zhs zc9
        refine lv_aload_n zhx zhb dX12_foodItem_40 rfl (lv_at zhl 1 rfl) ?_
        refine x_get C zhw inlX12 rfl 0 32 (by decide) kw_9_7 rfl (wR_c0 h cI zM4) rfl dX12_foodItem_41 ?_
        refine lv_iconst (v := 1) zhx zhb dX12_foodItem_44 (by decide) ?_
        obtain ⟨zv7, ze9, zhi, zhs⟩ := rdc_v zhs
        refine x_iald C zhw 29 (wR_c29 h cI zM4) zhi dX12_foodItem_45 ?_
        refine lv_topi (fun zy9 ze8 => ?_)
        obtain rfl : zv7 = zy9 := ze9.trans ze8.symm
        clear ze9 ze8
        refine lv_aload_n zhx zhb dX12_foodItem_46 rfl (lv_at zhl 1 rfl) ?_
        refine x_get C zhw inlX12 rfl 0 2 (by decide) kw_8_4 rfl (wR_c0 h cI zM4) rfl dX12_foodItem_47 ?_
        refine lv_iconst (v := 1) zhx zhb dX12_foodItem_50 (by decide) ?_
        obtain ⟨zv8, ze9, zhi, zhs⟩ := rdc_v zhs
        refine x_iald C zhw 2 (wR_c2 h cI zM4) zhi dX12_foodItem_51 ?_
        refine lv_topi (fun zy9 ze8 => ?_)
        obtain rfl : zv8 = zy9 := ze9.trans ze8.symm
        clear ze9 ze8
        refine lv_icmp_ge (tgt := 104) zhx zhb dX12_foodItem_52 (by decide) (fun zc9 => ?_) (fun zc9 => ?_)
        · replace zhs := br_T zhs zc9
          refine lv_iconst (v := 0) zhx zhb dX12_foodItem_104 (by decide) ?_
          cases zhs
          exact zhret _ _ _ _ dX12_foodItem_105 (by rfl) zhw
        · replace zhs := br_F zhs zc9
          refine lv_aload_n zhx zhb dX12_foodItem_55 rfl (lv_at zhl 1 rfl) ?_
          refine x_get C zhw inlX12 rfl 0 32 (by decide) kw_9_7 rfl (wR_c0 h cI zM4) rfl dX12_foodItem_56 ?_
          refine lv_iconst (v := 2) zhx zhb dX12_foodItem_59 (by decide) ?_
          obtain ⟨zv9, ze9, zhi, zhs⟩ := rdc_v zhs
          refine x_iald C zhw 29 (wR_c29 h cI zM4) zhi dX12_foodItem_60 ?_
          refine lv_topi (fun zy9 ze8 => ?_)
          obtain rfl : zv9 = zy9 := ze9.trans ze8.symm
          clear ze9 ze8
          refine lv_bipush (v := 99) zhx zhb dX12_foodItem_61 (by decide) ?_
          refine lv_icmp_gt (tgt := 104) zhx zhb dX12_foodItem_63 (by decide) (fun zc9 => ?_) (fun zc9 => ?_)
          · replace zhs := br_T zhs zc9
            refine lv_iconst (v := 0) zhx zhb dX12_foodItem_104 (by decide) ?_
            cases zhs
            exact zhret _ _ _ _ dX12_foodItem_105 (by rfl) zhw
          · replace zhs := br_F zhs zc9
            refine lv_aload_n zhx zhb dX12_foodItem_66 rfl (lv_at zhl 1 rfl) ?_
            refine x_get C zhw inlX12 rfl 0 32 (by decide) kw_9_7 rfl (wR_c0 h cI zM4) rfl dX12_foodItem_67 ?_
            refine lv_iconst (v := 3) zhx zhb dX12_foodItem_70 (by decide) ?_
            obtain ⟨zv10, ze9, zhi, zhs⟩ := rdc_v zhs
            refine x_iald C zhw 29 (wR_c29 h cI zM4) zhi dX12_foodItem_71 ?_
            refine lv_topi (fun zy9 ze8 => ?_)
            obtain rfl : zv10 = zy9 := ze9.trans ze8.symm
            clear ze9 ze8
            refine lv_i2l zhx zhb dX12_foodItem_72 rfl ?_
            refine lv_lconst (v := 1) zhx zhb dX12_foodItem_73 (by decide) ?_
            refine lv_ldc2 zhx zhb zhown (zhtB _ kw_16_21) dX12_foodItem_74 ?_
            obtain ⟨zv11, zhp, zhs⟩ := bnd_e zhs
            refine x_cSI (As := [.long (Int32.toInt64 zv10), .long 1, .long 240]) (rest := []) C zhw zhl (cRef_in l D cI h (Int32.toInt64 zv10) 1 240 zM4 zv11 zhp) (by decide) (by decide) kw_10_14 kw_10_15 kw_1_5 kw_10_16 md_X12_in rfl rfl (Nat.le_of_ble_eq_true rfl) dX12_foodItem_77 (fun zH zlocs zhw hzv11 => ?_)
            refine lv_if_eq (tgt := 104) zhx zhb dX12_foodItem_80 (by decide) (fun zc9 => ?_) (fun zc9 => ?_)
            · replace zhs := br_T zhs zc9
              refine lv_iconst (v := 0) zhx zhb dX12_foodItem_104 (by decide) ?_
              cases zhs
              exact zhret _ _ _ _ dX12_foodItem_105 (by rfl) zhw
            · replace zhs := br_F zhs zc9
              refine lv_aload_n zhx zhb dX12_foodItem_83 rfl (lv_at zhl 1 rfl) ?_
              refine x_get C zhw inlX12 rfl 0 32 (by decide) kw_9_7 rfl (wR_c0 h cI zM4) rfl dX12_foodItem_84 ?_
              refine lv_iconst (v := 4) zhx zhb dX12_foodItem_87 (by decide) ?_
              obtain ⟨zv12, ze9, zhi, zhs⟩ := rdc_v zhs
              refine x_iald C zhw 29 (wR_c29 h cI zM4) zhi dX12_foodItem_88 ?_
              refine lv_topi (fun zy9 ze8 => ?_)
              obtain rfl : zv12 = zy9 := ze9.trans ze8.symm
              clear ze9 ze8
              refine lv_bipush (v := 99) zhx zhb dX12_foodItem_89 (by decide) ?_
              refine lv_icmp_gt (tgt := 104) zhx zhb dX12_foodItem_91 (by decide) (fun zc9 => ?_) (fun zc9 => ?_)
              · replace zhs := br_T zhs zc9
                refine lv_iconst (v := 0) zhx zhb dX12_foodItem_104 (by decide) ?_
                cases zhs
                exact zhret _ _ _ _ dX12_foodItem_105 (by rfl) zhw
              · replace zhs := br_F zhs zc9
                refine lv_aload_n zhx zhb dX12_foodItem_94 rfl (lv_at zhl 1 rfl) ?_
                refine x_get C zhw inlX12 rfl 0 32 (by decide) kw_9_7 rfl (wR_c0 h cI zM4) rfl dX12_foodItem_95 ?_
                refine lv_iconst (v := 5) zhx zhb dX12_foodItem_98 (by decide) ?_
                obtain ⟨zv13, ze9, zhi, zhs⟩ := rdc_v zhs
                refine x_iald C zhw 29 (wR_c29 h cI zM4) zhi dX12_foodItem_99 ?_
                refine lv_topi (fun zy9 ze8 => ?_)
                obtain rfl : zv13 = zy9 := ze9.trans ze8.symm
                clear ze9 ze8
                refine lv_iconst (v := 3) zhx zhb dX12_foodItem_100 (by decide) ?_
                refine lv_icmp_le (tgt := 106) zhx zhb dX12_foodItem_101 (by decide) (fun zc9 => ?_) (fun zc9 => ?_)
                · replace zhs := br_T zhs zc9
                  refine lv_aload_n zhx zhb dX12_foodItem_106 rfl (lv_at zhl 1 rfl) ?_
                  refine x_get C zhw inlX12 rfl 0 8 (by decide) kw_8_10 rfl (wR_c0 h cI zM4) rfl dX12_foodItem_107 ?_
                  refine lv_iload_n zhx zhb dX12_foodItem_110 rfl (lv_at zhl 0 rfl) ?_
                  refine lv_aload_n zhx zhb dX12_foodItem_111 rfl (lv_at zhl 1 rfl) ?_
                  refine x_get C zhw inlX12 rfl 0 32 (by decide) kw_9_7 rfl (wR_c0 h cI zM4) rfl dX12_foodItem_112 ?_
                  refine lv_iconst (v := 0) zhx zhb dX12_foodItem_115 (by decide) ?_
                  obtain ⟨zv14, ze9, zhi, zhs⟩ := rdc_v zhs
                  refine x_iald C zhw 29 (wR_c29 h cI zM4) zhi dX12_foodItem_116 ?_
                  refine lv_topi (fun zy9 ze8 => ?_)
                  obtain rfl : zv14 = zy9 := ze9.trans ze8.symm
                  clear ze9 ze8
                  obtain ⟨zhi, zhs⟩ := inc_e zhs
                  refine x_iast C zhw 8 (wR_c8 h cI zM4) zhi (wR_a8 h cI zM4 _ _) dX12_foodItem_117 (fun zH zlocs zhw => ?_)
                  obtain ⟨zM15, ze9, zhs⟩ := ltM_e zhs
                  rw [← ze9] at zhw; clear ze9
                  refine lv_aload_n zhx zhb dX12_foodItem_118 rfl (lv_at zhl 1 rfl) ?_
                  refine x_get C zhw inlX12 rfl 0 9 (by decide) kw_8_11 rfl (wR_c0 h cI zM15) rfl dX12_foodItem_119 ?_
                  refine lv_iload_n zhx zhb dX12_foodItem_122 rfl (lv_at zhl 0 rfl) ?_
                  refine lv_aload_n zhx zhb dX12_foodItem_123 rfl (lv_at zhl 1 rfl) ?_
                  refine x_get C zhw inlX12 rfl 0 32 (by decide) kw_9_7 rfl (wR_c0 h cI zM15) rfl dX12_foodItem_124 ?_
                  refine lv_iconst (v := 1) zhx zhb dX12_foodItem_127 (by decide) ?_
                  obtain ⟨zv16, ze9, zhi, zhs⟩ := rdc_v zhs
                  refine x_iald C zhw 29 (wR_c29 h cI zM15) zhi dX12_foodItem_128 ?_
                  refine lv_topi (fun zy9 ze8 => ?_)
                  obtain rfl : zv16 = zy9 := ze9.trans ze8.symm
                  clear ze9 ze8
                  obtain ⟨zhi, zhs⟩ := inc_e zhs
                  refine x_iast C zhw 9 (wR_c9 h cI zM15) zhi (wR_a9 h cI zM15 _ _) dX12_foodItem_129 (fun zH zlocs zhw => ?_)
                  obtain ⟨zM17, ze9, zhs⟩ := ltM_e zhs
                  rw [← ze9] at zhw; clear ze9
                  refine lv_aload_n zhx zhb dX12_foodItem_130 rfl (lv_at zhl 1 rfl) ?_
                  refine x_get C zhw inlX12 rfl 0 10 (by decide) kw_8_12 rfl (wR_c0 h cI zM17) rfl dX12_foodItem_131 ?_
                  refine lv_iload_n zhx zhb dX12_foodItem_134 rfl (lv_at zhl 0 rfl) ?_
                  refine lv_aload_n zhx zhb dX12_foodItem_135 rfl (lv_at zhl 1 rfl) ?_
                  refine x_get C zhw inlX12 rfl 0 32 (by decide) kw_9_7 rfl (wR_c0 h cI zM17) rfl dX12_foodItem_136 ?_
                  refine lv_iconst (v := 2) zhx zhb dX12_foodItem_139 (by decide) ?_
                  obtain ⟨zv18, ze9, zhi, zhs⟩ := rdc_v zhs
                  refine x_iald C zhw 29 (wR_c29 h cI zM17) zhi dX12_foodItem_140 ?_
                  refine lv_topi (fun zy9 ze8 => ?_)
                  obtain rfl : zv18 = zy9 := ze9.trans ze8.symm
                  clear ze9 ze8
                  obtain ⟨zhi, zhs⟩ := inc_e zhs
                  refine x_iast C zhw 10 (wR_c10 h cI zM17) zhi (wR_a10 h cI zM17 _ _) dX12_foodItem_141 (fun zH zlocs zhw => ?_)
                  obtain ⟨zM19, ze9, zhs⟩ := ltM_e zhs
                  rw [← ze9] at zhw; clear ze9
                  refine lv_aload_n zhx zhb dX12_foodItem_142 rfl (lv_at zhl 1 rfl) ?_
                  refine x_get C zhw inlX12 rfl 0 11 (by decide) kw_8_13 rfl (wR_c0 h cI zM19) rfl dX12_foodItem_143 ?_
                  refine lv_iload_n zhx zhb dX12_foodItem_146 rfl (lv_at zhl 0 rfl) ?_
                  refine lv_aload_n zhx zhb dX12_foodItem_147 rfl (lv_at zhl 1 rfl) ?_
                  refine x_get C zhw inlX12 rfl 0 32 (by decide) kw_9_7 rfl (wR_c0 h cI zM19) rfl dX12_foodItem_148 ?_
                  refine lv_iconst (v := 3) zhx zhb dX12_foodItem_151 (by decide) ?_
                  obtain ⟨zv20, ze9, zhi, zhs⟩ := rdc_v zhs
                  refine x_iald C zhw 29 (wR_c29 h cI zM19) zhi dX12_foodItem_152 ?_
                  refine lv_topi (fun zy9 ze8 => ?_)
                  obtain rfl : zv20 = zy9 := ze9.trans ze8.symm
                  clear ze9 ze8
                  obtain ⟨zhi, zhs⟩ := inc_e zhs
                  refine x_iast C zhw 11 (wR_c11 h cI zM19) zhi (wR_a11 h cI zM19 _ _) dX12_foodItem_153 (fun zH zlocs zhw => ?_)
                  obtain ⟨zM21, ze9, zhs⟩ := ltM_e zhs
                  rw [← ze9] at zhw; clear ze9
                  refine lv_aload_n zhx zhb dX12_foodItem_154 rfl (lv_at zhl 1 rfl) ?_
                  refine x_get C zhw inlX12 rfl 0 12 (by decide) kw_8_14 rfl (wR_c0 h cI zM21) rfl dX12_foodItem_155 ?_
                  refine lv_iload_n zhx zhb dX12_foodItem_158 rfl (lv_at zhl 0 rfl) ?_
                  refine lv_aload_n zhx zhb dX12_foodItem_159 rfl (lv_at zhl 1 rfl) ?_
                  refine x_get C zhw inlX12 rfl 0 32 (by decide) kw_9_7 rfl (wR_c0 h cI zM21) rfl dX12_foodItem_160 ?_
                  refine lv_iconst (v := 4) zhx zhb dX12_foodItem_163 (by decide) ?_
                  obtain ⟨zv22, ze9, zhi, zhs⟩ := rdc_v zhs
                  refine x_iald C zhw 29 (wR_c29 h cI zM21) zhi dX12_foodItem_164 ?_
                  refine lv_topi (fun zy9 ze8 => ?_)
                  obtain rfl : zv22 = zy9 := ze9.trans ze8.symm
                  clear ze9 ze8
                  obtain ⟨zhi, zhs⟩ := inc_e zhs
                  refine x_iast C zhw 12 (wR_c12 h cI zM21) zhi (wR_a12 h cI zM21 _ _) dX12_foodItem_165 (fun zH zlocs zhw => ?_)
                  obtain ⟨zM23, ze9, zhs⟩ := ltM_e zhs
                  rw [← ze9] at zhw; clear ze9
                  refine lv_aload_n zhx zhb dX12_foodItem_166 rfl (lv_at zhl 1 rfl) ?_
                  refine x_get C zhw inlX12 rfl 0 13 (by decide) kw_8_15 rfl (wR_c0 h cI zM23) rfl dX12_foodItem_167 ?_
                  refine lv_iload_n zhx zhb dX12_foodItem_170 rfl (lv_at zhl 0 rfl) ?_
                  refine lv_aload_n zhx zhb dX12_foodItem_171 rfl (lv_at zhl 1 rfl) ?_
                  refine x_get C zhw inlX12 rfl 0 32 (by decide) kw_9_7 rfl (wR_c0 h cI zM23) rfl dX12_foodItem_172 ?_
                  refine lv_iconst (v := 5) zhx zhb dX12_foodItem_175 (by decide) ?_
                  obtain ⟨zv24, ze9, zhi, zhs⟩ := rdc_v zhs
                  refine x_iald C zhw 29 (wR_c29 h cI zM23) zhi dX12_foodItem_176 ?_
                  refine lv_topi (fun zy9 ze8 => ?_)
                  obtain rfl : zv24 = zy9 := ze9.trans ze8.symm
                  clear ze9 ze8
                  obtain ⟨zhi, zhs⟩ := inc_e zhs
                  refine x_iast C zhw 13 (wR_c13 h cI zM23) zhi (wR_a13 h cI zM23 _ _) dX12_foodItem_177 (fun zH zlocs zhw => ?_)
                  obtain ⟨zM25, ze9, zhs⟩ := ltM_e zhs
                  rw [← ze9] at zhw; clear ze9
                  refine lv_aload_n zhx zhb dX12_foodItem_178 rfl (lv_at zhl 1 rfl) ?_
                  refine x_get C zhw inlX12 rfl 0 7 (by decide) kw_8_9 rfl (wR_c0 h cI zM25) rfl dX12_foodItem_179 ?_
                  refine lv_iconst (v := 1) zhx zhb dX12_foodItem_182 (by decide) ?_
                  refine lv_dup2_11 zhx zhb dX12_foodItem_183 rfl rfl ?_
                  obtain ⟨zv26, ze9, zhi, zhs⟩ := rdc_v zhs
                  refine x_iald C zhw 7 (wR_c7 h cI zM25) zhi dX12_foodItem_184 ?_
                  refine lv_topi (fun zy9 ze8 => ?_)
                  obtain rfl : zv26 = zy9 := ze9.trans ze8.symm
                  clear ze9 ze8
                  refine lv_iconst (v := 1) zhx zhb dX12_foodItem_185 (by decide) ?_
                  refine lv_iadd zhx zhb dX12_foodItem_186 ?_
                  obtain ⟨zhi, zhs⟩ := inc_e zhs
                  refine x_iast C zhw 7 (wR_c7 h cI zM25) zhi (wR_a7 h cI zM25 _ _) dX12_foodItem_187 (fun zH zlocs zhw => ?_)
                  obtain ⟨zM27, ze9, zhs⟩ := ltM_e zhs
                  rw [← ze9] at zhw; clear ze9
                  refine lv_iconst (v := 1) zhx zhb dX12_foodItem_188 (by decide) ?_
                  cases zhs
                  exact zhret _ _ _ _ dX12_foodItem_189 (by rfl) zhw
                · replace zhs := br_F zhs zc9
                  refine lv_iconst (v := 0) zhx zhb dX12_foodItem_104 (by decide) ?_
                  cases zhs
                  exact zhret _ _ _ _ dX12_foodItem_105 (by rfl) zhw

