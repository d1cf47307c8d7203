-- OffFirstModel.goToEvening in (0, ())
def LRef_goToEvening_0_6 (N : Nat) (zM1 : Mm) : Option ((Mm) ⊕ ((Mm))) :=
  rdc 4 (zM1 27) 1 fun zv4 =>
  (if (remI zv4 24) = 18 then some (.inr zM1)
  else (sRef_goHour N 1 zM1).bind fun zM5 =>
  some (.inl zM5))
def sRef_goToEvening (N : Nat) (M : Mm) : Option Mm :=
  (itr (fun z : Mm => LRef_goToEvening_0_6 N z) N M).bind fun zM7 =>
  some zM7
set_option maxHeartbeats 4000000 in
set_option maxRecDepth 100000 in
theorem cRef_goToEvening (l : Launch) (D : va_G) (cI : ClassId) (h : Nat → Nat) (N : Nat) (M : Mm) (M' : Mm) (zhs : sRef_goToEvening N M = some M') : CtV l yX12_goToEvening cX12_goToEvening 1 4 D cI (wR h cI M) (wR h cI M') [.ref (h 0)] := by
  unfold sRef_goToEvening at zhs
  refine CtV_of (by decide +kernel) (Nat.le_of_ble_eq_true rfl) ?_
  intro p e s m args below meth c A Q zls zH zlocs C zhw zhl zhret
  have zhx := C.1
  have zhb := C.2.1
  have zhown := C.2.2.2.2.1
  have zhtB := C.2.2.2.2.2.2.1
  have zhl : lv_has zls 1 [(0, .ref (h 0))] := zhl
  obtain ⟨zq6, zhq6, zhs⟩ := bnd_e zhs
  have hloop6 : ∀ (zn : Nat) (zM1 : Mm) (zq : (Mm)), itr (fun z : Mm => LRef_goToEvening_0_6 N z) zn zM1 = some zq → (∀ (zy1 : Mm), zy1 = zq → ∀ (zH : Heap) (zlocs : List Loc) (zls : Array Slot), lv_has zls 1 [] → Hw D (wR h cI zy1) A s.heap zH zlocs → W p l e (RM 4) s m args below meth c zH zlocs 0 0 Q (F0 m 22 zls [])) → ∀ (zH : Heap) (zlocs : List Loc) (zls : Array Slot), lv_has zls 1 [(0, .ref (h 0))] → Hw D (wR h cI zM1) A s.heap zH zlocs → W p l e (RM 4) s m args below meth c zH zlocs 0 0 Q (F0 m 0 zls []) := by
    intro zn
    induction zn with
    | zero => intro zM1 zq zhq; exact absurd zhq (fun h9 => itr_0 h9)
    | succ zn zih =>
        intro zM1 zq zhq k0_22 zH zlocs zls zhl zhw
        obtain ⟨zy9, zhs, zhq⟩ := itr_s zhq
        replace zhs : LRef_goToEvening_0_6 N zM1 = some zy9 := zhs
        unfold LRef_goToEvening_0_6 at zhs
        refine lv_aload_n zhx zhb dX12_goToEvening_0 rfl (lv_at zhl 0 rfl) ?_
        refine x_get C zhw inlX12 rfl 0 27 (by decide) kw_9_5 rfl (wR_c0 h cI zM1) rfl dX12_goToEvening_1 ?_
        refine lv_iconst (v := 1) zhx zhb dX12_goToEvening_4 (by decide) ?_
        obtain ⟨zv4, ze9, zhi, zhs⟩ := rdc_v zhs
        refine x_iald C zhw 27 (wR_c27 h cI zM1) zhi dX12_goToEvening_5 ?_
        refine lv_topi (fun zy9 ze8 => ?_)
        obtain rfl : zv4 = zy9 := ze9.trans ze8.symm
        clear ze9 ze8
        refine lv_bipush (v := 24) zhx zhb dX12_goToEvening_6 (by decide) ?_
        refine lv_irem zhx zhb dX12_goToEvening_8 (by decide) ?_
        refine lv_bipush (v := 18) zhx zhb dX12_goToEvening_9 (by decide) ?_
        refine lv_icmp_eq (tgt := 22) zhx zhb dX12_goToEvening_11 (by decide) (fun zc9 => ?_) (fun zc9 => ?_)
        · replace zhs := br_T zhs zc9
          cases zhs
          exact k0_22 zM1 (itk_q zhq) zH zlocs zls (lv_sub zhl [] rfl) zhw
        · replace zhs := br_F zhs zc9
          refine lv_aload_n zhx zhb dX12_goToEvening_14 rfl (lv_at zhl 0 rfl) ?_
          refine lv_iconst (v := 1) zhx zhb dX12_goToEvening_15 (by decide) ?_
          obtain ⟨zM5, zhp, zhs⟩ := bnd_e zhs
          refine x_cVV (As := [.int 1]) (rest := []) C zhw zhl (cRef_goHour l D cI h N 1 zM1 zM5 zhp) (by decide) (by decide) kw_23_19 kw_23_20 kw_23_21 kw_1_5 kw_23_22 md_X12_goHour rfl 0 (wR_c0 h cI zM1) rfl rfl rfl rfl (Nat.le_of_ble_eq_true rfl) dX12_goToEvening_16 (fun zH zlocs zhw => ?_)
          refine lv_goto (tgt := 0) zhx zhb dX12_goToEvening_19 (by decide) ?_
          cases zhs
          exact zih zM5 zq (itk_l zhq) k0_22 zH zlocs zls zhl zhw
  refine hloop6 N M zq6 zhq6 (fun zM7 zhqe zH zlocs zls zhl zhw => ?_) zH zlocs zls zhl zhw
  · subst zhqe
    cases zhs
    exact zhret _ _ _ _ dX12_goToEvening_22 zhw

-- OffFirstModel.figure in (0, ())
def LRef_figure_8_8 (N : Nat) (a2 : Int32) (a4 : Int32) (zx2 : Int32) (zx3 : Int32) : Option ((Int32 × Int32) ⊕ ((Int32))) :=
  (if zx3 ≤ a4 then some (.inr zx2)
  else dvc a2 (ltI (zx2 / a2) fun zv6 =>
  ltI (zx3 + (-1)) fun zv7 =>
  some (.inl (zv6, zv7))))
def sRef_figure (N : Nat) (a1 : Int32) (a2 : Int32) (a3 : Int32) (a4 : Int32) : Option Int32 :=
  ltI (a3 - 1) fun zv1 =>
  (itr (fun z : Int32 × Int32 => LRef_figure_8_8 N a2 a4 z.1 z.2) N (a1, zv1)).bind fun zv9 =>
  dvc a2 (some (remI zv9 a2))
set_option maxHeartbeats 4000000 in
set_option maxRecDepth 100000 in
theorem cRef_figure (l : Launch) (D : va_G) (cI : ClassId) (h : Nat → Nat) (N : Nat) (a1 : Int32) (a2 : Int32) (a3 : Int32) (a4 : Int32) (M : Mm) (r : Int32) (zhs : sRef_figure N a1 a2 a3 a4 = some r) : CtI l yX12_figure cX12_figure 7 (some .int) 1 D cI (wR h cI M) (wR h cI M) [.ref (h 0), .int a1, .int a2, .int a3, .int a4] r := by
  unfold sRef_figure at zhs
  refine CtI_of (by decide +kernel) (Nat.le_of_ble_eq_true rfl) ⟨_, rfl⟩ ?_
  intro p e s m args below meth c A Q zls zH zlocs C zhw zhl zhret
  have zhx := C.1
  have zhb := C.2.1
  have zhown := C.2.2.2.2.1
  have zhtB := C.2.2.2.2.2.2.1
  have zhl : lv_has zls 7 [(0, .ref (h 0)), (1, .int a1), (2, .int a2), (3, .int a3), (4, .int a4)] := zhl
  refine lv_iload_n zhx zhb dX12_figure_0 rfl (lv_at zhl 1 rfl) ?_
  refine lv_istore (lv' := [(5, .int a1), (0, .ref (h 0)), (1, .int a1), (2, .int a2), (3, .int a3), (4, .int a4)]) zhx zhb dX12_figure_1 zhl (by decide) rfl (fun zls zhl => ?_)
  refine lv_iload_n zhx zhb dX12_figure_3 rfl (lv_at zhl 4 rfl) ?_
  refine lv_iconst (v := 1) zhx zhb dX12_figure_4 (by decide) ?_
  refine lv_isub zhx zhb dX12_figure_5 ?_
  obtain ⟨zv1, ze9, zhs⟩ := ltI_e zhs
  refine lv_topi (fun zy9 ze8 => ?_)
  obtain rfl : zv1 = zy9 := ze9.trans ze8.symm
  clear ze9 ze8
  refine lv_istore (lv' := [(6, .int zv1), (5, .int a1), (0, .ref (h 0)), (1, .int a1), (2, .int a2), (3, .int a3), (4, .int a4)]) zhx zhb dX12_figure_6 zhl (by decide) rfl (fun zls zhl => ?_)
  obtain ⟨zq8, zhq8, zhs⟩ := bnd_e zhs
  have hloop8 : ∀ (zn : Nat) (zx2 : Int32) (zx3 : Int32) (zq : (Int32)), itr (fun z : Int32 × Int32 => LRef_figure_8_8 N a2 a4 z.1 z.2) zn (zx2, zx3) = some zq → (∀ (zy1 : Int32), zy1 = zq → ∀ (zH : Heap) (zlocs : List Loc) (zls : Array Slot), lv_has zls 7 [(5, .int zy1), (2, .int a2)] → Hw D (wR h cI M) A s.heap zH zlocs → W p l e (RM 1) s m args below meth c zH zlocs 0 0 Q (F0 m 27 zls [])) → ∀ (zH : Heap) (zlocs : List Loc) (zls : Array Slot), lv_has zls 7 [(6, .int zx3), (5, .int zx2), (2, .int a2), (4, .int a4)] → Hw D (wR h cI M) A s.heap zH zlocs → W p l e (RM 1) s m args below meth c zH zlocs 0 0 Q (F0 m 8 zls []) := by
    intro zn
    induction zn with
    | zero => intro zx2 zx3 zq zhq; exact absurd zhq (fun h9 => itr_0 h9)
    | succ zn zih =>
        intro zx2 zx3 zq zhq k8_27 zH zlocs zls zhl zhw
        obtain ⟨zy9, zhs, zhq⟩ := itr_s zhq
        replace zhs : LRef_figure_8_8 N a2 a4 zx2 zx3 = some zy9 := zhs
        unfold LRef_figure_8_8 at zhs
        refine lv_iload zhx zhb dX12_figure_8 (lv_at zhl 0 rfl) ?_
        refine lv_iload zhx zhb dX12_figure_10 (lv_at zhl 3 rfl) ?_
        refine lv_icmp_le (tgt := 27) zhx zhb dX12_figure_12 (by decide) (fun zc9 => ?_) (fun zc9 => ?_)
        · replace zhs := br_T zhs zc9
          cases zhs
          exact k8_27 zx2 (itk_q zhq) zH zlocs zls (lv_sub zhl [1, 2] rfl) zhw
        · replace zhs := br_F zhs zc9
          refine lv_iload zhx zhb dX12_figure_15 (lv_at zhl 1 rfl) ?_
          refine lv_iload_n zhx zhb dX12_figure_17 rfl (lv_at zhl 2 rfl) ?_
          obtain ⟨zhz, zhs⟩ := dvc_e zhs
          refine lv_idiv zhx zhb dX12_figure_18 zhz ?_
          obtain ⟨zv6, ze9, zhs⟩ := ltI_e zhs
          refine lv_topi (fun zy9 ze8 => ?_)
          obtain rfl : zv6 = zy9 := ze9.trans ze8.symm
          clear ze9 ze8
          refine lv_istore (lv' := [(5, .int zv6), (6, .int zx3), (2, .int a2), (4, .int a4)]) zhx zhb dX12_figure_19 zhl (by decide) rfl (fun zls zhl => ?_)
          obtain ⟨zv7, ze9, zhs⟩ := ltI_e zhs
          refine lv_iinc (v := zv7) (lv' := [(6, .int zv7), (5, .int zv6), (2, .int a2), (4, .int a4)]) zhx zhb dX12_figure_21 zhl (k := 1) rfl (by rw [ze9]; rfl) (by decide) rfl (fun zls zhl => ?_)
          clear ze9
          refine lv_goto (tgt := 8) zhx zhb dX12_figure_24 (by decide) ?_
          cases zhs
          exact zih zv6 zv7 zq (itk_l zhq) k8_27 zH zlocs zls zhl zhw
  refine hloop8 N a1 zv1 zq8 zhq8 (fun zv9 zhqe zH zlocs zls zhl zhw => ?_) zH zlocs zls (lv_sub zhl [0, 1, 4, 6] rfl) zhw
  · subst zhqe
    refine lv_iload zhx zhb dX12_figure_27 (lv_at zhl 0 rfl) ?_
    refine lv_iload_n zhx zhb dX12_figure_29 rfl (lv_at zhl 1 rfl) ?_
    obtain ⟨zhz, zhs⟩ := dvc_e zhs
    refine lv_irem zhx zhb dX12_figure_30 zhz ?_
    cases zhs
    exact zhret _ _ _ _ dX12_figure_31 (by rfl) zhw

-- OffFirstModel.isOlder in (0, ())
def sRef_isOlder (a1 : Int32) (a2 : Int32) (M : Mm) : Option Int32 :=
  rdc 40 (M 24) a1 fun zv1 =>
  (sRef_limitOf a2 M).bind fun zv2 =>
  rdc 40 (M 24) a2 fun zv3 =>
  (sRef_limitOf a1 M).bind fun zv4 =>
  (if (lg_cmp ((Int32.toInt64 zv1) * (Int32.toInt64 zv2)) ((Int32.toInt64 zv3) * (Int32.toInt64 zv4))) ≤ 0 then some 0
  else some 1)
set_option maxHeartbeats 4000000 in
set_option maxRecDepth 100000 in
theorem cRef_isOlder (l : Launch) (D : va_G) (cI : ClassId) (h : Nat → Nat) (a1 : Int32) (a2 : Int32) (M : Mm) (r : Int32) (zhs : sRef_isOlder a1 a2 M = some r) : CtI l yX12_isOlder cX12_isOlder 3 (some .boolean) 2 D cI (wR h cI M) (wR h cI M) [.ref (h 0), .int a1, .int a2] r := by
  unfold sRef_isOlder at zhs
  refine CtI_of (by decide +kernel) (Nat.le_of_ble_eq_true rfl) ⟨_, rfl⟩ ?_
  intro p e s m args below meth c A Q zls zH zlocs C zhw zhl zhret
  have zhx := C.1
  have zhb := C.2.1
  have zhown := C.2.2.2.2.1
  have zhtB := C.2.2.2.2.2.2.1
  have zhl : lv_has zls 3 [(0, .ref (h 0)), (1, .int a1), (2, .int a2)] := zhl
  refine lv_aload_n zhx zhb dX12_isOlder_0 rfl (lv_at zhl 0 rfl) ?_
  refine x_get C zhw inlX12 rfl 0 24 (by decide) kw_9_2 rfl (wR_c0 h cI M) rfl dX12_isOlder_1 ?_
  refine lv_iload_n zhx zhb dX12_isOlder_4 rfl (lv_at zhl 1 rfl) ?_
  obtain ⟨zv1, ze9, zhi, zhs⟩ := rdc_v zhs
  refine x_iald C zhw 24 (wR_c24 h cI M) zhi dX12_isOlder_5 ?_
  refine lv_topi (fun zy9 ze8 => ?_)
  obtain rfl : zv1 = zy9 := ze9.trans ze8.symm
  clear ze9 ze8
  refine lv_i2l zhx zhb dX12_isOlder_6 rfl ?_
  refine lv_aload_n zhx zhb dX12_isOlder_7 rfl (lv_at zhl 0 rfl) ?_
  refine lv_iload_n zhx zhb dX12_isOlder_8 rfl (lv_at zhl 2 rfl) ?_
  obtain ⟨zv2, zhp, zhs⟩ := bnd_e zhs
  refine x_cVI (As := [.int a2]) (rest := [.long (Int32.toInt64 zv1)]) C zhw zhl (cRef_limitOf l D cI h a2 M zv2 zhp) (by decide) (by decide) kw_20_3 kw_20_4 kw_20_5 kw_1_5 kw_20_6 md_X12_limitOf rfl 0 (wR_c0 h cI M) rfl rfl rfl rfl (Nat.le_of_ble_eq_true rfl) dX12_isOlder_9 (fun zH zlocs zhw hn9 => ?_)
  refine lv_i2l zhx zhb dX12_isOlder_12 rfl ?_
  refine lv_lmul zhx zhb dX12_isOlder_13 ?_
  refine lv_aload_n zhx zhb dX12_isOlder_14 rfl (lv_at zhl 0 rfl) ?_
  refine x_get C zhw inlX12 rfl 0 24 (by decide) kw_9_2 rfl (wR_c0 h cI M) rfl dX12_isOlder_15 ?_
  refine lv_iload_n zhx zhb dX12_isOlder_18 rfl (lv_at zhl 2 rfl) ?_
  obtain ⟨zv3, ze9, zhi, zhs⟩ := rdc_v zhs
  refine x_iald C zhw 24 (wR_c24 h cI M) zhi dX12_isOlder_19 ?_
  refine lv_topi (fun zy9 ze8 => ?_)
  obtain rfl : zv3 = zy9 := ze9.trans ze8.symm
  clear ze9 ze8
  refine lv_i2l zhx zhb dX12_isOlder_20 rfl ?_
  refine lv_aload_n zhx zhb dX12_isOlder_21 rfl (lv_at zhl 0 rfl) ?_
  refine lv_iload_n zhx zhb dX12_isOlder_22 rfl (lv_at zhl 1 rfl) ?_
  obtain ⟨zv4, zhp, zhs⟩ := bnd_e zhs
  refine x_cVI (As := [.int a1]) (rest := [.long (Int32.toInt64 zv3), .long ((Int32.toInt64 zv1) * (Int32.toInt64 zv2))]) C zhw zhl (cRef_limitOf l D cI h a1 M zv4 zhp) (by decide) (by decide) kw_20_3 kw_20_4 kw_20_5 kw_1_5 kw_20_6 md_X12_limitOf rfl 0 (wR_c0 h cI M) rfl rfl rfl rfl (Nat.le_of_ble_eq_true rfl) dX12_isOlder_23 (fun zH zlocs zhw hn9 => ?_)
  refine lv_i2l zhx zhb dX12_isOlder_26 rfl ?_
  refine lv_lmul zhx zhb dX12_isOlder_27 ?_
  refine W.lcmp zhx zhb dX12_isOlder_28 ?_
  refine lv_if_le (tgt := 36) zhx zhb dX12_isOlder_29 (by decide) (fun zc9 => ?_) (fun zc9 => ?_)
  · replace zhs := br_T zhs zc9
    refine lv_iconst (v := 0) zhx zhb dX12_isOlder_36 (by decide) ?_
    cases zhs
    exact zhret _ _ _ _ dX12_isOlder_37 (by rfl) zhw
  · replace zhs := br_F zhs zc9
    refine lv_iconst (v := 1) zhx zhb dX12_isOlder_32 (by decide) ?_
    refine lv_goto (tgt := 37) zhx zhb dX12_isOlder_33 (by decide) ?_
    cases zhs
    exact zhret _ _ _ _ dX12_isOlder_37 (by rfl) zhw

-- OffFirstModel.oldestOf in (0, ())
def LRef_oldestOf_6_33 (N : Nat) (a1 : Int32) (M : Mm) (zx1 : Int32) (zx2 : Int32) : Option ((Int32 × Int32) ⊕ ((Int32))) :=
  rdc 2 (M 7) 0 fun zv18 =>
  (if (10 + zv18) ≤ zx2 then some (.inr zx1)
  else rdc 40 (M 25) zx2 fun zv19 =>
  (((if zv19 = 0 then (sRef_isOff zx2 M).bind fun zv24 =>
  (if zv24 = 0 then rdc 20 (M 13) (zx2 - 10) fun zv25 =>
  (if zv25 = a1 then some 1
  else some 0)
  else some 0)
  else some 0) : Option (Int32))).bind fun zv22 =>
  (if zv22 = 0 then ltI (zx2 + 1) fun zv27 =>
  some (.inl (zx1, zv27))
  else (if zx1 < 0 then ltI (zx2 + 1) fun zv29 =>
  some (.inl (zx2, zv29))
  else (sRef_isOlder zx2 zx1 M).bind fun zv30 =>
  (if zv30 = 0 then ltI (zx2 + 1) fun zv31 =>
  some (.inl (zx1, zv31))
  else ltI (zx2 + 1) fun zv32 =>
  some (.inl (zx2, zv32))))))
def sRef_oldestOf (N : Nat) (a1 : Int32) (M : Mm) : Option Int32 :=
  (itr (fun z : Int32 × Int32 => LRef_oldestOf_6_33 N a1 M z.1 z.2) N ((-4), 10)).bind fun zv34 =>
  some zv34
set_option maxHeartbeats 4000000 in
set_option maxRecDepth 100000 in
theorem cRef_oldestOf (l : Launch) (D : va_G) (cI : ClassId) (h : Nat → Nat) (N : Nat) (a1 : Int32) (M : Mm) (r : Int32) (zhs : sRef_oldestOf N a1 M = some r) : CtI l yX12_oldestOf cX12_oldestOf 5 (some .int) 3 D cI (wR h cI M) (wR h cI M) [.ref (h 0), .int a1] r := by
  unfold sRef_oldestOf at zhs
  refine CtI_of (by decide +kernel) (Nat.le_of_ble_eq_true rfl) ⟨_, rfl⟩ ?_
  intro p e s m args below meth c A Q zls zH zlocs C zhw zhl zhret
  have zhx := C.1
  have zhb := C.2.1
  have zhown := C.2.2.2.2.1
  have zhtB := C.2.2.2.2.2.2.1
  have zhl : lv_has zls 5 [(0, .ref (h 0)), (1, .int a1)] := zhl
  refine lv_bipush (v := (-4)) zhx zhb dX12_oldestOf_0 (by decide) ?_
  refine lv_istore_n (lv' := [(2, .int (-4)), (0, .ref (h 0)), (1, .int a1)]) zhx zhb dX12_oldestOf_2 rfl zhl (by decide) rfl (fun zls zhl => ?_)
  refine lv_bipush (v := 10) zhx zhb dX12_oldestOf_3 (by decide) ?_
  refine lv_istore_n (lv' := [(3, .int 10), (2, .int (-4)), (0, .ref (h 0)), (1, .int a1)]) zhx zhb dX12_oldestOf_5 rfl zhl (by decide) rfl (fun zls zhl => ?_)
  obtain ⟨zq33, zhq33, zhs⟩ := bnd_e zhs
  have hloop33 : ∀ (zn : Nat) (zx1 : Int32) (zx2 : Int32) (zq : (Int32)), itr (fun z : Int32 × Int32 => LRef_oldestOf_6_33 N a1 M z.1 z.2) zn (zx1, zx2) = some zq → (∀ (zy1 : Int32), zy1 = zq → ∀ (zH : Heap) (zlocs : List Loc) (zls : Array Slot), lv_has zls 5 [(2, .int zy1)] → Hw D (wR h cI M) A s.heap zH zlocs → W p l e (RM 3) s m args below meth c zH zlocs 0 0 Q (F0 m 86 zls [])) → ∀ (zH : Heap) (zlocs : List Loc) (zls : Array Slot), lv_has zls 5 [(3, .int zx2), (2, .int zx1), (0, .ref (h 0)), (1, .int a1)] → Hw D (wR h cI M) A s.heap zH zlocs → W p l e (RM 3) s m args below meth c zH zlocs 0 0 Q (F0 m 6 zls []) := by
    intro zn
    induction zn with
    | zero => intro zx1 zx2 zq zhq; exact absurd zhq (fun h9 => itr_0 h9)
    | succ zn zih =>
        intro zx1 zx2 zq zhq k6_86 zH zlocs zls zhl zhw
        obtain ⟨zy9, zhs, zhq⟩ := itr_s zhq
        replace zhs : LRef_oldestOf_6_33 N a1 M zx1 zx2 = some zy9 := zhs
        unfold LRef_oldestOf_6_33 at zhs
        refine lv_iload_n zhx zhb dX12_oldestOf_6 rfl (lv_at zhl 0 rfl) ?_
        refine lv_bipush (v := 10) zhx zhb dX12_oldestOf_7 (by decide) ?_
        refine lv_aload_n zhx zhb dX12_oldestOf_9 rfl (lv_at zhl 2 rfl) ?_
        refine x_get C zhw inlX12 rfl 0 7 (by decide) kw_8_9 rfl (wR_c0 h cI M) rfl dX12_oldestOf_10 ?_
        refine lv_iconst (v := 0) zhx zhb dX12_oldestOf_13 (by decide) ?_
        obtain ⟨zv18, ze9, zhi, zhs⟩ := rdc_v zhs
        refine x_iald C zhw 7 (wR_c7 h cI M) zhi dX12_oldestOf_14 ?_
        refine lv_topi (fun zy9 ze8 => ?_)
        obtain rfl : zv18 = zy9 := ze9.trans ze8.symm
        clear ze9 ze8
        refine lv_iadd zhx zhb dX12_oldestOf_15 ?_
        refine lv_icmp_ge (tgt := 86) zhx zhb dX12_oldestOf_16 (by decide) (fun zc9 => ?_) (fun zc9 => ?_)
        · replace zhs := br_T zhs zc9
          cases zhs
          exact k6_86 zx1 (itk_q zhq) zH zlocs zls (lv_sub zhl [1] rfl) zhw
        · replace zhs := br_F zhs zc9
          refine lv_aload_n zhx zhb dX12_oldestOf_19 rfl (lv_at zhl 2 rfl) ?_
          refine x_get C zhw inlX12 rfl 0 25 (by decide) kw_9_3 rfl (wR_c0 h cI M) rfl dX12_oldestOf_20 ?_
          refine lv_iload_n zhx zhb dX12_oldestOf_23 rfl (lv_at zhl 0 rfl) ?_
          obtain ⟨zv19, ze9, zhi, zhs⟩ := rdc_v zhs
          refine x_iald C zhw 25 (wR_c25 h cI M) zhi dX12_oldestOf_24 ?_
          refine lv_topi (fun zy9 ze8 => ?_)
          obtain rfl : zv19 = zy9 := ze9.trans ze8.symm
          clear ze9 ze8
          obtain ⟨zv22, zhq, zhs⟩ := bnd_e zhs
          have hJ23 : ∀ (zH : Heap) (zlocs : List Loc) (zls : Array Slot), lv_has zls 5 [(3, .int zx2), (2, .int zx1), (0, .ref (h 0)), (1, .int a1)] → Hw D (wR h cI M) A s.heap zH zlocs → W p l e (RM 3) s m args below meth c zH zlocs 0 0 Q (F0 m 54 zls [.int zv22]) := by
            intro zH zlocs zls zhl zhw
            refine lv_istore (lv' := [(4, .int zv22), (3, .int zx2), (2, .int zx1), (0, .ref (h 0)), (1, .int a1)]) zhx zhb dX12_oldestOf_54 zhl (by decide) rfl (fun zls zhl => ?_)
            refine lv_iload zhx zhb dX12_oldestOf_56 (lv_at zhl 0 rfl) ?_
            refine lv_if_eq (tgt := 78) zhx zhb dX12_oldestOf_58 (by decide) (fun zc9 => ?_) (fun zc9 => ?_)
            · replace zhs := br_T zhs zc9
              refine lv_iload_n zhx zhb dX12_oldestOf_78 rfl (lv_at zhl 2 rfl) ?_
              refine lv_istore_n (lv' := [(2, .int zx1), (4, .int zv22), (3, .int zx2), (0, .ref (h 0)), (1, .int a1)]) zhx zhb dX12_oldestOf_79 rfl zhl (by decide) rfl (fun zls zhl => ?_)
              obtain ⟨zv27, ze9, zhs⟩ := ltI_e zhs
              refine lv_iinc (v := zv27) (lv' := [(3, .int zv27), (2, .int zx1), (4, .int zv22), (0, .ref (h 0)), (1, .int a1)]) zhx zhb dX12_oldestOf_80 zhl (k := 2) rfl (by rw [ze9]; rfl) (by decide) rfl (fun zls zhl => ?_)
              clear ze9
              refine lv_goto (tgt := 6) zhx zhb dX12_oldestOf_83 (by decide) ?_
              cases zhs
              exact zih zx1 zv27 zq (itk_l zhq) k6_86 zH zlocs zls (lv_sub zhl [0, 1, 3, 4] rfl) zhw
            · replace zhs := br_F zhs zc9
              refine lv_iload_n zhx zhb dX12_oldestOf_61 rfl (lv_at zhl 2 rfl) ?_
              refine lv_if_lt (tgt := 74) zhx zhb dX12_oldestOf_62 (by decide) (fun zc9 => ?_) (fun zc9 => ?_)
              · replace zhs := br_T zhs zc9
                refine lv_iload_n zhx zhb dX12_oldestOf_74 rfl (lv_at zhl 1 rfl) ?_
                refine lv_goto (tgt := 79) zhx zhb dX12_oldestOf_75 (by decide) ?_
                refine lv_istore_n (lv' := [(2, .int zx2), (4, .int zv22), (3, .int zx2), (0, .ref (h 0)), (1, .int a1)]) zhx zhb dX12_oldestOf_79 rfl zhl (by decide) rfl (fun zls zhl => ?_)
                obtain ⟨zv29, ze9, zhs⟩ := ltI_e zhs
                refine lv_iinc (v := zv29) (lv' := [(3, .int zv29), (2, .int zx2), (4, .int zv22), (0, .ref (h 0)), (1, .int a1)]) zhx zhb dX12_oldestOf_80 zhl (k := 2) rfl (by rw [ze9]; rfl) (by decide) rfl (fun zls zhl => ?_)
                clear ze9
                refine lv_goto (tgt := 6) zhx zhb dX12_oldestOf_83 (by decide) ?_
                cases zhs
                exact zih zx2 zv29 zq (itk_l zhq) k6_86 zH zlocs zls (lv_sub zhl [0, 1, 3, 4] rfl) zhw
              · replace zhs := br_F zhs zc9
                refine lv_aload_n zhx zhb dX12_oldestOf_65 rfl (lv_at zhl 3 rfl) ?_
                refine lv_iload_n zhx zhb dX12_oldestOf_66 rfl (lv_at zhl 1 rfl) ?_
                refine lv_iload_n zhx zhb dX12_oldestOf_67 rfl (lv_at zhl 2 rfl) ?_
                obtain ⟨zv30, zhp, zhs⟩ := bnd_e zhs
                refine x_cVI (As := [.int zx2, .int zx1]) (rest := []) C zhw zhl (cRef_isOlder l D cI h zx2 zx1 M zv30 zhp) (by decide) (by decide) kw_33_1 kw_33_2 kw_33_3 kw_1_5 kw_33_4 md_X12_isOlder rfl 0 (wR_c0 h cI M) rfl rfl rfl rfl (Nat.le_of_ble_eq_true rfl) dX12_oldestOf_68 (fun zH zlocs zhw hzv30 => ?_)
                refine lv_if_eq (tgt := 78) zhx zhb dX12_oldestOf_71 (by decide) (fun zc9 => ?_) (fun zc9 => ?_)
                · replace zhs := br_T zhs zc9
                  refine lv_iload_n zhx zhb dX12_oldestOf_78 rfl (lv_at zhl 2 rfl) ?_
                  refine lv_istore_n (lv' := [(2, .int zx1), (4, .int zv22), (3, .int zx2), (0, .ref (h 0)), (1, .int a1)]) zhx zhb dX12_oldestOf_79 rfl zhl (by decide) rfl (fun zls zhl => ?_)
                  obtain ⟨zv31, ze9, zhs⟩ := ltI_e zhs
                  refine lv_iinc (v := zv31) (lv' := [(3, .int zv31), (2, .int zx1), (4, .int zv22), (0, .ref (h 0)), (1, .int a1)]) zhx zhb dX12_oldestOf_80 zhl (k := 2) rfl (by rw [ze9]; rfl) (by decide) rfl (fun zls zhl => ?_)
                  clear ze9
                  refine lv_goto (tgt := 6) zhx zhb dX12_oldestOf_83 (by decide) ?_
                  cases zhs
                  exact zih zx1 zv31 zq (itk_l zhq) k6_86 zH zlocs zls (lv_sub zhl [0, 1, 3, 4] rfl) zhw
                · replace zhs := br_F zhs zc9
                  refine lv_iload_n zhx zhb dX12_oldestOf_74 rfl (lv_at zhl 1 rfl) ?_
                  refine lv_goto (tgt := 79) zhx zhb dX12_oldestOf_75 (by decide) ?_
                  refine lv_istore_n (lv' := [(2, .int zx2), (4, .int zv22), (3, .int zx2), (0, .ref (h 0)), (1, .int a1)]) zhx zhb dX12_oldestOf_79 rfl zhl (by decide) rfl (fun zls zhl => ?_)
                  obtain ⟨zv32, ze9, zhs⟩ := ltI_e zhs
                  refine lv_iinc (v := zv32) (lv' := [(3, .int zv32), (2, .int zx2), (4, .int zv22), (0, .ref (h 0)), (1, .int a1)]) zhx zhb dX12_oldestOf_80 zhl (k := 2) rfl (by rw [ze9]; rfl) (by decide) rfl (fun zls zhl => ?_)
                  clear ze9
                  refine lv_goto (tgt := 6) zhx zhb dX12_oldestOf_83 (by decide) ?_
                  cases zhs
                  exact zih zx2 zv32 zq (itk_l zhq) k6_86 zH zlocs zls (lv_sub zhl [0, 1, 3, 4] rfl) zhw
          replace zhs := zhq
          clear zhq
          refine lv_if_ne (tgt := 53) zhx zhb dX12_oldestOf_25 (by decide) (fun zc9 => ?_) (fun zc9 => ?_)
          · replace zhs := br_F zhs zc9
            refine lv_iconst (v := 0) zhx zhb dX12_oldestOf_53 (by decide) ?_
            cases zhs
            exact hJ23 zH zlocs zls zhl zhw
          · replace zhs := br_T zhs zc9
            refine lv_aload_n zhx zhb dX12_oldestOf_28 rfl (lv_at zhl 2 rfl) ?_
            refine lv_iload_n zhx zhb dX12_oldestOf_29 rfl (lv_at zhl 0 rfl) ?_
            obtain ⟨zv24, zhp, zhs⟩ := bnd_e zhs
            refine x_cVI (As := [.int zx2]) (rest := []) C zhw zhl (cRef_isOff l D cI h zx2 M zv24 zhp) (by decide) (by decide) kw_20_7 kw_20_8 kw_20_9 kw_1_5 kw_20_10 md_X12_isOff rfl 0 (wR_c0 h cI M) rfl rfl rfl rfl (Nat.le_of_ble_eq_true rfl) dX12_oldestOf_30 (fun zH zlocs zhw hzv24 => ?_)
            refine lv_if_ne (tgt := 53) zhx zhb dX12_oldestOf_33 (by decide) (fun zc9 => ?_) (fun zc9 => ?_)
            · replace zhs := br_F zhs zc9
              refine lv_iconst (v := 0) zhx zhb dX12_oldestOf_53 (by decide) ?_
              cases zhs
              exact hJ23 zH zlocs zls zhl zhw
            · replace zhs := br_T zhs zc9
              refine lv_aload_n zhx zhb dX12_oldestOf_36 rfl (lv_at zhl 2 rfl) ?_
              refine x_get C zhw inlX12 rfl 0 13 (by decide) kw_8_15 rfl (wR_c0 h cI M) rfl dX12_oldestOf_37 ?_
              refine lv_iload_n zhx zhb dX12_oldestOf_40 rfl (lv_at zhl 0 rfl) ?_
              refine lv_bipush (v := 10) zhx zhb dX12_oldestOf_41 (by decide) ?_
              refine lv_isub zhx zhb dX12_oldestOf_43 ?_
              obtain ⟨zv25, ze9, zhi, zhs⟩ := rdc_v zhs
              refine x_iald C zhw 13 (wR_c13 h cI M) zhi dX12_oldestOf_44 ?_
              refine lv_topi (fun zy9 ze8 => ?_)
              obtain rfl : zv25 = zy9 := ze9.trans ze8.symm
              clear ze9 ze8
              refine lv_iload_n zhx zhb dX12_oldestOf_45 rfl (lv_at zhl 3 rfl) ?_
              refine lv_icmp_ne (tgt := 53) zhx zhb dX12_oldestOf_46 (by decide) (fun zc9 => ?_) (fun zc9 => ?_)
              · replace zhs := br_F zhs zc9
                refine lv_iconst (v := 0) zhx zhb dX12_oldestOf_53 (by decide) ?_
                cases zhs
                exact hJ23 zH zlocs zls zhl zhw
              · replace zhs := br_T zhs zc9
                refine lv_iconst (v := 1) zhx zhb dX12_oldestOf_49 (by decide) ?_
                refine lv_goto (tgt := 54) zhx zhb dX12_oldestOf_50 (by decide) ?_
                cases zhs
                exact hJ23 zH zlocs zls zhl zhw
  refine hloop33 N (-4) 10 zq33 zhq33 (fun zv34 zhqe zH zlocs zls zhl zhw => ?_) zH zlocs zls zhl zhw
  · subst zhqe
    refine lv_iload_n zhx zhb dX12_oldestOf_86 rfl (lv_at zhl 0 rfl) ?_
    cases zhs
    exact zhret _ _ _ _ dX12_oldestOf_87 (by rfl) zhw

-- OffFirstModel.eatDish in (0, ())
def LRef_eatDish_2_23 (N : Nat) (a1 : Int32) (zx1 : Int32) (zM2 : Mm) : Option ((Int32 × Mm) ⊕ ((Mm) ⊕ (Mm))) :=
  (if 4 ≤ zx1 then some (.inr (.inr zM2))
  else (sRef_has a1 zx1).bind fun zv13 =>
  (((if zv13 = 0 then some 0
  else (sRef_oldestOf N zx1 zM2).bind fun zv17 =>
  some zv17) : Option (Int32))).bind fun zv15 =>
  (if 0 ≤ zv15 then (sRef_has a1 zx1).bind fun zv18 =>
  (if zv18 = 0 then ltI (zx1 + 1) fun zv20 =>
  some (.inl (zv20, zM2))
  else inc 40 zv15 <| ltM (mset zM2 25 (Int32.toNatClampNeg zv15) 1) fun zM21 =>
  ltI (zx1 + 1) fun zv22 =>
  some (.inl (zv22, zM21)))
  else some (.inr (.inl zM2))))
def sRef_eatDish (N : Nat) (a1 : Int32) (M : Mm) : Option (Int32 × Mm) :=
  ((itr (fun z : Int32 × Mm => LRef_eatDish_2_23 N a1 z.1 z.2) N (0, M)).bind fun q => match q with
  | .inl zM24 => some (0, zM24)
  | .inr zM25 => some (1, zM25))
set_option maxHeartbeats 4000000 in
set_option maxRecDepth 100000 in
theorem cRef_eatDish (l : Launch) (D : va_G) (cI : ClassId) (h : Nat → Nat) (N : Nat) (a1 : Int32) (M : Mm) (r : Int32) (M' : Mm) (zhs : sRef_eatDish N a1 M = some (r, M')) : CtI l yX12_eatDish cX12_eatDish 4 (some .boolean) 4 D cI (wR h cI M) (wR h cI M') [.ref (h 0), .int a1] r := by
  unfold sRef_eatDish at zhs
  refine CtI_of (by decide +kernel) (Nat.le_of_ble_eq_true rfl) ⟨_, rfl⟩ ?_
  intro p e s m args below meth c A Q zls zH zlocs C zhw zhl zhret
  have zhx := C.1
  have zhb := C.2.1
  have zhown := C.2.2.2.2.1
  have zhtB := C.2.2.2.2.2.2.1
  have zhl : lv_has zls 4 [(0, .ref (h 0)), (1, .int a1)] := zhl
  refine lv_iconst (v := 0) zhx zhb dX12_eatDish_0 (by decide) ?_
  refine lv_istore_n (lv' := [(2, .int 0), (0, .ref (h 0)), (1, .int a1)]) zhx zhb dX12_eatDish_1 rfl zhl (by decide) rfl (fun zls zhl => ?_)
  obtain ⟨zq23, zhq23, zhs⟩ := bnd_e zhs
  have hloop23 : ∀ (zn : Nat) (zx1 : Int32) (zM2 : Mm) (zq : (Mm) ⊕ (Mm)), itr (fun z : Int32 × Mm => LRef_eatDish_2_23 N a1 z.1 z.2) zn (zx1, zM2) = some zq → (∀ (zy1 : Mm), (.inl zy1) = zq → ∀ (zH : Heap) (zlocs : List Loc) (zls : Array Slot), lv_has zls 4 [] → Hw D (wR h cI zy1) A s.heap zH zlocs → W p l e (RM 4) s m args below meth c zH zlocs 0 0 Q (F0 m 29 zls [])) → (∀ (zy1 : Mm), (.inr zy1) = zq → ∀ (zH : Heap) (zlocs : List Loc) (zls : Array Slot), lv_has zls 4 [] → Hw D (wR h cI zy1) A s.heap zH zlocs → W p l e (RM 4) s m args below meth c zH zlocs 0 0 Q (F0 m 52 zls [])) → ∀ (zH : Heap) (zlocs : List Loc) (zls : Array Slot), lv_has zls 4 [(2, .int zx1), (0, .ref (h 0)), (1, .int a1)] → Hw D (wR h cI zM2) A s.heap zH zlocs → W p l e (RM 4) s m args below meth c zH zlocs 0 0 Q (F0 m 2 zls []) := by
    intro zn
    induction zn with
    | zero => intro zx1 zM2 zq zhq; exact absurd zhq (fun h9 => itr_0 h9)
    | succ zn zih =>
        intro zx1 zM2 zq zhq k2_29 k2_52 zH zlocs zls zhl zhw
        obtain ⟨zy9, zhs, zhq⟩ := itr_s zhq
        replace zhs : LRef_eatDish_2_23 N a1 zx1 zM2 = some zy9 := zhs
        unfold LRef_eatDish_2_23 at zhs
        refine lv_iload_n zhx zhb dX12_eatDish_2 rfl (lv_at zhl 0 rfl) ?_
        refine lv_iconst (v := 4) zhx zhb dX12_eatDish_3 (by decide) ?_
        refine lv_icmp_ge (tgt := 52) zhx zhb dX12_eatDish_4 (by decide) (fun zc9 => ?_) (fun zc9 => ?_)
        · replace zhs := br_T zhs zc9
          cases zhs
          exact k2_52 zM2 (itk_q zhq) zH zlocs zls (lv_sub zhl [] rfl) zhw
        · replace zhs := br_F zhs zc9
          refine lv_iload_n zhx zhb dX12_eatDish_7 rfl (lv_at zhl 2 rfl) ?_
          refine lv_iload_n zhx zhb dX12_eatDish_8 rfl (lv_at zhl 0 rfl) ?_
          obtain ⟨zv13, zhp, zhs⟩ := bnd_e zhs
          refine x_cSI (As := [.int a1, .int zx1]) (rest := []) C zhw zhl (cRef_has l D cI h a1 zx1 zM2 zv13 zhp) (by decide) (by decide) kw_21_14 kw_21_15 kw_1_5 kw_21_16 md_X12_has rfl rfl (Nat.le_of_ble_eq_true rfl) dX12_eatDish_9 (fun zH zlocs zhw hzv13 => ?_)
          obtain ⟨zv15, zhq, zhs⟩ := bnd_e zhs
          have hJ16 : ∀ (zH : Heap) (zlocs : List Loc) (zls : Array Slot), lv_has zls 4 [(2, .int zx1), (0, .ref (h 0)), (1, .int a1)] → Hw D (wR h cI zM2) A s.heap zH zlocs → W p l e (RM 4) s m args below meth c zH zlocs 0 0 Q (F0 m 24 zls [.int zv15]) := by
            intro zH zlocs zls zhl zhw
            refine lv_istore_n (lv' := [(3, .int zv15), (2, .int zx1), (0, .ref (h 0)), (1, .int a1)]) zhx zhb dX12_eatDish_24 rfl zhl (by decide) rfl (fun zls zhl => ?_)
            refine lv_iload_n zhx zhb dX12_eatDish_25 rfl (lv_at zhl 0 rfl) ?_
            refine lv_if_ge (tgt := 31) zhx zhb dX12_eatDish_26 (by decide) (fun zc9 => ?_) (fun zc9 => ?_)
            · replace zhs := br_T zhs zc9
              refine lv_iload_n zhx zhb dX12_eatDish_31 rfl (lv_at zhl 3 rfl) ?_
              refine lv_iload_n zhx zhb dX12_eatDish_32 rfl (lv_at zhl 1 rfl) ?_
              obtain ⟨zv18, zhp, zhs⟩ := bnd_e zhs
              refine x_cSI (As := [.int a1, .int zx1]) (rest := []) C zhw zhl (cRef_has l D cI h a1 zx1 zM2 zv18 zhp) (by decide) (by decide) kw_21_14 kw_21_15 kw_1_5 kw_21_16 md_X12_has rfl rfl (Nat.le_of_ble_eq_true rfl) dX12_eatDish_33 (fun zH zlocs zhw hzv18 => ?_)
              refine lv_if_eq (tgt := 46) zhx zhb dX12_eatDish_36 (by decide) (fun zc9 => ?_) (fun zc9 => ?_)
              · replace zhs := br_T zhs zc9
                obtain ⟨zv20, ze9, zhs⟩ := ltI_e zhs
                refine lv_iinc (v := zv20) (lv' := [(2, .int zv20), (3, .int zv15), (0, .ref (h 0)), (1, .int a1)]) zhx zhb dX12_eatDish_46 zhl (k := 1) rfl (by rw [ze9]; rfl) (by decide) rfl (fun zls zhl => ?_)
                clear ze9
                refine lv_goto (tgt := 2) zhx zhb dX12_eatDish_49 (by decide) ?_
                cases zhs
                exact zih zv20 zM2 zq (itk_l zhq) k2_29 k2_52 zH zlocs zls (lv_sub zhl [0, 2, 3] rfl) zhw
              · replace zhs := br_F zhs zc9
                refine lv_aload_n zhx zhb dX12_eatDish_39 rfl (lv_at zhl 2 rfl) ?_
                refine x_get C zhw inlX12 rfl 0 25 (by decide) kw_9_3 rfl (wR_c0 h cI zM2) rfl dX12_eatDish_40 ?_
                refine lv_iload_n zhx zhb dX12_eatDish_43 rfl (lv_at zhl 0 rfl) ?_
                refine lv_iconst (v := 1) zhx zhb dX12_eatDish_44 (by decide) ?_
                obtain ⟨zhi, zhs⟩ := inc_e zhs
                refine x_iast C zhw 25 (wR_c25 h cI zM2) zhi (wR_a25 h cI zM2 _ _) dX12_eatDish_45 (fun zH zlocs zhw => ?_)
                obtain ⟨zM21, ze9, zhs⟩ := ltM_e zhs
                rw [← ze9] at zhw; clear ze9
                obtain ⟨zv22, ze9, zhs⟩ := ltI_e zhs
                refine lv_iinc (v := zv22) (lv' := [(2, .int zv22), (3, .int zv15), (0, .ref (h 0)), (1, .int a1)]) zhx zhb dX12_eatDish_46 zhl (k := 1) rfl (by rw [ze9]; rfl) (by decide) rfl (fun zls zhl => ?_)
                clear ze9
                refine lv_goto (tgt := 2) zhx zhb dX12_eatDish_49 (by decide) ?_
                cases zhs
                exact zih zv22 zM21 zq (itk_l zhq) k2_29 k2_52 zH zlocs zls (lv_sub zhl [0, 2, 3] rfl) zhw
            · replace zhs := br_F zhs zc9
              cases zhs
              exact k2_29 zM2 (itk_q zhq) zH zlocs zls (lv_sub zhl [] rfl) zhw
          replace zhs := zhq
          clear zhq
          refine lv_if_eq (tgt := 23) zhx zhb dX12_eatDish_12 (by decide) (fun zc9 => ?_) (fun zc9 => ?_)
          · replace zhs := br_T zhs zc9
            refine lv_iconst (v := 0) zhx zhb dX12_eatDish_23 (by decide) ?_
            cases zhs
            exact hJ16 zH zlocs zls zhl zhw
          · replace zhs := br_F zhs zc9
            refine lv_aload_n zhx zhb dX12_eatDish_15 rfl (lv_at zhl 1 rfl) ?_
            refine lv_iload_n zhx zhb dX12_eatDish_16 rfl (lv_at zhl 0 rfl) ?_
            obtain ⟨zv17, zhp, zhs⟩ := bnd_e zhs
            refine x_cVI (As := [.int zx1]) (rest := []) C zhw zhl (cRef_oldestOf l D cI h N zx1 zM2 zv17 zhp) (by decide) (by decide) kw_32_21 kw_32_22 kw_32_23 kw_1_5 kw_33_0 md_X12_oldestOf rfl 0 (wR_c0 h cI zM2) rfl rfl rfl rfl (Nat.le_of_ble_eq_true rfl) dX12_eatDish_17 (fun zH zlocs zhw hn9 => ?_)
            refine lv_goto (tgt := 24) zhx zhb dX12_eatDish_20 (by decide) ?_
            cases zhs
            exact hJ16 zH zlocs zls zhl zhw
  refine hloop23 N 0 M zq23 zhq23 (fun zM24 zhqe zH zlocs zls zhl zhw => ?_) (fun zM25 zhqe zH zlocs zls zhl zhw => ?_) zH zlocs zls zhl zhw
  · subst zhqe
    try dsimp only at zhs
    refine lv_iconst (v := 0) zhx zhb dX12_eatDish_29 (by decide) ?_
    cases zhs
    exact zhret _ _ _ _ dX12_eatDish_30 (by rfl) zhw
  · subst zhqe
    try dsimp only at zhs
    refine lv_iconst (v := 1) zhx zhb dX12_eatDish_52 (by decide) ?_
    cases zhs
    exact zhret _ _ _ _ dX12_eatDish_53 (by rfl) zhw

-- OffFirstModel.hungryOf in (0, ())
def LRef_hungryOf_4_21 (N : Nat) (a1 : Int32) (M : Mm) (zx1 : Int32) (zx2 : Int32) : Option ((Int32 × Int32) ⊕ ((Int32))) :=
  rdc 2 (M 16) 0 fun zv12 =>
  (if zv12 ≤ zx2 then some (.inr zx1)
  else (if a1 = 0 then ltI (zx1 + 1) fun zv14 =>
  ltI (zx2 + 1) fun zv15 =>
  some (.inl (zv14, zv15))
  else rdc 8 (M 17) zx2 fun zv16 =>
  (if (zv16 &&& a1) = 0 then ltI (zx1 + 0) fun zv17 =>
  ltI (zx2 + 1) fun zv18 =>
  some (.inl (zv17, zv18))
  else ltI (zx1 + 1) fun zv19 =>
  ltI (zx2 + 1) fun zv20 =>
  some (.inl (zv19, zv20)))))
def sRef_hungryOf (N : Nat) (a1 : Int32) (M : Mm) : Option Int32 :=
  (itr (fun z : Int32 × Int32 => LRef_hungryOf_4_21 N a1 M z.1 z.2) N (0, 0)).bind fun zv22 =>
  some zv22
set_option maxHeartbeats 4000000 in
set_option maxRecDepth 100000 in
theorem cRef_hungryOf (l : Launch) (D : va_G) (cI : ClassId) (h : Nat → Nat) (N : Nat) (a1 : Int32) (M : Mm) (r : Int32) (zhs : sRef_hungryOf N a1 M = some r) : CtI l yX12_hungryOf cX12_hungryOf 4 (some .int) 1 D cI (wR h cI M) (wR h cI M) [.ref (h 0), .int a1] r := by
  unfold sRef_hungryOf at zhs
  refine CtI_of (by decide +kernel) (Nat.le_of_ble_eq_true rfl) ⟨_, rfl⟩ ?_
  intro p e s m args below meth c A Q zls zH zlocs C zhw zhl zhret
  have zhx := C.1
  have zhb := C.2.1
  have zhown := C.2.2.2.2.1
  have zhtB := C.2.2.2.2.2.2.1
  have zhl : lv_has zls 4 [(0, .ref (h 0)), (1, .int a1)] := zhl
  refine lv_iconst (v := 0) zhx zhb dX12_hungryOf_0 (by decide) ?_
  refine lv_istore_n (lv' := [(2, .int 0), (0, .ref (h 0)), (1, .int a1)]) zhx zhb dX12_hungryOf_1 rfl zhl (by decide) rfl (fun zls zhl => ?_)
  refine lv_iconst (v := 0) zhx zhb dX12_hungryOf_2 (by decide) ?_
  refine lv_istore_n (lv' := [(3, .int 0), (2, .int 0), (0, .ref (h 0)), (1, .int a1)]) zhx zhb dX12_hungryOf_3 rfl zhl (by decide) rfl (fun zls zhl => ?_)
  obtain ⟨zq21, zhq21, zhs⟩ := bnd_e zhs
  have hloop21 : ∀ (zn : Nat) (zx1 : Int32) (zx2 : Int32) (zq : (Int32)), itr (fun z : Int32 × Int32 => LRef_hungryOf_4_21 N a1 M z.1 z.2) zn (zx1, zx2) = some zq → (∀ (zy1 : Int32), zy1 = zq → ∀ (zH : Heap) (zlocs : List Loc) (zls : Array Slot), lv_has zls 4 [(2, .int zy1)] → Hw D (wR h cI M) A s.heap zH zlocs → W p l e (RM 1) s m args below meth c zH zlocs 0 0 Q (F0 m 43 zls [])) → ∀ (zH : Heap) (zlocs : List Loc) (zls : Array Slot), lv_has zls 4 [(3, .int zx2), (2, .int zx1), (0, .ref (h 0)), (1, .int a1)] → Hw D (wR h cI M) A s.heap zH zlocs → W p l e (RM 1) s m args below meth c zH zlocs 0 0 Q (F0 m 4 zls []) := by
    intro zn
    induction zn with
    | zero => intro zx1 zx2 zq zhq; exact absurd zhq (fun h9 => itr_0 h9)
    | succ zn zih =>
        intro zx1 zx2 zq zhq k4_43 zH zlocs zls zhl zhw
        obtain ⟨zy9, zhs, zhq⟩ := itr_s zhq
        replace zhs : LRef_hungryOf_4_21 N a1 M zx1 zx2 = some zy9 := zhs
        unfold LRef_hungryOf_4_21 at zhs
        refine lv_iload_n zhx zhb dX12_hungryOf_4 rfl (lv_at zhl 0 rfl) ?_
        refine lv_aload_n zhx zhb dX12_hungryOf_5 rfl (lv_at zhl 2 rfl) ?_
        refine x_get C zhw inlX12 rfl 0 16 (by decide) kw_8_18 rfl (wR_c0 h cI M) rfl dX12_hungryOf_6 ?_
        refine lv_iconst (v := 0) zhx zhb dX12_hungryOf_9 (by decide) ?_
        obtain ⟨zv12, ze9, zhi, zhs⟩ := rdc_v zhs
        refine x_iald C zhw 16 (wR_c16 h cI M) zhi dX12_hungryOf_10 ?_
        refine lv_topi (fun zy9 ze8 => ?_)
        obtain rfl : zv12 = zy9 := ze9.trans ze8.symm
        clear ze9 ze8
        refine lv_icmp_ge (tgt := 43) zhx zhb dX12_hungryOf_11 (by decide) (fun zc9 => ?_) (fun zc9 => ?_)
        · replace zhs := br_T zhs zc9
          cases zhs
          exact k4_43 zx1 (itk_q zhq) zH zlocs zls (lv_sub zhl [1] rfl) zhw
        · replace zhs := br_F zhs zc9
          refine lv_iload_n zhx zhb dX12_hungryOf_14 rfl (lv_at zhl 1 rfl) ?_
          refine lv_iload_n zhx zhb dX12_hungryOf_15 rfl (lv_at zhl 3 rfl) ?_
          refine lv_if_eq (tgt := 30) zhx zhb dX12_hungryOf_16 (by decide) (fun zc9 => ?_) (fun zc9 => ?_)
          · replace zhs := br_T zhs zc9
            refine lv_iconst (v := 1) zhx zhb dX12_hungryOf_30 (by decide) ?_
            refine lv_goto (tgt := 35) zhx zhb dX12_hungryOf_31 (by decide) ?_
            refine lv_iadd zhx zhb dX12_hungryOf_35 ?_
            obtain ⟨zv14, ze9, zhs⟩ := ltI_e zhs
            refine lv_topi (fun zy9 ze8 => ?_)
            obtain rfl : zv14 = zy9 := ze9.trans ze8.symm
            clear ze9 ze8
            refine lv_istore_n (lv' := [(2, .int zv14), (3, .int zx2), (0, .ref (h 0)), (1, .int a1)]) zhx zhb dX12_hungryOf_36 rfl zhl (by decide) rfl (fun zls zhl => ?_)
            obtain ⟨zv15, ze9, zhs⟩ := ltI_e zhs
            refine lv_iinc (v := zv15) (lv' := [(3, .int zv15), (2, .int zv14), (0, .ref (h 0)), (1, .int a1)]) zhx zhb dX12_hungryOf_37 zhl (k := 1) rfl (by rw [ze9]; rfl) (by decide) rfl (fun zls zhl => ?_)
            clear ze9
            refine lv_goto (tgt := 4) zhx zhb dX12_hungryOf_40 (by decide) ?_
            cases zhs
            exact zih zv14 zv15 zq (itk_l zhq) k4_43 zH zlocs zls zhl zhw
          · replace zhs := br_F zhs zc9
            refine lv_aload_n zhx zhb dX12_hungryOf_19 rfl (lv_at zhl 2 rfl) ?_
            refine x_get C zhw inlX12 rfl 0 17 (by decide) kw_8_19 rfl (wR_c0 h cI M) rfl dX12_hungryOf_20 ?_
            refine lv_iload_n zhx zhb dX12_hungryOf_23 rfl (lv_at zhl 0 rfl) ?_
            obtain ⟨zv16, ze9, zhi, zhs⟩ := rdc_v zhs
            refine x_iald C zhw 17 (wR_c17 h cI M) zhi dX12_hungryOf_24 ?_
            refine lv_topi (fun zy9 ze8 => ?_)
            obtain rfl : zv16 = zy9 := ze9.trans ze8.symm
            clear ze9 ze8
            refine lv_iload_n zhx zhb dX12_hungryOf_25 rfl (lv_at zhl 3 rfl) ?_
            refine lv_iand zhx zhb dX12_hungryOf_26 ?_
            refine lv_if_eq (tgt := 34) zhx zhb dX12_hungryOf_27 (by decide) (fun zc9 => ?_) (fun zc9 => ?_)
            · replace zhs := br_T zhs zc9
              refine lv_iconst (v := 0) zhx zhb dX12_hungryOf_34 (by decide) ?_
              refine lv_iadd zhx zhb dX12_hungryOf_35 ?_
              obtain ⟨zv17, ze9, zhs⟩ := ltI_e zhs
              refine lv_topi (fun zy9 ze8 => ?_)
              obtain rfl : zv17 = zy9 := ze9.trans ze8.symm
              clear ze9 ze8
              refine lv_istore_n (lv' := [(2, .int zv17), (3, .int zx2), (0, .ref (h 0)), (1, .int a1)]) zhx zhb dX12_hungryOf_36 rfl zhl (by decide) rfl (fun zls zhl => ?_)
              obtain ⟨zv18, ze9, zhs⟩ := ltI_e zhs
              refine lv_iinc (v := zv18) (lv' := [(3, .int zv18), (2, .int zv17), (0, .ref (h 0)), (1, .int a1)]) zhx zhb dX12_hungryOf_37 zhl (k := 1) rfl (by rw [ze9]; rfl) (by decide) rfl (fun zls zhl => ?_)
              clear ze9
              refine lv_goto (tgt := 4) zhx zhb dX12_hungryOf_40 (by decide) ?_
              cases zhs
              exact zih zv17 zv18 zq (itk_l zhq) k4_43 zH zlocs zls zhl zhw
            · replace zhs := br_F zhs zc9
              refine lv_iconst (v := 1) zhx zhb dX12_hungryOf_30 (by decide) ?_
              refine lv_goto (tgt := 35) zhx zhb dX12_hungryOf_31 (by decide) ?_
              refine lv_iadd zhx zhb dX12_hungryOf_35 ?_
              obtain ⟨zv19, ze9, zhs⟩ := ltI_e zhs
              refine lv_topi (fun zy9 ze8 => ?_)
              obtain rfl : zv19 = zy9 := ze9.trans ze8.symm
              clear ze9 ze8
              refine lv_istore_n (lv' := [(2, .int zv19), (3, .int zx2), (0, .ref (h 0)), (1, .int a1)]) zhx zhb dX12_hungryOf_36 rfl zhl (by decide) rfl (fun zls zhl => ?_)
              obtain ⟨zv20, ze9, zhs⟩ := ltI_e zhs
              refine lv_iinc (v := zv20) (lv' := [(3, .int zv20), (2, .int zv19), (0, .ref (h 0)), (1, .int a1)]) zhx zhb dX12_hungryOf_37 zhl (k := 1) rfl (by rw [ze9]; rfl) (by decide) rfl (fun zls zhl => ?_)
              clear ze9
              refine lv_goto (tgt := 4) zhx zhb dX12_hungryOf_40 (by decide) ?_
              cases zhs
              exact zih zv19 zv20 zq (itk_l zhq) k4_43 zH zlocs zls zhl zhw
  refine hloop21 N 0 0 zq21 zhq21 (fun zv22 zhqe zH zlocs zls zhl zhw => ?_) zH zlocs zls zhl zhw
  · subst zhqe
    refine lv_iload_n zhx zhb dX12_hungryOf_43 rfl (lv_at zhl 0 rfl) ?_
    cases zhs
    exact zhret _ _ _ _ dX12_hungryOf_44 (by rfl) zhw

-- OffFirstModel.costOf in (0, ())
def LRef_costOf_11_37 (N : Nat) (a1 : Int32) (a2 : Int32) (zx2 : Int32) (zx3 : Int32) (zM4 : Mm) : Option ((Int32 × Int32 × Mm) ⊕ ((Mm) ⊕ (Int32 × Mm))) :=
  (if a2 ≤ zx3 then some (.inr (.inr (zx2, zM4)))
  else (((if zx3 ≤ 0 then some zM4
  else (sRef_goHour N 1 zM4).bind fun zM24 =>
  some zM24) : Option (Mm))).bind fun zM22 =>
  (sRef_goToEvening N zM22).bind fun zM25 =>
  rdc 2 (zM25 14) 0 fun zv26 =>
  (sRef_figure N a1 (zv26 + 1) a2 zx3).bind fun zv27 =>
  (((if zv27 = 0 then some 0
  else rdc 10 (zM25 15) (zv27 - 1) fun zv31 =>
  some zv31) : Option (Int32))).bind fun zv29 =>
  (sRef_eatDish N zv29 zM25).bind fun (zv32, zM33) =>
  (if zv32 = 0 then some (.inr (.inl zM33))
  else (sRef_hungryOf N zv29 zM33).bind fun zv34 =>
  ltI (zx2 + (10 * zv34)) fun zv35 =>
  ltI (zx3 + 1) fun zv36 =>
  some (.inl (zv35, zv36, zM33))))
def sRef_costOf (N : Nat) (a1 : Int32) (a2 : Int32) (M : Mm) : Option (Int32 × Mm) :=
  (sRef_copy N 0 1 M).bind fun zM1 =>
  ((itr (fun z : Int32 × Int32 × Mm => LRef_costOf_11_37 N a1 a2 z.1 z.2.1 z.2.2) N (0, 0, zM1)).bind fun q => match q with
  | .inl zM38 => some ((-4), zM38)
  | .inr (zv39, zM40) => (sRef_offCoin N 1 zM40).bind fun zv41 =>
  some (zv39 + zv41, zM40))
set_option maxHeartbeats 4000000 in
set_option maxRecDepth 100000 in
theorem cRef_costOf (l : Launch) (D : va_G) (cI : ClassId) (h : Nat → Nat) (N : Nat) (a1 : Int32) (a2 : Int32) (M : Mm) (r : Int32) (M' : Mm) (zhs : sRef_costOf N a1 a2 M = some (r, M')) : CtI l yX12_costOf cX12_costOf 7 (some .int) 5 D cI (wR h cI M) (wR h cI M') [.ref (h 0), .int a1, .int a2] r := by
  unfold sRef_costOf at zhs
  refine CtI_of (by decide +kernel) (Nat.le_of_ble_eq_true rfl) ⟨_, rfl⟩ ?_
  intro p e s m args below meth c A Q zls zH zlocs C zhw zhl zhret
  have zhx := C.1
  have zhb := C.2.1
  have zhown := C.2.2.2.2.1
  have zhtB := C.2.2.2.2.2.2.1
  have zhl : lv_has zls 7 [(0, .ref (h 0)), (1, .int a1), (2, .int a2)] := zhl
  refine lv_aload_n zhx zhb dX12_costOf_0 rfl (lv_at zhl 0 rfl) ?_
  refine lv_iconst (v := 0) zhx zhb dX12_costOf_1 (by decide) ?_
  refine lv_iconst (v := 1) zhx zhb dX12_costOf_2 (by decide) ?_
  obtain ⟨zM1, zhp, zhs⟩ := bnd_e zhs
  refine x_cVV (As := [.int 0, .int 1]) (rest := []) C zhw zhl (cRef_copy l D cI h N 0 1 M zM1 zhp) (by decide) (by decide) kw_28_9 kw_28_10 kw_28_11 kw_1_5 kw_28_12 md_X12_copy rfl 0 (wR_c0 h cI M) rfl rfl rfl rfl (Nat.le_of_ble_eq_true rfl) dX12_costOf_3 (fun zH zlocs zhw => ?_)
  refine lv_iconst (v := 0) zhx zhb dX12_costOf_6 (by decide) ?_
  refine lv_istore_n (lv' := [(3, .int 0), (0, .ref (h 0)), (1, .int a1), (2, .int a2)]) zhx zhb dX12_costOf_7 rfl zhl (by decide) rfl (fun zls zhl => ?_)
  refine lv_iconst (v := 0) zhx zhb dX12_costOf_8 (by decide) ?_
  refine lv_istore (lv' := [(4, .int 0), (3, .int 0), (0, .ref (h 0)), (1, .int a1), (2, .int a2)]) zhx zhb dX12_costOf_9 zhl (by decide) rfl (fun zls zhl => ?_)
  obtain ⟨zq37, zhq37, zhs⟩ := bnd_e zhs
  have hloop37 : ∀ (zn : Nat) (zx2 : Int32) (zx3 : Int32) (zM4 : Mm) (zq : (Mm) ⊕ (Int32 × Mm)), itr (fun z : Int32 × Int32 × Mm => LRef_costOf_11_37 N a1 a2 z.1 z.2.1 z.2.2) zn (zx2, zx3, zM4) = some zq → (∀ (zy1 : Mm), (.inl zy1) = zq → ∀ (zH : Heap) (zlocs : List Loc) (zls : Array Slot), lv_has zls 7 [] → Hw D (wR h cI zy1) A s.heap zH zlocs → W p l e (RM 5) s m args below meth c zH zlocs 0 0 Q (F0 m 78 zls [])) → (∀ (zy1 : Int32) (zy2 : Mm), (.inr (zy1, zy2)) = zq → ∀ (zH : Heap) (zlocs : List Loc) (zls : Array Slot), lv_has zls 7 [(3, .int zy1), (0, .ref (h 0))] → Hw D (wR h cI zy2) A s.heap zH zlocs → W p l e (RM 5) s m args below meth c zH zlocs 0 0 Q (F0 m 99 zls [])) → ∀ (zH : Heap) (zlocs : List Loc) (zls : Array Slot), lv_has zls 7 [(4, .int zx3), (3, .int zx2), (0, .ref (h 0)), (1, .int a1), (2, .int a2)] → Hw D (wR h cI zM4) A s.heap zH zlocs → W p l e (RM 5) s m args below meth c zH zlocs 0 0 Q (F0 m 11 zls []) := by
    intro zn
    induction zn with
    | zero => intro zx2 zx3 zM4 zq zhq; exact absurd zhq (fun h9 => itr_0 h9)
    | succ zn zih =>
        intro zx2 zx3 zM4 zq zhq k11_78 k11_99 zH zlocs zls zhl zhw
        obtain ⟨zy9, zhs, zhq⟩ := itr_s zhq
        replace zhs : LRef_costOf_11_37 N a1 a2 zx2 zx3 zM4 = some zy9 := zhs
        unfold LRef_costOf_11_37 at zhs
        refine lv_iload zhx zhb dX12_costOf_11 (lv_at zhl 0 rfl) ?_
        refine lv_iload_n zhx zhb dX12_costOf_13 rfl (lv_at zhl 4 rfl) ?_
        refine lv_icmp_ge (tgt := 99) zhx zhb dX12_costOf_14 (by decide) (fun zc9 => ?_) (fun zc9 => ?_)
        · replace zhs := br_T zhs zc9
          cases zhs
          exact k11_99 zx2 zM4 (itk_q zhq) zH zlocs zls (lv_sub zhl [1, 2] rfl) zhw
        · replace zhs := br_F zhs zc9
          refine lv_iload zhx zhb dX12_costOf_17 (lv_at zhl 0 rfl) ?_
          obtain ⟨zM22, zhq, zhs⟩ := bnd_e zhs
          have hJ23 : ∀ (zH : Heap) (zlocs : List Loc) (zls : Array Slot), lv_has zls 7 [(4, .int zx3), (3, .int zx2), (0, .ref (h 0)), (1, .int a1), (2, .int a2)] → Hw D (wR h cI zM22) A s.heap zH zlocs → W p l e (RM 5) s m args below meth c zH zlocs 0 0 Q (F0 m 27 zls []) := by
            intro zH zlocs zls zhl zhw
            refine lv_aload_n zhx zhb dX12_costOf_27 rfl (lv_at zhl 2 rfl) ?_
            obtain ⟨zM25, zhp, zhs⟩ := bnd_e zhs
            refine x_cVV (As := []) (rest := []) C zhw zhl (cRef_goToEvening l D cI h N zM22 zM25 zhp) (by decide) (by decide) kw_32_9 kw_32_10 kw_32_11 kw_1_5 kw_32_12 md_X12_goToEvening rfl 0 (wR_c0 h cI zM22) rfl rfl rfl rfl (Nat.le_of_ble_eq_true rfl) dX12_costOf_28 (fun zH zlocs zhw => ?_)
            refine lv_aload_n zhx zhb dX12_costOf_31 rfl (lv_at zhl 2 rfl) ?_
            refine lv_iload_n zhx zhb dX12_costOf_32 rfl (lv_at zhl 3 rfl) ?_
            refine lv_aload_n zhx zhb dX12_costOf_33 rfl (lv_at zhl 2 rfl) ?_
            refine x_get C zhw inlX12 rfl 0 14 (by decide) kw_8_16 rfl (wR_c0 h cI zM25) rfl dX12_costOf_34 ?_
            refine lv_iconst (v := 0) zhx zhb dX12_costOf_37 (by decide) ?_
            obtain ⟨zv26, ze9, zhi, zhs⟩ := rdc_v zhs
            refine x_iald C zhw 14 (wR_c14 h cI zM25) zhi dX12_costOf_38 ?_
            refine lv_topi (fun zy9 ze8 => ?_)
            obtain rfl : zv26 = zy9 := ze9.trans ze8.symm
            clear ze9 ze8
            refine lv_iconst (v := 1) zhx zhb dX12_costOf_39 (by decide) ?_
            refine lv_iadd zhx zhb dX12_costOf_40 ?_
            refine lv_iload_n zhx zhb dX12_costOf_41 rfl (lv_at zhl 4 rfl) ?_
            refine lv_iload zhx zhb dX12_costOf_42 (lv_at zhl 0 rfl) ?_
            obtain ⟨zv27, zhp, zhs⟩ := bnd_e zhs
            refine x_cVI (As := [.int a1, .int (zv26 + 1), .int a2, .int zx3]) (rest := []) C zhw zhl (cRef_figure l D cI h N a1 (zv26 + 1) a2 zx3 zM25 zv27 zhp) (by decide) (by decide) kw_32_13 kw_32_14 kw_32_15 kw_1_5 kw_32_16 md_X12_figure rfl 0 (wR_c0 h cI zM25) rfl rfl rfl rfl (Nat.le_of_ble_eq_true rfl) dX12_costOf_44 (fun zH zlocs zhw hn9 => ?_)
            refine lv_istore (lv' := [(5, .int zv27), (4, .int zx3), (3, .int zx2), (0, .ref (h 0)), (1, .int a1), (2, .int a2)]) zhx zhb dX12_costOf_47 zhl (by decide) rfl (fun zls zhl => ?_)
            refine lv_iload zhx zhb dX12_costOf_49 (lv_at zhl 0 rfl) ?_
            obtain ⟨zv29, zhq, zhs⟩ := bnd_e zhs
            have hJ30 : ∀ (zH : Heap) (zlocs : List Loc) (zls : Array Slot), lv_has zls 7 [(4, .int zx3), (3, .int zx2), (0, .ref (h 0)), (1, .int a1), (2, .int a2)] → Hw D (wR h cI zM25) A s.heap zH zlocs → W p l e (RM 5) s m args below meth c zH zlocs 0 0 Q (F0 m 67 zls [.int zv29]) := by
              intro zH zlocs zls zhl zhw
              refine lv_istore (lv' := [(6, .int zv29), (4, .int zx3), (3, .int zx2), (0, .ref (h 0)), (1, .int a1), (2, .int a2)]) zhx zhb dX12_costOf_67 zhl (by decide) rfl (fun zls zhl => ?_)
              refine lv_aload_n zhx zhb dX12_costOf_69 rfl (lv_at zhl 3 rfl) ?_
              refine lv_iload zhx zhb dX12_costOf_70 (lv_at zhl 0 rfl) ?_
              obtain ⟨⟨zv32, zM33⟩, zhp, zhs⟩ := bnd_e zhs
              try dsimp only at zhs
              refine x_cVI (As := [.int zv29]) (rest := []) C zhw zhl (cRef_eatDish l D cI h N zv29 zM25 zv32 zM33 zhp) (by decide) (by decide) kw_32_17 kw_32_18 kw_32_19 kw_1_5 kw_32_20 md_X12_eatDish rfl 0 (wR_c0 h cI zM25) rfl rfl rfl rfl (Nat.le_of_ble_eq_true rfl) dX12_costOf_72 (fun zH zlocs zhw hzv32 => ?_)
              refine lv_if_ne (tgt := 81) zhx zhb dX12_costOf_75 (by decide) (fun zc9 => ?_) (fun zc9 => ?_)
              · replace zhs := br_F zhs zc9
                refine lv_iload_n zhx zhb dX12_costOf_81 rfl (lv_at zhl 2 rfl) ?_
                refine lv_bipush (v := 10) zhx zhb dX12_costOf_82 (by decide) ?_
                refine lv_aload_n zhx zhb dX12_costOf_84 rfl (lv_at zhl 3 rfl) ?_
                refine lv_iload zhx zhb dX12_costOf_85 (lv_at zhl 0 rfl) ?_
                obtain ⟨zv34, zhp, zhs⟩ := bnd_e zhs
                refine x_cVI (As := [.int zv29]) (rest := [.int 10, .int zx2]) C zhw zhl (cRef_hungryOf l D cI h N zv29 zM33 zv34 zhp) (by decide) (by decide) kw_33_5 kw_33_6 kw_33_7 kw_1_5 kw_33_8 md_X12_hungryOf rfl 0 (wR_c0 h cI zM33) rfl rfl rfl rfl (Nat.le_of_ble_eq_true rfl) dX12_costOf_87 (fun zH zlocs zhw hn9 => ?_)
                refine lv_imul zhx zhb dX12_costOf_90 ?_
                refine lv_iadd zhx zhb dX12_costOf_91 ?_
                obtain ⟨zv35, ze9, zhs⟩ := ltI_e zhs
                refine lv_topi (fun zy9 ze8 => ?_)
                obtain rfl : zv35 = zy9 := ze9.trans ze8.symm
                clear ze9 ze8
                refine lv_istore_n (lv' := [(3, .int zv35), (6, .int zv29), (4, .int zx3), (0, .ref (h 0)), (1, .int a1), (2, .int a2)]) zhx zhb dX12_costOf_92 rfl zhl (by decide) rfl (fun zls zhl => ?_)
                obtain ⟨zv36, ze9, zhs⟩ := ltI_e zhs
                refine lv_iinc (v := zv36) (lv' := [(4, .int zv36), (3, .int zv35), (6, .int zv29), (0, .ref (h 0)), (1, .int a1), (2, .int a2)]) zhx zhb dX12_costOf_93 zhl (k := 2) rfl (by rw [ze9]; rfl) (by decide) rfl (fun zls zhl => ?_)
                clear ze9
                refine lv_goto (tgt := 11) zhx zhb dX12_costOf_96 (by decide) ?_
                cases zhs
                exact zih zv35 zv36 zM33 zq (itk_l zhq) k11_78 k11_99 zH zlocs zls (lv_sub zhl [0, 1, 3, 4, 5] rfl) zhw
              · replace zhs := br_T zhs zc9
                cases zhs
                exact k11_78 zM33 (itk_q zhq) zH zlocs zls (lv_sub zhl [] rfl) zhw
            replace zhs := zhq
            clear zhq
            refine lv_if_ne (tgt := 58) zhx zhb dX12_costOf_51 (by decide) (fun zc9 => ?_) (fun zc9 => ?_)
            · replace zhs := br_F zhs zc9
              refine lv_aload_n zhx zhb dX12_costOf_58 rfl (lv_at zhl 3 rfl) ?_
              refine x_get C zhw inlX12 rfl 0 15 (by decide) kw_8_17 rfl (wR_c0 h cI zM25) rfl dX12_costOf_59 ?_
              refine lv_iload zhx zhb dX12_costOf_62 (lv_at zhl 0 rfl) ?_
              refine lv_iconst (v := 1) zhx zhb dX12_costOf_64 (by decide) ?_
              refine lv_isub zhx zhb dX12_costOf_65 ?_
              obtain ⟨zv31, ze9, zhi, zhs⟩ := rdc_v zhs
              refine x_iald C zhw 15 (wR_c15 h cI zM25) zhi dX12_costOf_66 ?_
              refine lv_topi (fun zy9 ze8 => ?_)
              obtain rfl : zv31 = zy9 := ze9.trans ze8.symm
              clear ze9 ze8
              cases zhs
              exact hJ30 zH zlocs zls (lv_sub zhl [1, 2, 3, 4, 5] rfl) zhw
            · replace zhs := br_T zhs zc9
              refine lv_iconst (v := 0) zhx zhb dX12_costOf_54 (by decide) ?_
              refine lv_goto (tgt := 67) zhx zhb dX12_costOf_55 (by decide) ?_
              cases zhs
              exact hJ30 zH zlocs zls (lv_sub zhl [1, 2, 3, 4, 5] rfl) zhw
          replace zhs := zhq
          clear zhq
          refine lv_if_le (tgt := 27) zhx zhb dX12_costOf_19 (by decide) (fun zc9 => ?_) (fun zc9 => ?_)
          · replace zhs := br_T zhs zc9
            cases zhs
            exact hJ23 zH zlocs zls zhl zhw
          · replace zhs := br_F zhs zc9
            refine lv_aload_n zhx zhb dX12_costOf_22 rfl (lv_at zhl 2 rfl) ?_
            refine lv_iconst (v := 1) zhx zhb dX12_costOf_23 (by decide) ?_
            obtain ⟨zM24, zhp, zhs⟩ := bnd_e zhs
            refine x_cVV (As := [.int 1]) (rest := []) C zhw zhl (cRef_goHour l D cI h N 1 zM4 zM24 zhp) (by decide) (by decide) kw_23_19 kw_23_20 kw_23_21 kw_1_5 kw_23_22 md_X12_goHour rfl 0 (wR_c0 h cI zM4) rfl rfl rfl rfl (Nat.le_of_ble_eq_true rfl) dX12_costOf_24 (fun zH zlocs zhw => ?_)
            cases zhs
            exact hJ23 zH zlocs zls zhl zhw
  refine hloop37 N 0 0 zM1 zq37 zhq37 (fun zM38 zhqe zH zlocs zls zhl zhw => ?_) (fun zv39 zM40 zhqe zH zlocs zls zhl zhw => ?_) zH zlocs zls zhl zhw
  · subst zhqe
    try dsimp only at zhs
    refine lv_bipush (v := (-4)) zhx zhb dX12_costOf_78 (by decide) ?_
    cases zhs
    exact zhret _ _ _ _ dX12_costOf_80 (by rfl) zhw
  · subst zhqe
    try dsimp only at zhs
    refine lv_iload_n zhx zhb dX12_costOf_99 rfl (lv_at zhl 0 rfl) ?_
    refine lv_aload_n zhx zhb dX12_costOf_100 rfl (lv_at zhl 1 rfl) ?_
    refine lv_iconst (v := 1) zhx zhb dX12_costOf_101 (by decide) ?_
    obtain ⟨zv41, zhp, zhs⟩ := bnd_e zhs
    refine x_cVI (As := [.int 1]) (rest := [.int zv39]) C zhw zhl (cRef_offCoin l D cI h N 1 zM40 zv41 zhp) (by decide) (by decide) kw_28_17 kw_28_18 kw_28_19 kw_1_5 kw_28_20 md_X12_offCoin rfl 0 (wR_c0 h cI zM40) rfl rfl rfl rfl (Nat.le_of_ble_eq_true rfl) dX12_costOf_102 (fun zH zlocs zhw hn9 => ?_)
    refine lv_iadd zhx zhb dX12_costOf_105 ?_
    cases zhs
    exact zhret _ _ _ _ dX12_costOf_106 (by rfl) zhw

-- OffFirstModel.plan in (0, ())
def LRef_plan_34_11 (N : Nat) (a1 : Int32) (M : Mm) (zx3 : Int32) (zx4 : Int32) : Option ((Int32 × Int32) ⊕ ((Int32))) :=
  (if a1 ≤ zx4 then some (.inr zx3)
  else rdc 2 (M 14) 0 fun zv8 =>
  ltI (zx3 * (zv8 + 1)) fun zv9 =>
  ltI (zx4 + 1) fun zv10 =>
  some (.inl (zv9, zv10)))
def LRef_plan_67_29 (N : Nat) (a1 : Int32) (zv12 : Int32) (zx13 : Int32) (zx14 : Int32) (zx15 : Int32) (zM16 : Mm) : Option ((Int32 × Int32 × Int32 × Mm) ⊕ ((Int32 × Int32 × Mm))) :=
  (if zv12 ≤ zx15 then some (.inr (zx13, zx14, zM16))
  else (sRef_costOf N zx15 a1 zM16).bind fun (zv23, zM24) =>
  (if zv23 < 0 then ltI (zx15 + 1) fun zv25 =>
  some (.inl (zx13, zx14, zv25, zM24))
  else (if zx13 < 0 then ltI (zx15 + 1) fun zv26 =>
  some (.inl (zx15, zv23, zv26, zM24))
  else (if zx14 ≤ zv23 then ltI (zx15 + 1) fun zv27 =>
  some (.inl (zx13, zx14, zv27, zM24))
  else ltI (zx15 + 1) fun zv28 =>
  some (.inl (zx15, zv23, zv28, zM24))))))
def sRef_plan (N : Nat) (a1 : Int32) (a2 : Int32) (M : Mm) : Option (Int32 × Mm) :=
  (sRef_in (Int32.toInt64 a1) 1 4).bind fun zv1 =>
  (if zv1 = 0 then some ((-1), M)
  else (sRef_in (Int32.toInt64 a2) (-1) (Int32.toInt64 (a1 - 1))).bind fun zv2 =>
  (if zv2 = 0 then some ((-1), M)
  else (itr (fun z : Int32 × Int32 => LRef_plan_34_11 N a1 M z.1 z.2) N (1, 0)).bind fun zv12 =>
  (itr (fun z : Int32 × Int32 × Int32 × Mm => LRef_plan_67_29 N a1 zv12 z.1 z.2.1 z.2.2.1 z.2.2.2) N ((-4), 0, 0, M)).bind fun (zv30, zv31, zM32) =>
  (if 0 ≤ a2 then rdc 2 (zM32 14) 0 fun zv33 =>
  (sRef_figure N zv30 (zv33 + 1) a1 a2).bind fun zv34 =>
  (if zv34 = 0 then some ((-4), zM32)
  else some (zv34 - 1, zM32))
  else some (zv31, zM32))))
set_option maxHeartbeats 4000000 in
set_option maxRecDepth 100000 in
theorem cRef_plan (l : Launch) (D : va_G) (cI : ClassId) (h : Nat → Nat) (N : Nat) (a1 : Int32) (a2 : Int32) (M : Mm) (r : Int32) (M' : Mm) (zhs : sRef_plan N a1 a2 M = some (r, M')) : CtI l yX12_plan cX12_plan 8 (some .int) 6 D cI (wR h cI M) (wR h cI M') [.ref (h 0), .int a1, .int a2] r := by
  unfold sRef_plan at zhs
  refine CtI_of (by decide +kernel) (Nat.le_of_ble_eq_true rfl) ⟨_, rfl⟩ ?_
  intro p e s m args below meth c A Q zls zH zlocs C zhw zhl zhret
  have zhx := C.1
  have zhb := C.2.1
  have zhown := C.2.2.2.2.1
  have zhtB := C.2.2.2.2.2.2.1
  have zhl : lv_has zls 8 [(0, .ref (h 0)), (1, .int a1), (2, .int a2)] := zhl
  refine lv_iload_n zhx zhb dX12_plan_0 rfl (lv_at zhl 1 rfl) ?_
  refine lv_i2l zhx zhb dX12_plan_1 rfl ?_
  refine lv_lconst (v := 1) zhx zhb dX12_plan_2 (by decide) ?_
  refine lv_ldc2 zhx zhb zhown (zhtB _ kw_32_3) dX12_plan_3 ?_
  obtain ⟨zv1, zhp, zhs⟩ := bnd_e zhs
  refine x_cSI (As := [.long (Int32.toInt64 a1), .long 1, .long 4]) (rest := []) C zhw zhl (cRef_in l D cI h (Int32.toInt64 a1) 1 4 M zv1 zhp) (by decide) (by decide) kw_10_14 kw_10_15 kw_1_5 kw_10_16 md_X12_in rfl rfl (Nat.le_of_ble_eq_true rfl) dX12_plan_6 (fun zH zlocs zhw hzv1 => ?_)
  refine lv_if_eq (tgt := 27) zhx zhb dX12_plan_9 (by decide) (fun zc9 => ?_) (fun zc9 => ?_)
  · replace zhs := br_T zhs zc9
    refine lv_iconst (v := (-1)) zhx zhb dX12_plan_27 (by decide) ?_
    cases zhs
    exact zhret _ _ _ _ dX12_plan_28 (by rfl) zhw
  · replace zhs := br_F zhs zc9
    refine lv_iload_n zhx zhb dX12_plan_12 rfl (lv_at zhl 2 rfl) ?_
    refine lv_i2l zhx zhb dX12_plan_13 rfl ?_
    refine lv_ldc2 zhx zhb zhown (zhtB _ kw_32_4) dX12_plan_14 ?_
    refine lv_iload_n zhx zhb dX12_plan_17 rfl (lv_at zhl 1 rfl) ?_
    refine lv_iconst (v := 1) zhx zhb dX12_plan_18 (by decide) ?_
    refine lv_isub zhx zhb dX12_plan_19 ?_
    refine lv_i2l zhx zhb dX12_plan_20 rfl ?_
    obtain ⟨zv2, zhp, zhs⟩ := bnd_e zhs
    refine x_cSI (As := [.long (Int32.toInt64 a2), .long (-1), .long (Int32.toInt64 (a1 - 1))]) (rest := []) C zhw zhl (cRef_in l D cI h (Int32.toInt64 a2) (-1) (Int32.toInt64 (a1 - 1)) M zv2 zhp) (by decide) (by decide) kw_10_14 kw_10_15 kw_1_5 kw_10_16 md_X12_in rfl rfl (Nat.le_of_ble_eq_true rfl) dX12_plan_21 (fun zH zlocs zhw hzv2 => ?_)
    refine lv_if_ne (tgt := 29) zhx zhb dX12_plan_24 (by decide) (fun zc9 => ?_) (fun zc9 => ?_)
    · replace zhs := br_F zhs zc9
      refine lv_iconst (v := 1) zhx zhb dX12_plan_29 (by decide) ?_
      refine lv_istore_n (lv' := [(3, .int 1), (0, .ref (h 0)), (1, .int a1), (2, .int a2)]) zhx zhb dX12_plan_30 rfl zhl (by decide) rfl (fun zls zhl => ?_)
      refine lv_iconst (v := 0) zhx zhb dX12_plan_31 (by decide) ?_
      refine lv_istore (lv' := [(4, .int 0), (3, .int 1), (0, .ref (h 0)), (1, .int a1), (2, .int a2)]) zhx zhb dX12_plan_32 zhl (by decide) rfl (fun zls zhl => ?_)
      obtain ⟨zq11, zhq11, zhs⟩ := bnd_e zhs
      have hloop11 : ∀ (zn : Nat) (zx3 : Int32) (zx4 : Int32) (zq : (Int32)), itr (fun z : Int32 × Int32 => LRef_plan_34_11 N a1 M z.1 z.2) zn (zx3, zx4) = some zq → (∀ (zy1 : Int32), zy1 = zq → ∀ (zH : Heap) (zlocs : List Loc) (zls : Array Slot), lv_has zls 8 [(3, .int zy1), (0, .ref (h 0)), (1, .int a1), (2, .int a2)] → Hw D (wR h cI M) A s.heap zH zlocs → W p l e (RM 6) s m args below meth c zH zlocs 0 0 Q (F0 m 57 zls [])) → ∀ (zH : Heap) (zlocs : List Loc) (zls : Array Slot), lv_has zls 8 [(4, .int zx4), (3, .int zx3), (0, .ref (h 0)), (1, .int a1), (2, .int a2)] → Hw D (wR h cI M) A s.heap zH zlocs → W p l e (RM 6) s m args below meth c zH zlocs 0 0 Q (F0 m 34 zls []) := by
        intro zn
        induction zn with
        | zero => intro zx3 zx4 zq zhq; exact absurd zhq (fun h9 => itr_0 h9)
        | succ zn zih =>
            intro zx3 zx4 zq zhq k34_57 zH zlocs zls zhl zhw
            obtain ⟨zy9, zhs, zhq⟩ := itr_s zhq
            replace zhs : LRef_plan_34_11 N a1 M zx3 zx4 = some zy9 := zhs
            unfold LRef_plan_34_11 at zhs
            refine lv_iload zhx zhb dX12_plan_34 (lv_at zhl 0 rfl) ?_
            refine lv_iload_n zhx zhb dX12_plan_36 rfl (lv_at zhl 3 rfl) ?_
            refine lv_icmp_ge (tgt := 57) zhx zhb dX12_plan_37 (by decide) (fun zc9 => ?_) (fun zc9 => ?_)
            · replace zhs := br_T zhs zc9
              cases zhs
              exact k34_57 zx3 (itk_q zhq) zH zlocs zls (lv_sub zhl [1, 2, 3, 4] rfl) zhw
            · replace zhs := br_F zhs zc9
              refine lv_iload_n zhx zhb dX12_plan_40 rfl (lv_at zhl 1 rfl) ?_
              refine lv_aload_n zhx zhb dX12_plan_41 rfl (lv_at zhl 2 rfl) ?_
              refine x_get C zhw inlX12 rfl 0 14 (by decide) kw_8_16 rfl (wR_c0 h cI M) rfl dX12_plan_42 ?_
              refine lv_iconst (v := 0) zhx zhb dX12_plan_45 (by decide) ?_
              obtain ⟨zv8, ze9, zhi, zhs⟩ := rdc_v zhs
              refine x_iald C zhw 14 (wR_c14 h cI M) zhi dX12_plan_46 ?_
              refine lv_topi (fun zy9 ze8 => ?_)
              obtain rfl : zv8 = zy9 := ze9.trans ze8.symm
              clear ze9 ze8
              refine lv_iconst (v := 1) zhx zhb dX12_plan_47 (by decide) ?_
              refine lv_iadd zhx zhb dX12_plan_48 ?_
              refine lv_imul zhx zhb dX12_plan_49 ?_
              obtain ⟨zv9, ze9, zhs⟩ := ltI_e zhs
              refine lv_topi (fun zy9 ze8 => ?_)
              obtain rfl : zv9 = zy9 := ze9.trans ze8.symm
              clear ze9 ze8
              refine lv_istore_n (lv' := [(3, .int zv9), (4, .int zx4), (0, .ref (h 0)), (1, .int a1), (2, .int a2)]) zhx zhb dX12_plan_50 rfl zhl (by decide) rfl (fun zls zhl => ?_)
              obtain ⟨zv10, ze9, zhs⟩ := ltI_e zhs
              refine lv_iinc (v := zv10) (lv' := [(4, .int zv10), (3, .int zv9), (0, .ref (h 0)), (1, .int a1), (2, .int a2)]) zhx zhb dX12_plan_51 zhl (k := 1) rfl (by rw [ze9]; rfl) (by decide) rfl (fun zls zhl => ?_)
              clear ze9
              refine lv_goto (tgt := 34) zhx zhb dX12_plan_54 (by decide) ?_
              cases zhs
              exact zih zv9 zv10 zq (itk_l zhq) k34_57 zH zlocs zls zhl zhw
      refine hloop11 N 1 0 zq11 zhq11 (fun zv12 zhqe zH zlocs zls zhl zhw => ?_) zH zlocs zls zhl zhw
      · subst zhqe
        refine lv_bipush (v := (-4)) zhx zhb dX12_plan_57 (by decide) ?_
        refine lv_istore (lv' := [(4, .int (-4)), (3, .int zv12), (0, .ref (h 0)), (1, .int a1), (2, .int a2)]) zhx zhb dX12_plan_59 zhl (by decide) rfl (fun zls zhl => ?_)
        refine lv_iconst (v := 0) zhx zhb dX12_plan_61 (by decide) ?_
        refine lv_istore (lv' := [(5, .int 0), (4, .int (-4)), (3, .int zv12), (0, .ref (h 0)), (1, .int a1), (2, .int a2)]) zhx zhb dX12_plan_62 zhl (by decide) rfl (fun zls zhl => ?_)
        refine lv_iconst (v := 0) zhx zhb dX12_plan_64 (by decide) ?_
        refine lv_istore (lv' := [(6, .int 0), (5, .int 0), (4, .int (-4)), (3, .int zv12), (0, .ref (h 0)), (1, .int a1), (2, .int a2)]) zhx zhb dX12_plan_65 zhl (by decide) rfl (fun zls zhl => ?_)
        obtain ⟨zq29, zhq29, zhs⟩ := bnd_e zhs
        have hloop29 : ∀ (zn : Nat) (zx13 : Int32) (zx14 : Int32) (zx15 : Int32) (zM16 : Mm) (zq : (Int32 × Int32 × Mm)), itr (fun z : Int32 × Int32 × Int32 × Mm => LRef_plan_67_29 N a1 zv12 z.1 z.2.1 z.2.2.1 z.2.2.2) zn (zx13, zx14, zx15, zM16) = some zq → (∀ (zy1 : Int32) (zy2 : Int32) (zy3 : Mm), (zy1, zy2, zy3) = zq → ∀ (zH : Heap) (zlocs : List Loc) (zls : Array Slot), lv_has zls 8 [(5, .int zy2), (4, .int zy1), (0, .ref (h 0)), (1, .int a1), (2, .int a2)] → Hw D (wR h cI zy3) A s.heap zH zlocs → W p l e (RM 6) s m args below meth c zH zlocs 0 0 Q (F0 m 113 zls [])) → ∀ (zH : Heap) (zlocs : List Loc) (zls : Array Slot), lv_has zls 8 [(6, .int zx15), (5, .int zx14), (4, .int zx13), (3, .int zv12), (0, .ref (h 0)), (1, .int a1), (2, .int a2)] → Hw D (wR h cI zM16) A s.heap zH zlocs → W p l e (RM 6) s m args below meth c zH zlocs 0 0 Q (F0 m 67 zls []) := by
          intro zn
          induction zn with
          | zero => intro zx13 zx14 zx15 zM16 zq zhq; exact absurd zhq (fun h9 => itr_0 h9)
          | succ zn zih =>
              intro zx13 zx14 zx15 zM16 zq zhq k67_113 zH zlocs zls zhl zhw
              obtain ⟨zy9, zhs, zhq⟩ := itr_s zhq
              replace zhs : LRef_plan_67_29 N a1 zv12 zx13 zx14 zx15 zM16 = some zy9 := zhs
              unfold LRef_plan_67_29 at zhs
              refine lv_iload zhx zhb dX12_plan_67 (lv_at zhl 0 rfl) ?_
              refine lv_iload_n zhx zhb dX12_plan_69 rfl (lv_at zhl 3 rfl) ?_
              refine lv_icmp_ge (tgt := 113) zhx zhb dX12_plan_70 (by decide) (fun zc9 => ?_) (fun zc9 => ?_)
              · replace zhs := br_T zhs zc9
                cases zhs
                exact k67_113 zx13 zx14 zM16 (itk_q zhq) zH zlocs zls (lv_sub zhl [1, 2, 4, 5, 6] rfl) zhw
              · replace zhs := br_F zhs zc9
                refine lv_aload_n zhx zhb dX12_plan_73 rfl (lv_at zhl 4 rfl) ?_
                refine lv_iload zhx zhb dX12_plan_74 (lv_at zhl 0 rfl) ?_
                refine lv_iload_n zhx zhb dX12_plan_76 rfl (lv_at zhl 5 rfl) ?_
                obtain ⟨⟨zv23, zM24⟩, zhp, zhs⟩ := bnd_e zhs
                try dsimp only at zhs
                refine x_cVI (As := [.int zx15, .int a1]) (rest := []) C zhw zhl (cRef_costOf l D cI h N zx15 a1 zM16 zv23 zM24 zhp) (by decide) (by decide) kw_32_5 kw_32_6 kw_32_7 kw_1_5 kw_32_8 md_X12_costOf rfl 0 (wR_c0 h cI zM16) rfl rfl rfl rfl (Nat.le_of_ble_eq_true rfl) dX12_plan_77 (fun zH zlocs zhw hn9 => ?_)
                refine lv_istore (lv' := [(7, .int zv23), (6, .int zx15), (5, .int zx14), (4, .int zx13), (3, .int zv12), (0, .ref (h 0)), (1, .int a1), (2, .int a2)]) zhx zhb dX12_plan_80 zhl (by decide) rfl (fun zls zhl => ?_)
                refine lv_iload zhx zhb dX12_plan_82 (lv_at zhl 0 rfl) ?_
                refine lv_if_lt (tgt := 107) zhx zhb dX12_plan_84 (by decide) (fun zc9 => ?_) (fun zc9 => ?_)
                · replace zhs := br_T zhs zc9
                  obtain ⟨zv25, ze9, zhs⟩ := ltI_e zhs
                  refine lv_iinc (v := zv25) (lv' := [(6, .int zv25), (7, .int zv23), (5, .int zx14), (4, .int zx13), (3, .int zv12), (0, .ref (h 0)), (1, .int a1), (2, .int a2)]) zhx zhb dX12_plan_107 zhl (k := 1) rfl (by rw [ze9]; rfl) (by decide) rfl (fun zls zhl => ?_)
                  clear ze9
                  refine lv_goto (tgt := 67) zhx zhb dX12_plan_110 (by decide) ?_
                  cases zhs
                  exact zih zx13 zx14 zv25 zM24 zq (itk_l zhq) k67_113 zH zlocs zls (lv_sub zhl [0, 2, 3, 4, 5, 6, 7] rfl) zhw
                · replace zhs := br_F zhs zc9
                  refine lv_iload zhx zhb dX12_plan_87 (lv_at zhl 3 rfl) ?_
                  refine lv_if_lt (tgt := 99) zhx zhb dX12_plan_89 (by decide) (fun zc9 => ?_) (fun zc9 => ?_)
                  · replace zhs := br_T zhs zc9
                    refine lv_iload zhx zhb dX12_plan_99 (lv_at zhl 1 rfl) ?_
                    refine lv_istore (lv' := [(4, .int zx15), (7, .int zv23), (6, .int zx15), (5, .int zx14), (3, .int zv12), (0, .ref (h 0)), (1, .int a1), (2, .int a2)]) zhx zhb dX12_plan_101 zhl (by decide) rfl (fun zls zhl => ?_)
                    refine lv_iload zhx zhb dX12_plan_103 (lv_at zhl 1 rfl) ?_
                    refine lv_istore (lv' := [(5, .int zv23), (4, .int zx15), (7, .int zv23), (6, .int zx15), (3, .int zv12), (0, .ref (h 0)), (1, .int a1), (2, .int a2)]) zhx zhb dX12_plan_105 zhl (by decide) rfl (fun zls zhl => ?_)
                    obtain ⟨zv26, ze9, zhs⟩ := ltI_e zhs
                    refine lv_iinc (v := zv26) (lv' := [(6, .int zv26), (5, .int zv23), (4, .int zx15), (7, .int zv23), (3, .int zv12), (0, .ref (h 0)), (1, .int a1), (2, .int a2)]) zhx zhb dX12_plan_107 zhl (k := 3) rfl (by rw [ze9]; rfl) (by decide) rfl (fun zls zhl => ?_)
                    clear ze9
                    refine lv_goto (tgt := 67) zhx zhb dX12_plan_110 (by decide) ?_
                    cases zhs
                    exact zih zx15 zv23 zv26 zM24 zq (itk_l zhq) k67_113 zH zlocs zls (lv_sub zhl [0, 1, 2, 4, 5, 6, 7] rfl) zhw
                  · replace zhs := br_F zhs zc9
                    refine lv_iload zhx zhb dX12_plan_92 (lv_at zhl 0 rfl) ?_
                    refine lv_iload zhx zhb dX12_plan_94 (lv_at zhl 2 rfl) ?_
                    refine lv_icmp_ge (tgt := 107) zhx zhb dX12_plan_96 (by decide) (fun zc9 => ?_) (fun zc9 => ?_)
                    · replace zhs := br_T zhs zc9
                      obtain ⟨zv27, ze9, zhs⟩ := ltI_e zhs
                      refine lv_iinc (v := zv27) (lv' := [(6, .int zv27), (7, .int zv23), (5, .int zx14), (4, .int zx13), (3, .int zv12), (0, .ref (h 0)), (1, .int a1), (2, .int a2)]) zhx zhb dX12_plan_107 zhl (k := 1) rfl (by rw [ze9]; rfl) (by decide) rfl (fun zls zhl => ?_)
                      clear ze9
                      refine lv_goto (tgt := 67) zhx zhb dX12_plan_110 (by decide) ?_
                      cases zhs
                      exact zih zx13 zx14 zv27 zM24 zq (itk_l zhq) k67_113 zH zlocs zls (lv_sub zhl [0, 2, 3, 4, 5, 6, 7] rfl) zhw
                    · replace zhs := br_F zhs zc9
                      refine lv_iload zhx zhb dX12_plan_99 (lv_at zhl 1 rfl) ?_
                      refine lv_istore (lv' := [(4, .int zx15), (7, .int zv23), (6, .int zx15), (5, .int zx14), (3, .int zv12), (0, .ref (h 0)), (1, .int a1), (2, .int a2)]) zhx zhb dX12_plan_101 zhl (by decide) rfl (fun zls zhl => ?_)
                      refine lv_iload zhx zhb dX12_plan_103 (lv_at zhl 1 rfl) ?_
                      refine lv_istore (lv' := [(5, .int zv23), (4, .int zx15), (7, .int zv23), (6, .int zx15), (3, .int zv12), (0, .ref (h 0)), (1, .int a1), (2, .int a2)]) zhx zhb dX12_plan_105 zhl (by decide) rfl (fun zls zhl => ?_)
                      obtain ⟨zv28, ze9, zhs⟩ := ltI_e zhs
                      refine lv_iinc (v := zv28) (lv' := [(6, .int zv28), (5, .int zv23), (4, .int zx15), (7, .int zv23), (3, .int zv12), (0, .ref (h 0)), (1, .int a1), (2, .int a2)]) zhx zhb dX12_plan_107 zhl (k := 3) rfl (by rw [ze9]; rfl) (by decide) rfl (fun zls zhl => ?_)
                      clear ze9
                      refine lv_goto (tgt := 67) zhx zhb dX12_plan_110 (by decide) ?_
                      cases zhs
                      exact zih zx15 zv23 zv28 zM24 zq (itk_l zhq) k67_113 zH zlocs zls (lv_sub zhl [0, 1, 2, 4, 5, 6, 7] rfl) zhw
        refine hloop29 N (-4) 0 0 M zq29 zhq29 (fun zv30 zv31 zM32 zhqe zH zlocs zls zhl zhw => ?_) zH zlocs zls zhl zhw
        · subst zhqe
          try dsimp only at zhs
          refine lv_iload_n zhx zhb dX12_plan_113 rfl (lv_at zhl 4 rfl) ?_
          refine lv_if_ge (tgt := 120) zhx zhb dX12_plan_114 (by decide) (fun zc9 => ?_) (fun zc9 => ?_)
          · replace zhs := br_T zhs zc9
            refine lv_aload_n zhx zhb dX12_plan_120 rfl (lv_at zhl 2 rfl) ?_
            refine lv_iload zhx zhb dX12_plan_121 (lv_at zhl 1 rfl) ?_
            refine lv_aload_n zhx zhb dX12_plan_123 rfl (lv_at zhl 2 rfl) ?_
            refine x_get C zhw inlX12 rfl 0 14 (by decide) kw_8_16 rfl (wR_c0 h cI zM32) rfl dX12_plan_124 ?_
            refine lv_iconst (v := 0) zhx zhb dX12_plan_127 (by decide) ?_
            obtain ⟨zv33, ze9, zhi, zhs⟩ := rdc_v zhs
            refine x_iald C zhw 14 (wR_c14 h cI zM32) zhi dX12_plan_128 ?_
            refine lv_topi (fun zy9 ze8 => ?_)
            obtain rfl : zv33 = zy9 := ze9.trans ze8.symm
            clear ze9 ze8
            refine lv_iconst (v := 1) zhx zhb dX12_plan_129 (by decide) ?_
            refine lv_iadd zhx zhb dX12_plan_130 ?_
            refine lv_iload_n zhx zhb dX12_plan_131 rfl (lv_at zhl 3 rfl) ?_
            refine lv_iload_n zhx zhb dX12_plan_132 rfl (lv_at zhl 4 rfl) ?_
            obtain ⟨zv34, zhp, zhs⟩ := bnd_e zhs
            refine x_cVI (As := [.int zv30, .int (zv33 + 1), .int a1, .int a2]) (rest := []) C zhw zhl (cRef_figure l D cI h N zv30 (zv33 + 1) a1 a2 zM32 zv34 zhp) (by decide) (by decide) kw_32_13 kw_32_14 kw_32_15 kw_1_5 kw_32_16 md_X12_figure rfl 0 (wR_c0 h cI zM32) rfl rfl rfl rfl (Nat.le_of_ble_eq_true rfl) dX12_plan_133 (fun zH zlocs zhw hn9 => ?_)
            refine lv_istore (lv' := [(6, .int zv34), (5, .int zv31), (4, .int zv30), (0, .ref (h 0)), (1, .int a1), (2, .int a2)]) zhx zhb dX12_plan_136 zhl (by decide) rfl (fun zls zhl => ?_)
            refine lv_iload zhx zhb dX12_plan_138 (lv_at zhl 0 rfl) ?_
            refine lv_if_ne (tgt := 148) zhx zhb dX12_plan_140 (by decide) (fun zc9 => ?_) (fun zc9 => ?_)
            · replace zhs := br_F zhs zc9
              refine lv_iload zhx zhb dX12_plan_148 (lv_at zhl 0 rfl) ?_
              refine lv_iconst (v := 1) zhx zhb dX12_plan_150 (by decide) ?_
              refine lv_isub zhx zhb dX12_plan_151 ?_
              cases zhs
              exact zhret _ _ _ _ dX12_plan_152 (by rfl) zhw
            · replace zhs := br_T zhs zc9
              refine lv_bipush (v := (-4)) zhx zhb dX12_plan_143 (by decide) ?_
              refine lv_goto (tgt := 152) zhx zhb dX12_plan_145 (by decide) ?_
              cases zhs
              exact zhret _ _ _ _ dX12_plan_152 (by rfl) zhw
          · replace zhs := br_F zhs zc9
            refine lv_iload zhx zhb dX12_plan_117 (lv_at zhl 0 rfl) ?_
            cases zhs
            exact zhret _ _ _ _ dX12_plan_119 (by rfl) zhw
    · replace zhs := br_T zhs zc9
      refine lv_iconst (v := (-1)) zhx zhb dX12_plan_27 (by decide) ?_
      cases zhs
      exact zhret _ _ _ _ dX12_plan_28 (by rfl) zhw

