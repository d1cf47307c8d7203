-- OffFirst.freeze in (0, ())
def sOff_freeze (N : Nat) (a1 : Int32) (a2 : Int32) (M : Mm) : Option Int32 :=
  (sOff_isWithin a1 0 500).bind fun zv1 =>
  (if zv1 = 0 then some (-1)
  else (sOff_isWithin a2 0 1).bind fun zv2 =>
  (if zv2 = 0 then some (-1)
  else (sFridge_bestToFreeze N a1 M).bind fun zv3 =>
  (if 0 ≤ zv3 then (if a2 = 0 then some zv3
  else (sFridge_lostBehind N a1 M).bind fun zv6 =>
  (sFridge_lostIfFrozen N zv3 a1 zv6 M).bind fun zv7 =>
  some zv7)
  else some (-4))))
set_option maxHeartbeats 4000000 in
set_option maxRecDepth 100000 in
theorem cOff_freeze (l : Launch) (D : va_G) (cI : ClassId) (h : Nat → Nat) (N : Nat) (a1 : Int32) (a2 : Int32) (M : Mm) (r : Int32) (zhs : sOff_freeze N a1 a2 M = some r) : CtI l yX11_freeze cX11_freeze 4 (some .int) 7 D cI (wX h cI M) (wX h cI M) [.ref (h 0), .int a1, .int a2] r := by
  unfold sOff_freeze at zhs
  refine CtI_of (by decide +kernel) (Nat.le_of_ble_eq_true rfl) ⟨_, rfl⟩ ?_
  intro p e s m args below meth c A Q zls zH zlocs C zhw zhl zhret
  have zhx := C.1
  have zhb := C.2.1
  have zhown := C.2.2.2.2.1
  have zhtB := C.2.2.2.2.2.2.1
  have zhl : lv_has zls 4 [(0, .ref (h 0)), (1, .int a1), (2, .int a2)] := zhl
  refine lv_iload_n zhx zhb dX11_freeze_0 rfl (lv_at zhl 1 rfl) ?_
  refine lv_iconst (v := 0) zhx zhb dX11_freeze_1 (by decide) ?_
  refine lv_sipush (v := 500) zhx zhb dX11_freeze_2 (by decide) ?_
  obtain ⟨zv1, zhp, zhs⟩ := bnd_e zhs
  refine x_cSI (As := [.int a1, .int 0, .int 500]) (rest := []) C zhw zhl (cOff_isWithin l D cI h a1 0 500 M zv1 zhp) (by decide) (by decide) kw_9_22 kw_9_23 kw_1_2 kw_10_0 md_X11_isWithin rfl rfl (Nat.le_of_ble_eq_true rfl) dX11_freeze_5 (fun zH zlocs zhw hzv1 => ?_)
  refine lv_if_eq (tgt := 20) zhx zhb dX11_freeze_8 (by decide) (fun zc9 => ?_) (fun zc9 => ?_)
  · replace zhs := br_T zhs zc9
    refine lv_iconst (v := (-1)) zhx zhb dX11_freeze_20 (by decide) ?_
    cases zhs
    exact zhret _ _ _ _ dX11_freeze_21 (by rfl) zhw
  · replace zhs := br_F zhs zc9
    refine lv_iload_n zhx zhb dX11_freeze_11 rfl (lv_at zhl 2 rfl) ?_
    refine lv_iconst (v := 0) zhx zhb dX11_freeze_12 (by decide) ?_
    refine lv_iconst (v := 1) zhx zhb dX11_freeze_13 (by decide) ?_
    obtain ⟨zv2, zhp, zhs⟩ := bnd_e zhs
    refine x_cSI (As := [.int a2, .int 0, .int 1]) (rest := []) C zhw zhl (cOff_isWithin l D cI h a2 0 1 M zv2 zhp) (by decide) (by decide) kw_9_22 kw_9_23 kw_1_2 kw_10_0 md_X11_isWithin rfl rfl (Nat.le_of_ble_eq_true rfl) dX11_freeze_14 (fun zH zlocs zhw hzv2 => ?_)
    refine lv_if_ne (tgt := 22) zhx zhb dX11_freeze_17 (by decide) (fun zc9 => ?_) (fun zc9 => ?_)
    · replace zhs := br_F zhs zc9
      refine lv_aload_n zhx zhb dX11_freeze_22 rfl (lv_at zhl 0 rfl) ?_
      refine x_get C zhw inlX11 rfl 0 7 (by decide) kw_2_7 rfl (wX_c0 h cI M) rfl dX11_freeze_23 ?_
      refine lv_iload_n zhx zhb dX11_freeze_26 rfl (lv_at zhl 1 rfl) ?_
      obtain ⟨zv3, zhp, zhs⟩ := bnd_e zhs
      refine x_cVI (As := [.int a1]) (rest := []) C zhw zhl (cFridge_bestToFreeze l D cI h N a1 M zv3 zhp) (by decide) (by decide) kw_33_13 kw_33_14 kw_33_15 kw_2_6 kw_33_16 md_X3_bestToFreeze rfl 58 (wX_c58 h cI M) rfl rfl rfl rfl (Nat.le_of_ble_eq_true rfl) dX11_freeze_27 (fun zH zlocs zhw hn9 => ?_)
      refine lv_istore_n (lv' := [(3, .int zv3), (0, .ref (h 0)), (1, .int a1), (2, .int a2)]) zhx zhb dX11_freeze_30 rfl zhl (by decide) rfl (fun zls zhl => ?_)
      refine lv_iload_n zhx zhb dX11_freeze_31 rfl (lv_at zhl 0 rfl) ?_
      refine lv_if_ge (tgt := 38) zhx zhb dX11_freeze_32 (by decide) (fun zc9 => ?_) (fun zc9 => ?_)
      · replace zhs := br_T zhs zc9
        refine lv_iload_n zhx zhb dX11_freeze_38 rfl (lv_at zhl 3 rfl) ?_
        refine lv_if_ne (tgt := 46) zhx zhb dX11_freeze_39 (by decide) (fun zc9 => ?_) (fun zc9 => ?_)
        · replace zhs := br_F zhs zc9
          refine lv_aload_n zhx zhb dX11_freeze_46 rfl (lv_at zhl 1 rfl) ?_
          refine x_get C zhw inlX11 rfl 0 7 (by decide) kw_2_7 rfl (wX_c0 h cI M) rfl dX11_freeze_47 ?_
          refine lv_iload_n zhx zhb dX11_freeze_50 rfl (lv_at zhl 0 rfl) ?_
          refine lv_iload_n zhx zhb dX11_freeze_51 rfl (lv_at zhl 2 rfl) ?_
          refine lv_aload_n zhx zhb dX11_freeze_52 rfl (lv_at zhl 1 rfl) ?_
          refine x_get C zhw inlX11 rfl 0 7 (by decide) kw_2_7 rfl (wX_c0 h cI M) rfl dX11_freeze_53 ?_
          refine lv_iload_n zhx zhb dX11_freeze_56 rfl (lv_at zhl 2 rfl) ?_
          obtain ⟨zv6, zhp, zhs⟩ := bnd_e zhs
          refine x_cVI (As := [.int a1]) (rest := [.int a1, .int zv3, .ref (h 58)]) C zhw zhl (cFridge_lostBehind l D cI h N a1 M zv6 zhp) (by decide) (by decide) kw_27_13 kw_27_14 kw_27_15 kw_2_6 kw_27_16 md_X3_lostBehind rfl 58 (wX_c58 h cI M) rfl rfl rfl rfl (Nat.le_of_ble_eq_true rfl) dX11_freeze_57 (fun zH zlocs zhw hn9 => ?_)
          obtain ⟨zv7, zhp, zhs⟩ := bnd_e zhs
          refine x_cVI (As := [.int zv3, .int a1, .int zv6]) (rest := []) C zhw zhl (cFridge_lostIfFrozen l D cI h N zv3 a1 zv6 M zv7 zhp) (by decide) (by decide) kw_33_22 kw_33_19 kw_33_20 kw_2_6 kw_33_21 md_X3_lostIfFrozen rfl 58 (wX_c58 h cI M) rfl rfl rfl rfl (Nat.le_of_ble_eq_true rfl) dX11_freeze_60 (fun zH zlocs zhw hn9 => ?_)
          cases zhs
          exact zhret _ _ _ _ dX11_freeze_63 (by rfl) zhw
        · replace zhs := br_T zhs zc9
          refine lv_iload_n zhx zhb dX11_freeze_42 rfl (lv_at zhl 0 rfl) ?_
          refine lv_goto (tgt := 63) zhx zhb dX11_freeze_43 (by decide) ?_
          cases zhs
          exact zhret _ _ _ _ dX11_freeze_63 (by rfl) zhw
      · replace zhs := br_F zhs zc9
        refine lv_bipush (v := (-4)) zhx zhb dX11_freeze_35 (by decide) ?_
        cases zhs
        exact zhret _ _ _ _ dX11_freeze_37 (by rfl) zhw
    · replace zhs := br_T zhs zc9
      refine lv_iconst (v := (-1)) zhx zhb dX11_freeze_20 (by decide) ?_
      cases zhs
      exact zhret _ _ _ _ dX11_freeze_21 (by rfl) zhw

-- OffFirst$Stock.numberThere in (40, ())
def sStock_numberThere (N : Nat) (M : Mm) : Option Int32 :=
  (sStock_bitsThere N M).bind fun zv1 =>
  (sJint_bitCount zv1).bind fun zv2 =>
  some zv2
set_option maxHeartbeats 4000000 in
set_option maxRecDepth 100000 in
theorem cStock_numberThere (l : Launch) (D : va_G) (cI : ClassId) (h : Nat → Nat) (N : Nat) (M : Mm) (r : Int32) (zhs : sStock_numberThere N M = some r) : CtI l yX8_numberThere cX8_numberThere 1 (some .int) 4 D cI (wX h cI M) (wX h cI M) [.ref (h 40)] r := by
  unfold sStock_numberThere at zhs
  refine CtI_of (by decide +kernel) (Nat.le_of_ble_eq_true rfl) ⟨_, rfl⟩ ?_
  intro p e s m args below meth c A Q zls zH zlocs C zhw zhl zhret
  have zhx := C.1
  have zhb := C.2.1
  have zhown := C.2.2.2.2.1
  have zhtB := C.2.2.2.2.2.2.1
  have zhl : lv_has zls 1 [(0, .ref (h 40))] := zhl
  refine lv_aload_n zhx zhb dX8_numberThere_0 rfl (lv_at zhl 0 rfl) ?_
  obtain ⟨zv1, zhp, zhs⟩ := bnd_e zhs
  refine x_cVI (As := []) (rest := []) C zhw zhl (cStock_bitsThere l D cI h N M zv1 zhp) (by decide) (by decide) kw_34_11 kw_29_15 kw_29_16 kw_2_0 kw_29_17 md_X8_bitsThere rfl 40 (wX_c40 h cI M) rfl rfl rfl rfl (Nat.le_of_ble_eq_true rfl) dX8_numberThere_1 (fun zH zlocs zhw hn9 => ?_)
  obtain ⟨zv2, zhp, zhs⟩ := bnd_e zhs
  refine x_cSI (As := [.int zv1]) (rest := []) C zhw zhl (cJint_bitCount l D cI h zv1 M zv2 zhp) (by decide) (by decide) kw_34_12 kw_22_19 kw_22_20 kw_22_21 md_J6_bitCount_0f7a4 rfl rfl (Nat.le_of_ble_eq_true rfl) dX8_numberThere_4 (fun zH zlocs zhw hn9 => ?_)
  cases zhs
  exact zhret _ _ _ _ dX8_numberThere_7 (by rfl) zhw

-- OffFirst$Layer.lookAtFoods in (66, ())
def LLayer_lookAtFoods_119_98 (N : Nat) (a1 : Int32) (zx1 : Int32) (zx3 : Int32) (zv73 : Int32) (zx90 : Int32) (zM91 : Mm) : Option ((Int32 × Mm) ⊕ ((Mm))) :=
  (if (zM91 23 3) ≤ zx90 then some (.inr zM91)
  else (sFridge_coinLostAs N zx3 zv73 zx90 a1 zM91).bind fun zv95 =>
  ltM (putf 24 zM91 67 ((zx1 * 6) + zx90) zv95) fun zM96 =>
  ltI (zx90 + 1) fun zv97 =>
  some (.inl (zv97, zM96)))
def LLayer_lookAtFoods_7_105 (N : Nat) (a1 : Int32) (zx1 : Int32) (zx2 : Int32) (zx3 : Int32) (zM4 : Mm) : Option ((Int32 × Int32 × Int32 × Mm) ⊕ ((Int32 × Mm))) :=
  (if (zM4 27 7) ≤ zx3 then some (.inr (zx2, zM4))
  else (sStock_isThere zx3 zM4).bind fun zv55 =>
  (if zv55 = 0 then ltI (zx3 + 1) fun zv72 =>
  some (.inl (zx1, zx2, zv72, zM4))
  else (sStock_kindOf zx3 zM4).bind fun zv73 =>
  (sStock_cellOf zx3 zM4).bind fun zv74 =>
  (if zx1 < (zM4 66 5) then ltM (putf 6 zM4 68 zv74 ((atf 6 (zM4 68) zv74) + 1)) fun zM89 =>
  (itr (fun z : Int32 × Mm => LLayer_lookAtFoods_119_98 N a1 zx1 zx3 zv73 z.1 z.2) N (0, zM89)).bind fun zM99 =>
  ltI (zx1 + 1) fun zv100 =>
  ltI (zx3 + 1) fun zv101 =>
  some (.inl (zv100, zx2, zv101, zM99))
  else (sFridge_coinLostAs N zx3 zv73 zv74 a1 zM4).bind fun zv102 =>
  ltI (zx2 + zv102) fun zv103 =>
  ltI (zx3 + 1) fun zv104 =>
  some (.inl (zx1, zv103, zv104, zM4)))))
def sLayer_lookAtFoods (N : Nat) (a1 : Int32) (M : Mm) : Option (Int32 × Mm) :=
  (itr (fun z : Int32 × Int32 × Int32 × Mm => LLayer_lookAtFoods_7_105 N a1 z.1 z.2.1 z.2.2.1 z.2.2.2) N (0, 0, 0, M)).bind fun (zv106, zM107) =>
  some (zv106, zM107)
set_option maxHeartbeats 4000000 in
set_option maxRecDepth 100000 in
theorem cLayer_lookAtFoods (l : Launch) (D : va_G) (cI : ClassId) (h : Nat → Nat) (N : Nat) (a1 : Int32) (M : Mm) (r : Int32) (M' : Mm) (zhs : sLayer_lookAtFoods N a1 M = some (r, M')) : CtI l yX4_lookAtFoods cX4_lookAtFoods 8 (some .int) 5 D cI (wX h cI M) (wX h cI M') [.ref (h 66), .int a1] r := by
  unfold sLayer_lookAtFoods at zhs
  refine CtI_of (by decide +kernel) (Nat.le_of_ble_eq_true rfl) ⟨_, rfl⟩ ?_
  intro p e s m args below meth c A Q zls zH zlocs C zhw zhl zhret
  have zhx := C.1
  have zhb := C.2.1
  have zhown := C.2.2.2.2.1
  have zhtB := C.2.2.2.2.2.2.1
  have zhl : lv_has zls 8 [(0, .ref (h 66)), (1, .int a1)] := zhl
  refine lv_iconst (v := 0) zhx zhb dX4_lookAtFoods_0 (by decide) ?_
  refine lv_istore_n (lv' := [(2, .int 0), (0, .ref (h 66)), (1, .int a1)]) zhx zhb dX4_lookAtFoods_1 rfl zhl (by decide) rfl (fun zls zhl => ?_)
  refine lv_iconst (v := 0) zhx zhb dX4_lookAtFoods_2 (by decide) ?_
  refine lv_istore_n (lv' := [(3, .int 0), (2, .int 0), (0, .ref (h 66)), (1, .int a1)]) zhx zhb dX4_lookAtFoods_3 rfl zhl (by decide) rfl (fun zls zhl => ?_)
  refine lv_iconst (v := 0) zhx zhb dX4_lookAtFoods_4 (by decide) ?_
  refine lv_istore (lv' := [(4, .int 0), (3, .int 0), (2, .int 0), (0, .ref (h 66)), (1, .int a1)]) zhx zhb dX4_lookAtFoods_5 zhl (by decide) rfl (fun zls zhl => ?_)
  obtain ⟨zq105, zhq105, zhs⟩ := bnd_e zhs
  have hloop105 : ∀ (zn : Nat) (zx1 : Int32) (zx2 : Int32) (zx3 : Int32) (zM4 : Mm) (zq : (Int32 × Mm)), itr (fun z : Int32 × Int32 × Int32 × Mm => LLayer_lookAtFoods_7_105 N a1 z.1 z.2.1 z.2.2.1 z.2.2.2) zn (zx1, zx2, zx3, zM4) = some zq → (∀ (zy1 : Int32) (zy2 : Mm), (zy1, zy2) = zq → ∀ (zH : Heap) (zlocs : List Loc) (zls : Array Slot), lv_has zls 8 [(3, .int zy1)] → Hw D (wX h cI zy2) A s.heap zH zlocs → W p l e (RM 5) s m args below meth c zH zlocs 0 0 Q (F0 m 180 zls [])) → ∀ (zH : Heap) (zlocs : List Loc) (zls : Array Slot), lv_has zls 8 [(4, .int zx3), (3, .int zx2), (2, .int zx1), (0, .ref (h 66)), (1, .int a1)] → Hw D (wX h cI zM4) A s.heap zH zlocs → W p l e (RM 5) s m args below meth c zH zlocs 0 0 Q (F0 m 7 zls []) := by
    intro zn
    induction zn with
    | zero => intro zx1 zx2 zx3 zM4 zq zhq; exact absurd zhq (fun h9 => itr_0 h9)
    | succ zn zih =>
        intro zx1 zx2 zx3 zM4 zq zhq k7_180 zH zlocs zls zhl zhw
        obtain ⟨zy9, zhs, zhq⟩ := itr_s zhq
        replace zhs : LLayer_lookAtFoods_7_105 N a1 zx1 zx2 zx3 zM4 = some zy9 := zhs
        unfold LLayer_lookAtFoods_7_105 at zhs
        refine lv_iload zhx zhb dX4_lookAtFoods_7 (lv_at zhl 0 rfl) ?_
        refine lv_aload_n zhx zhb dX4_lookAtFoods_9 rfl (lv_at zhl 3 rfl) ?_
        refine x_get C zhw inlX4 rfl 66 0 (by decide) kw_6_13 rfl (wX_c66 h cI zM4) rfl dX4_lookAtFoods_10 ?_
        refine x_getN C zhw inlX3 rfl 58 0 (by decide) (List.mem_of_getElem? (i := 32) rfl) rfl (wX_c58 h cI zM4) rfl dX4_lookAtFoods_13 ?_
        refine x_getN C zhw inlX10 rfl 22 1 (by decide) (List.mem_of_getElem? (i := 22) rfl) rfl (wX_c22 h cI zM4) rfl dX4_lookAtFoods_16 ?_
        refine x_getN C zhw inlX2 rfl 27 7 (by decide) (List.mem_of_getElem? (i := 10) rfl) rfl (wX_c27 h cI zM4) rfl dX4_lookAtFoods_19 ?_
        refine lv_icmp_ge (tgt := 180) zhx zhb dX4_lookAtFoods_22 (by decide) (fun zc9 => ?_) (fun zc9 => ?_)
        · replace zhs := br_T zhs zc9
          cases zhs
          exact k7_180 zx2 zM4 (itk_q zhq) zH zlocs zls (lv_sub zhl [1] rfl) zhw
        · replace zhs := br_F zhs zc9
          refine lv_aload_n zhx zhb dX4_lookAtFoods_25 rfl (lv_at zhl 3 rfl) ?_
          refine x_get C zhw inlX4 rfl 66 0 (by decide) kw_6_13 rfl (wX_c66 h cI zM4) rfl dX4_lookAtFoods_26 ?_
          refine x_getN C zhw inlX3 rfl 58 1 (by decide) (List.mem_of_getElem? (i := 37) rfl) rfl (wX_c58 h cI zM4) rfl dX4_lookAtFoods_29 ?_
          refine lv_iload zhx zhb dX4_lookAtFoods_32 (lv_at zhl 0 rfl) ?_
          obtain ⟨zv55, zhp, zhs⟩ := bnd_e zhs
          refine x_cVI (As := [.int zx3]) (rest := []) C zhw zhl (cStock_isThere l D cI h zx3 zM4 zv55 zhp) (by decide) (by decide) kw_35_2 kw_22_2 kw_22_3 kw_2_0 kw_22_4 md_X8_isThere rfl 40 (wX_c40 h cI zM4) rfl rfl rfl rfl (Nat.le_of_ble_eq_true rfl) dX4_lookAtFoods_34 (fun zH zlocs zhw hzv55 => ?_)
          refine lv_if_eq (tgt := 174) zhx zhb dX4_lookAtFoods_37 (by decide) (fun zc9 => ?_) (fun zc9 => ?_)
          · replace zhs := br_T zhs zc9
            obtain ⟨zv72, ze9, zhs⟩ := ltI_e zhs
            refine lv_iinc (v := zv72) (lv' := [(4, .int zv72), (3, .int zx2), (2, .int zx1), (0, .ref (h 66)), (1, .int a1)]) zhx zhb dX4_lookAtFoods_174 zhl (k := 0) rfl (by rw [ze9]; rfl) (by decide) rfl (fun zls zhl => ?_)
            clear ze9
            refine lv_goto (tgt := 7) zhx zhb dX4_lookAtFoods_177 (by decide) ?_
            cases zhs
            exact zih zx1 zx2 zv72 zM4 zq (itk_l zhq) k7_180 zH zlocs zls zhl zhw
          · replace zhs := br_F zhs zc9
            refine lv_aload_n zhx zhb dX4_lookAtFoods_40 rfl (lv_at zhl 3 rfl) ?_
            refine x_get C zhw inlX4 rfl 66 0 (by decide) kw_6_13 rfl (wX_c66 h cI zM4) rfl dX4_lookAtFoods_41 ?_
            refine x_getN C zhw inlX3 rfl 58 1 (by decide) (List.mem_of_getElem? (i := 37) rfl) rfl (wX_c58 h cI zM4) rfl dX4_lookAtFoods_44 ?_
            refine lv_iload zhx zhb dX4_lookAtFoods_47 (lv_at zhl 0 rfl) ?_
            obtain ⟨zv73, zhp, zhs⟩ := bnd_e zhs
            refine x_cVI (As := [.int zx3]) (rest := []) C zhw zhl (cStock_kindOf l D cI h zx3 zM4 zv73 zhp) (by decide) (by decide) kw_35_3 kw_18_8 kw_18_9 kw_2_0 kw_18_10 md_X8_kindOf rfl 40 (wX_c40 h cI zM4) rfl rfl rfl rfl (Nat.le_of_ble_eq_true rfl) dX4_lookAtFoods_49 (fun zH zlocs zhw hn9 => ?_)
            refine lv_istore (lv' := [(5, .int zv73), (4, .int zx3), (3, .int zx2), (2, .int zx1), (0, .ref (h 66)), (1, .int a1)]) zhx zhb dX4_lookAtFoods_52 zhl (by decide) rfl (fun zls zhl => ?_)
            refine lv_aload_n zhx zhb dX4_lookAtFoods_54 rfl (lv_at zhl 4 rfl) ?_
            refine x_get C zhw inlX4 rfl 66 0 (by decide) kw_6_13 rfl (wX_c66 h cI zM4) rfl dX4_lookAtFoods_55 ?_
            refine x_getN C zhw inlX3 rfl 58 1 (by decide) (List.mem_of_getElem? (i := 37) rfl) rfl (wX_c58 h cI zM4) rfl dX4_lookAtFoods_58 ?_
            refine lv_iload zhx zhb dX4_lookAtFoods_61 (lv_at zhl 1 rfl) ?_
            obtain ⟨zv74, zhp, zhs⟩ := bnd_e zhs
            refine x_cVI (As := [.int zx3]) (rest := []) C zhw zhl (cStock_cellOf l D cI h zx3 zM4 zv74 zhp) (by decide) (by decide) kw_35_4 kw_18_12 kw_18_13 kw_2_0 kw_18_14 md_X8_cellOf rfl 40 (wX_c40 h cI zM4) rfl rfl rfl rfl (Nat.le_of_ble_eq_true rfl) dX4_lookAtFoods_63 (fun zH zlocs zhw hn9 => ?_)
            refine lv_istore (lv' := [(6, .int zv74), (5, .int zv73), (4, .int zx3), (3, .int zx2), (2, .int zx1), (0, .ref (h 66)), (1, .int a1)]) zhx zhb dX4_lookAtFoods_66 zhl (by decide) rfl (fun zls zhl => ?_)
            refine lv_iload_n zhx zhb dX4_lookAtFoods_68 rfl (lv_at zhl 4 rfl) ?_
            refine lv_aload_n zhx zhb dX4_lookAtFoods_69 rfl (lv_at zhl 5 rfl) ?_
            refine x_get C zhw inlX4 rfl 66 5 (by decide) kw_34_17 rfl (wX_c66 h cI zM4) rfl dX4_lookAtFoods_70 ?_
            refine lv_icmp_lt (tgt := 96) zhx zhb dX4_lookAtFoods_73 (by decide) (fun zc9 => ?_) (fun zc9 => ?_)
            · replace zhs := br_T zhs zc9
              refine lv_aload_n zhx zhb dX4_lookAtFoods_96 rfl (lv_at zhl 5 rfl) ?_
              refine x_get C zhw inlX4 rfl 66 2 (by decide) kw_6_10 rfl (wX_c66 h cI zM4) rfl dX4_lookAtFoods_97 ?_
              refine lv_iload zhx zhb dX4_lookAtFoods_100 (lv_at zhl 0 rfl) ?_
              refine lv_aload_n zhx zhb dX4_lookAtFoods_102 rfl (lv_at zhl 5 rfl) ?_
              refine x_get C zhw inlX4 rfl 66 2 (by decide) kw_6_10 rfl (wX_c66 h cI zM4) rfl dX4_lookAtFoods_103 ?_
              refine lv_iload zhx zhb dX4_lookAtFoods_106 (lv_at zhl 0 rfl) ?_
              refine x_cSNI (As := [.ref (h 68), .int zv74]) (rest := [.int zv74, .ref (h 68)]) C zhw zhl (c_at l D cI (wX h cI zM4) 68 6 (h 68) (zM4 68) (wX_c68 h cI zM4) (by decide) zv74) (by decide) (by decide) (List.mem_of_getElem? (i := 28) rfl) kw_7_7 kw_1_2 kw_7_8 md_X11_at rfl rfl (Nat.le_of_ble_eq_true rfl) dX4_lookAtFoods_108 (fun zH zlocs zhw hn9 => ?_)
              refine lv_iconst (v := 1) zhx zhb dX4_lookAtFoods_111 (by decide) ?_
              refine lv_iadd zhx zhb dX4_lookAtFoods_112 ?_
              refine x_cSNV (As := [.ref (h 68), .int zv74, .int ((atf 6 (zM4 68) zv74) + 1)]) (rest := []) C zhw zhl (c_put l D cI (wX h cI) zM4 68 6 (h 68) (wX_c68 h cI zM4) (fun j v => wX_a68 h cI zM4 j v) (by decide) zv74 ((atf 6 (zM4 68) zv74) + 1)) (by decide) (by decide) (List.mem_of_getElem? (i := 27) rfl) kw_7_0 kw_1_2 kw_7_1 md_X11_put rfl rfl (Nat.le_of_ble_eq_true rfl) dX4_lookAtFoods_113 (fun zH zlocs zhw => ?_)
              obtain ⟨zM89, ze9, zhs⟩ := ltM_e zhs
              rw [← ze9] at zhw; clear ze9
              refine lv_iconst (v := 0) zhx zhb dX4_lookAtFoods_116 (by decide) ?_
              refine lv_istore (lv' := [(7, .int 0), (6, .int zv74), (5, .int zv73), (4, .int zx3), (3, .int zx2), (2, .int zx1), (0, .ref (h 66)), (1, .int a1)]) zhx zhb dX4_lookAtFoods_117 zhl (by decide) rfl (fun zls zhl => ?_)
              obtain ⟨zq98, zhq98, zhs⟩ := bnd_e zhs
              have hloop98 : ∀ (zn : Nat) (zx90 : Int32) (zM91 : Mm) (zq : (Mm)), itr (fun z : Int32 × Mm => LLayer_lookAtFoods_119_98 N a1 zx1 zx3 zv73 z.1 z.2) zn (zx90, zM91) = some zq → (∀ (zy1 : Mm), zy1 = zq → ∀ (zH : Heap) (zlocs : List Loc) (zls : Array Slot), lv_has zls 8 [(4, .int zx3), (3, .int zx2), (2, .int zx1), (0, .ref (h 66)), (1, .int a1)] → Hw D (wX h cI zy1) A s.heap zH zlocs → W p l e (RM 5) s m args below meth c zH zlocs 0 0 Q (F0 m 171 zls [])) → ∀ (zH : Heap) (zlocs : List Loc) (zls : Array Slot), lv_has zls 8 [(7, .int zx90), (5, .int zv73), (4, .int zx3), (3, .int zx2), (2, .int zx1), (0, .ref (h 66)), (1, .int a1)] → Hw D (wX h cI zM91) A s.heap zH zlocs → W p l e (RM 5) s m args below meth c zH zlocs 0 0 Q (F0 m 119 zls []) := by
                intro zn
                induction zn with
                | zero => intro zx90 zM91 zq zhq; exact absurd zhq (fun h9 => itr_0 h9)
                | succ zn zih =>
                    intro zx90 zM91 zq zhq k119_171 zH zlocs zls zhl zhw
                    obtain ⟨zy9, zhs, zhq⟩ := itr_s zhq
                    replace zhs : LLayer_lookAtFoods_119_98 N a1 zx1 zx3 zv73 zx90 zM91 = some zy9 := zhs
                    unfold LLayer_lookAtFoods_119_98 at zhs
                    refine lv_iload zhx zhb dX4_lookAtFoods_119 (lv_at zhl 0 rfl) ?_
                    refine lv_aload_n zhx zhb dX4_lookAtFoods_121 rfl (lv_at zhl 5 rfl) ?_
                    refine x_get C zhw inlX4 rfl 66 0 (by decide) kw_6_13 rfl (wX_c66 h cI zM91) rfl dX4_lookAtFoods_122 ?_
                    refine x_getN C zhw inlX3 rfl 58 0 (by decide) (List.mem_of_getElem? (i := 32) rfl) rfl (wX_c58 h cI zM91) rfl dX4_lookAtFoods_125 ?_
                    refine x_getN C zhw inlX10 rfl 22 0 (by decide) (List.mem_of_getElem? (i := 17) rfl) rfl (wX_c22 h cI zM91) rfl dX4_lookAtFoods_128 ?_
                    refine x_getN C zhw inlX0 rfl 23 3 (by decide) (List.mem_of_getElem? (i := 4) rfl) rfl (wX_c23 h cI zM91) rfl dX4_lookAtFoods_131 ?_
                    refine lv_icmp_ge (tgt := 171) zhx zhb dX4_lookAtFoods_134 (by decide) (fun zc9 => ?_) (fun zc9 => ?_)
                    · replace zhs := br_T zhs zc9
                      cases zhs
                      exact k119_171 zM91 (itk_q zhq) zH zlocs zls (lv_sub zhl [2, 3, 4, 5, 6] rfl) zhw
                    · replace zhs := br_F zhs zc9
                      refine lv_aload_n zhx zhb dX4_lookAtFoods_137 rfl (lv_at zhl 5 rfl) ?_
                      refine x_get C zhw inlX4 rfl 66 1 (by decide) kw_6_9 rfl (wX_c66 h cI zM91) rfl dX4_lookAtFoods_138 ?_
                      refine lv_iload_n zhx zhb dX4_lookAtFoods_141 rfl (lv_at zhl 4 rfl) ?_
                      refine lv_bipush (v := 6) zhx zhb dX4_lookAtFoods_142 (by decide) ?_
                      refine lv_imul zhx zhb dX4_lookAtFoods_144 ?_
                      refine lv_iload zhx zhb dX4_lookAtFoods_145 (lv_at zhl 0 rfl) ?_
                      refine lv_iadd zhx zhb dX4_lookAtFoods_147 ?_
                      refine lv_aload_n zhx zhb dX4_lookAtFoods_148 rfl (lv_at zhl 5 rfl) ?_
                      refine x_get C zhw inlX4 rfl 66 0 (by decide) kw_6_13 rfl (wX_c66 h cI zM91) rfl dX4_lookAtFoods_149 ?_
                      refine lv_iload zhx zhb dX4_lookAtFoods_152 (lv_at zhl 2 rfl) ?_
                      refine lv_iload zhx zhb dX4_lookAtFoods_154 (lv_at zhl 1 rfl) ?_
                      refine lv_iload zhx zhb dX4_lookAtFoods_156 (lv_at zhl 0 rfl) ?_
                      refine lv_iload_n zhx zhb dX4_lookAtFoods_158 rfl (lv_at zhl 6 rfl) ?_
                      obtain ⟨zv95, zhp, zhs⟩ := bnd_e zhs
                      refine x_cVI (As := [.int zx3, .int zv73, .int zx90, .int a1]) (rest := [.int ((zx1 * 6) + zx90), .ref (h 67)]) C zhw zhl (cFridge_coinLostAs l D cI h N zx3 zv73 zx90 a1 zM91 zv95 zhp) (by decide) (by decide) kw_35_5 kw_27_18 kw_27_19 kw_2_6 kw_27_20 md_X3_coinLostAs rfl 58 (wX_c58 h cI zM91) rfl rfl rfl rfl (Nat.le_of_ble_eq_true rfl) dX4_lookAtFoods_159 (fun zH zlocs zhw hn9 => ?_)
                      refine x_cSNV (As := [.ref (h 67), .int ((zx1 * 6) + zx90), .int zv95]) (rest := []) C zhw zhl (c_put l D cI (wX h cI) zM91 67 24 (h 67) (wX_c67 h cI zM91) (fun j v => wX_a67 h cI zM91 j v) (by decide) ((zx1 * 6) + zx90) zv95) (by decide) (by decide) (List.mem_of_getElem? (i := 27) rfl) kw_7_0 kw_1_2 kw_7_1 md_X11_put rfl rfl (Nat.le_of_ble_eq_true rfl) dX4_lookAtFoods_162 (fun zH zlocs zhw => ?_)
                      obtain ⟨zM96, ze9, zhs⟩ := ltM_e zhs
                      rw [← ze9] at zhw; clear ze9
                      obtain ⟨zv97, ze9, zhs⟩ := ltI_e zhs
                      refine lv_iinc (v := zv97) (lv' := [(7, .int zv97), (5, .int zv73), (4, .int zx3), (3, .int zx2), (2, .int zx1), (0, .ref (h 66)), (1, .int a1)]) zhx zhb dX4_lookAtFoods_165 zhl (k := 0) rfl (by rw [ze9]; rfl) (by decide) rfl (fun zls zhl => ?_)
                      clear ze9
                      refine lv_goto (tgt := 119) zhx zhb dX4_lookAtFoods_168 (by decide) ?_
                      cases zhs
                      exact zih zv97 zM96 zq (itk_l zhq) k119_171 zH zlocs zls zhl zhw
              refine hloop98 N 0 zM89 zq98 zhq98 (fun zM99 zhqe zH zlocs zls zhl zhw => ?_) zH zlocs zls (lv_sub zhl [0, 2, 3, 4, 5, 6, 7] rfl) zhw
              · subst zhqe
                obtain ⟨zv100, ze9, zhs⟩ := ltI_e zhs
                refine lv_iinc (v := zv100) (lv' := [(2, .int zv100), (4, .int zx3), (3, .int zx2), (0, .ref (h 66)), (1, .int a1)]) zhx zhb dX4_lookAtFoods_171 zhl (k := 2) rfl (by rw [ze9]; rfl) (by decide) rfl (fun zls zhl => ?_)
                clear ze9
                obtain ⟨zv101, ze9, zhs⟩ := ltI_e zhs
                refine lv_iinc (v := zv101) (lv' := [(4, .int zv101), (2, .int zv100), (3, .int zx2), (0, .ref (h 66)), (1, .int a1)]) zhx zhb dX4_lookAtFoods_174 zhl (k := 1) rfl (by rw [ze9]; rfl) (by decide) rfl (fun zls zhl => ?_)
                clear ze9
                refine lv_goto (tgt := 7) zhx zhb dX4_lookAtFoods_177 (by decide) ?_
                cases zhs
                exact zih zv100 zx2 zv101 zM99 zq (itk_l zhq) k7_180 zH zlocs zls (lv_sub zhl [0, 2, 1, 3, 4] rfl) zhw
            · replace zhs := br_F zhs zc9
              refine lv_iload_n zhx zhb dX4_lookAtFoods_76 rfl (lv_at zhl 3 rfl) ?_
              refine lv_aload_n zhx zhb dX4_lookAtFoods_77 rfl (lv_at zhl 5 rfl) ?_
              refine x_get C zhw inlX4 rfl 66 0 (by decide) kw_6_13 rfl (wX_c66 h cI zM4) rfl dX4_lookAtFoods_78 ?_
              refine lv_iload zhx zhb dX4_lookAtFoods_81 (lv_at zhl 2 rfl) ?_
              refine lv_iload zhx zhb dX4_lookAtFoods_83 (lv_at zhl 1 rfl) ?_
              refine lv_iload zhx zhb dX4_lookAtFoods_85 (lv_at zhl 0 rfl) ?_
              refine lv_iload_n zhx zhb dX4_lookAtFoods_87 rfl (lv_at zhl 6 rfl) ?_
              obtain ⟨zv102, zhp, zhs⟩ := bnd_e zhs
              refine x_cVI (As := [.int zx3, .int zv73, .int zv74, .int a1]) (rest := [.int zx2]) C zhw zhl (cFridge_coinLostAs l D cI h N zx3 zv73 zv74 a1 zM4 zv102 zhp) (by decide) (by decide) kw_35_5 kw_27_18 kw_27_19 kw_2_6 kw_27_20 md_X3_coinLostAs rfl 58 (wX_c58 h cI zM4) rfl rfl rfl rfl (Nat.le_of_ble_eq_true rfl) dX4_lookAtFoods_88 (fun zH zlocs zhw hn9 => ?_)
              refine lv_iadd zhx zhb dX4_lookAtFoods_91 ?_
              obtain ⟨zv103, ze9, zhs⟩ := ltI_e zhs
              refine lv_topi (fun zy9 ze8 => ?_)
              obtain rfl : zv103 = zy9 := ze9.trans ze8.symm
              clear ze9 ze8
              refine lv_istore_n (lv' := [(3, .int zv103), (6, .int zv74), (5, .int zv73), (4, .int zx3), (2, .int zx1), (0, .ref (h 66)), (1, .int a1)]) zhx zhb dX4_lookAtFoods_92 rfl zhl (by decide) rfl (fun zls zhl => ?_)
              refine lv_goto (tgt := 174) zhx zhb dX4_lookAtFoods_93 (by decide) ?_
              obtain ⟨zv104, ze9, zhs⟩ := ltI_e zhs
              refine lv_iinc (v := zv104) (lv' := [(4, .int zv104), (3, .int zv103), (6, .int zv74), (5, .int zv73), (2, .int zx1), (0, .ref (h 66)), (1, .int a1)]) zhx zhb dX4_lookAtFoods_174 zhl (k := 3) rfl (by rw [ze9]; rfl) (by decide) rfl (fun zls zhl => ?_)
              clear ze9
              refine lv_goto (tgt := 7) zhx zhb dX4_lookAtFoods_177 (by decide) ?_
              cases zhs
              exact zih zx1 zv103 zv104 zM4 zq (itk_l zhq) k7_180 zH zlocs zls (lv_sub zhl [0, 1, 4, 5, 6] rfl) zhw
  refine hloop105 N 0 0 0 M zq105 zhq105 (fun zv106 zM107 zhqe zH zlocs zls zhl zhw => ?_) zH zlocs zls zhl zhw
  · subst zhqe
    try dsimp only at zhs
    refine lv_iload_n zhx zhb dX4_lookAtFoods_180 rfl (lv_at zhl 0 rfl) ?_
    cases zhs
    exact zhret _ _ _ _ dX4_lookAtFoods_181 (by rfl) zhw

-- OffFirst$Layer.settle in (66, ())
def LLayer_settle_16_8 (N : Nat) (zx2 : Int32) (zM3 : Mm) : Option ((Int32 × Mm) ⊕ ((Mm))) :=
  (if (zM3 66 5) ≤ zx2 then some (.inr zM3)
  else ltM (putf 4 zM3 70 zx2 (atf 4 (zM3 69) zx2)) fun zM6 =>
  ltI (zx2 + 1) fun zv7 =>
  some (.inl (zv7, zM6)))
def sLayer_settle (N : Nat) (a1 : Int32) (M : Mm) : Option Mm :=
  (if a1 < (M 66 6) then ltM (mset M 66 6 a1) fun zM1 =>
  (itr (fun z : Int32 × Mm => LLayer_settle_16_8 N z.1 z.2) N (0, zM1)).bind fun zM9 =>
  some zM9
  else some M)
set_option maxHeartbeats 4000000 in
set_option maxRecDepth 100000 in
theorem cLayer_settle (l : Launch) (D : va_G) (cI : ClassId) (h : Nat → Nat) (N : Nat) (a1 : Int32) (M : Mm) (M' : Mm) (zhs : sLayer_settle N a1 M = some M') : CtV l yX4_settle cX4_settle 3 2 D cI (wX h cI M) (wX h cI M') [.ref (h 66), .int a1] := by
  unfold sLayer_settle at zhs
  refine CtV_of (by decide +kernel) (Nat.le_of_ble_eq_true rfl) ?_
  intro p e s m args below meth c A Q zls zH zlocs C zhw zhl zhret
  have zhx := C.1
  have zhb := C.2.1
  have zhown := C.2.2.2.2.1
  have zhtB := C.2.2.2.2.2.2.1
  have zhl : lv_has zls 3 [(0, .ref (h 66)), (1, .int a1)] := zhl
  refine lv_iload_n zhx zhb dX4_settle_0 rfl (lv_at zhl 1 rfl) ?_
  refine lv_aload_n zhx zhb dX4_settle_1 rfl (lv_at zhl 0 rfl) ?_
  refine x_get C zhw inlX4 rfl 66 6 (by decide) kw_34_19 rfl (wX_c66 h cI M) rfl dX4_settle_2 ?_
  refine lv_icmp_lt (tgt := 9) zhx zhb dX4_settle_5 (by decide) (fun zc9 => ?_) (fun zc9 => ?_)
  · replace zhs := br_T zhs zc9
    refine lv_aload_n zhx zhb dX4_settle_9 rfl (lv_at zhl 0 rfl) ?_
    refine lv_iload_n zhx zhb dX4_settle_10 rfl (lv_at zhl 1 rfl) ?_
    refine x_put C zhw inlX4 rfl tyX4_ok nmX4 66 6 (by decide) kw_34_19 rfl rfl rfl (wX_c66 h cI M) (Nat.le_of_ble_eq_true rfl) (wX_s66_6 h cI M _) dX4_settle_11 (fun zH zlocs zhw => ?_)
    obtain ⟨zM1, ze9, zhs⟩ := ltM_e zhs
    rw [← ze9] at zhw; clear ze9
    refine lv_iconst (v := 0) zhx zhb dX4_settle_14 (by decide) ?_
    refine lv_istore_n (lv' := [(2, .int 0), (0, .ref (h 66)), (1, .int a1)]) zhx zhb dX4_settle_15 rfl zhl (by decide) rfl (fun zls zhl => ?_)
    obtain ⟨zq8, zhq8, zhs⟩ := bnd_e zhs
    have hloop8 : ∀ (zn : Nat) (zx2 : Int32) (zM3 : Mm) (zq : (Mm)), itr (fun z : Int32 × Mm => LLayer_settle_16_8 N z.1 z.2) zn (zx2, zM3) = some zq → (∀ (zy1 : Mm), zy1 = zq → ∀ (zH : Heap) (zlocs : List Loc) (zls : Array Slot), lv_has zls 3 [] → Hw D (wX h cI zy1) A s.heap zH zlocs → W p l e (RM 2) s m args below meth c zH zlocs 0 0 Q (F0 m 46 zls [])) → ∀ (zH : Heap) (zlocs : List Loc) (zls : Array Slot), lv_has zls 3 [(2, .int zx2), (0, .ref (h 66))] → Hw D (wX h cI zM3) A s.heap zH zlocs → W p l e (RM 2) s m args below meth c zH zlocs 0 0 Q (F0 m 16 zls []) := by
      intro zn
      induction zn with
      | zero => intro zx2 zM3 zq zhq; exact absurd zhq (fun h9 => itr_0 h9)
      | succ zn zih =>
          intro zx2 zM3 zq zhq k16_46 zH zlocs zls zhl zhw
          obtain ⟨zy9, zhs, zhq⟩ := itr_s zhq
          replace zhs : LLayer_settle_16_8 N zx2 zM3 = some zy9 := zhs
          unfold LLayer_settle_16_8 at zhs
          refine lv_iload_n zhx zhb dX4_settle_16 rfl (lv_at zhl 0 rfl) ?_
          refine lv_aload_n zhx zhb dX4_settle_17 rfl (lv_at zhl 1 rfl) ?_
          refine x_get C zhw inlX4 rfl 66 5 (by decide) kw_34_17 rfl (wX_c66 h cI zM3) rfl dX4_settle_18 ?_
          refine lv_icmp_ge (tgt := 46) zhx zhb dX4_settle_21 (by decide) (fun zc9 => ?_) (fun zc9 => ?_)
          · replace zhs := br_T zhs zc9
            cases zhs
            exact k16_46 zM3 (itk_q zhq) zH zlocs zls (lv_sub zhl [] rfl) zhw
          · replace zhs := br_F zhs zc9
            refine lv_aload_n zhx zhb dX4_settle_24 rfl (lv_at zhl 1 rfl) ?_
            refine x_get C zhw inlX4 rfl 66 4 (by decide) kw_6_12 rfl (wX_c66 h cI zM3) rfl dX4_settle_25 ?_
            refine lv_iload_n zhx zhb dX4_settle_28 rfl (lv_at zhl 0 rfl) ?_
            refine lv_aload_n zhx zhb dX4_settle_29 rfl (lv_at zhl 1 rfl) ?_
            refine x_get C zhw inlX4 rfl 66 3 (by decide) kw_6_11 rfl (wX_c66 h cI zM3) rfl dX4_settle_30 ?_
            refine lv_iload_n zhx zhb dX4_settle_33 rfl (lv_at zhl 0 rfl) ?_
            refine x_cSNI (As := [.ref (h 69), .int zx2]) (rest := [.int zx2, .ref (h 70)]) C zhw zhl (c_at l D cI (wX h cI zM3) 69 4 (h 69) (zM3 69) (wX_c69 h cI zM3) (by decide) zx2) (by decide) (by decide) (List.mem_of_getElem? (i := 28) rfl) kw_7_7 kw_1_2 kw_7_8 md_X11_at rfl rfl (Nat.le_of_ble_eq_true rfl) dX4_settle_34 (fun zH zlocs zhw hn9 => ?_)
            refine x_cSNV (As := [.ref (h 70), .int zx2, .int (atf 4 (zM3 69) zx2)]) (rest := []) C zhw zhl (c_put l D cI (wX h cI) zM3 70 4 (h 70) (wX_c70 h cI zM3) (fun j v => wX_a70 h cI zM3 j v) (by decide) zx2 (atf 4 (zM3 69) zx2)) (by decide) (by decide) (List.mem_of_getElem? (i := 27) rfl) kw_7_0 kw_1_2 kw_7_1 md_X11_put rfl rfl (Nat.le_of_ble_eq_true rfl) dX4_settle_37 (fun zH zlocs zhw => ?_)
            obtain ⟨zM6, ze9, zhs⟩ := ltM_e zhs
            rw [← ze9] at zhw; clear ze9
            obtain ⟨zv7, ze9, zhs⟩ := ltI_e zhs
            refine lv_iinc (v := zv7) (lv' := [(2, .int zv7), (0, .ref (h 66))]) zhx zhb dX4_settle_40 zhl (k := 0) rfl (by rw [ze9]; rfl) (by decide) rfl (fun zls zhl => ?_)
            clear ze9
            refine lv_goto (tgt := 16) zhx zhb dX4_settle_43 (by decide) ?_
            cases zhs
            exact zih zv7 zM6 zq (itk_l zhq) k16_46 zH zlocs zls zhl zhw
    refine hloop8 N 0 zM1 zq8 zhq8 (fun zM9 zhqe zH zlocs zls zhl zhw => ?_) zH zlocs zls (lv_sub zhl [0, 1] rfl) zhw
    · subst zhqe
      cases zhs
      exact zhret _ _ _ _ dX4_settle_46 zhw
  · replace zhs := br_F zhs zc9
    cases zhs
    exact zhret _ _ _ _ dX4_settle_8 zhw

-- OffFirst$Layer.tryFood in (None, (66,))
def LLayer_tryFood_21_26 (N : Nat) (a1 : Int32) (a2 : Int32) (rec : Int32 → Int32 → Mm → Option Mm) (zx2 : Int32) (zM3 : Mm) : Option ((Int32 × Mm) ⊕ ((Mm))) :=
  (if (zM3 23 3) ≤ zx2 then some (.inr zM3)
  else ltI (atf 6 (zM3 68) zx2) fun zv15 =>
  (if zv15 ≤ 0 then ltI (zx2 + 1) fun zv20 =>
  some (.inl (zv20, zM3))
  else ltM (putf 6 zM3 68 zx2 (zv15 - 1)) fun zM21 =>
  ltM (putf 4 zM21 69 a1 zx2) fun zM22 =>
  (rec (a1 + 1) (a2 + (atf 24 (zM22 67) ((a1 * 6) + zx2))) zM22).bind fun zM23 =>
  ltM (putf 6 zM23 68 zx2 zv15) fun zM24 =>
  ltI (zx2 + 1) fun zv25 =>
  some (.inl (zv25, zM24))))
def sLayer_tryFoodB (N : Nat) (rec : Int32 → Int32 → Mm → Option Mm) (a1 : Int32) (a2 : Int32) (M : Mm) : Option Mm :=
  (if (M 66 5) ≤ a1 then (sLayer_settle N a2 M).bind fun zM1 =>
  some zM1
  else (if a1 < 4 then (itr (fun z : Int32 × Mm => LLayer_tryFood_21_26 N a1 a2 rec z.1 z.2) N (0, M)).bind fun zM27 =>
  some zM27
  else (sLayer_settle N a2 M).bind fun zM28 =>
  some zM28))
def sLayer_tryFood (N : Nat) : Nat → Int32 → Int32 → Mm → Option Mm
  | 0 => fun _ _ _ => none
  | d + 1 => sLayer_tryFoodB N (sLayer_tryFood N d)
set_option maxHeartbeats 4000000 in
set_option maxRecDepth 100000 in
theorem cLayer_tryFoodB (l : Launch) (D : va_G) (cI : ClassId) (h : Nat → Nat) (N d : Nat) (rec : Int32 → Int32 → Mm → Option Mm) (hrec : ∀ (a1 : Int32) (a2 : Int32) (M M' : Mm), rec a1 a2 M = some M' → CtV l yX4_tryFood cX4_tryFood 5 (3 + d) D cI (wX h cI M) (wX h cI M') [.ref (h 66), .int a1, .int a2]) (a1 : Int32) (a2 : Int32) (M : Mm) (M' : Mm) (zhs : sLayer_tryFoodB N rec a1 a2 M = some M') : CtV l yX4_tryFood cX4_tryFood 5 (3 + d + 1) D cI (wX h cI M) (wX h cI M') [.ref (h 66), .int a1, .int a2] := by
  unfold sLayer_tryFoodB at zhs
  refine CtV_of (by decide +kernel) (Nat.le_of_ble_eq_true rfl) ?_
  intro p e s m args below meth c A Q zls zH zlocs C zhw zhl zhret
  have zhx := C.1
  have zhb := C.2.1
  have zhown := C.2.2.2.2.1
  have zhtB := C.2.2.2.2.2.2.1
  have zhl : lv_has zls 5 [(0, .ref (h 66)), (1, .int a1), (2, .int a2)] := zhl
  refine lv_iload_n zhx zhb dX4_tryFood_0 rfl (lv_at zhl 1 rfl) ?_
  refine lv_aload_n zhx zhb dX4_tryFood_1 rfl (lv_at zhl 0 rfl) ?_
  refine x_get C zhw inlX4 rfl 66 5 (by decide) kw_34_17 rfl (wX_c66 h cI M) rfl dX4_tryFood_2 ?_
  refine lv_icmp_ge (tgt := 13) zhx zhb dX4_tryFood_5 (by decide) (fun zc9 => ?_) (fun zc9 => ?_)
  · replace zhs := br_T zhs zc9
    refine lv_aload_n zhx zhb dX4_tryFood_13 rfl (lv_at zhl 0 rfl) ?_
    refine lv_iload_n zhx zhb dX4_tryFood_14 rfl (lv_at zhl 2 rfl) ?_
    obtain ⟨zM1, zhp, zhs⟩ := bnd_e zhs
    refine x_cVV (As := [.int a2]) (rest := []) C zhw zhl (cLayer_settle l D cI h N a2 M zM1 zhp) (by omega) (by decide) kw_35_9 kw_35_10 kw_35_11 kw_2_18 kw_35_12 md_X4_settle rfl 66 (wX_c66 h cI M) rfl rfl rfl rfl (Nat.le_of_ble_eq_true rfl) dX4_tryFood_15 (fun zH zlocs zhw => ?_)
    cases zhs
    exact zhret _ _ _ _ dX4_tryFood_18 zhw
  · replace zhs := br_F zhs zc9
    refine lv_iload_n zhx zhb dX4_tryFood_8 rfl (lv_at zhl 1 rfl) ?_
    refine lv_iconst (v := 4) zhx zhb dX4_tryFood_9 (by decide) ?_
    refine lv_icmp_lt (tgt := 19) zhx zhb dX4_tryFood_10 (by decide) (fun zc9 => ?_) (fun zc9 => ?_)
    · replace zhs := br_T zhs zc9
      refine lv_iconst (v := 0) zhx zhb dX4_tryFood_19 (by decide) ?_
      refine lv_istore_n (lv' := [(3, .int 0), (0, .ref (h 66)), (1, .int a1), (2, .int a2)]) zhx zhb dX4_tryFood_20 rfl zhl (by decide) rfl (fun zls zhl => ?_)
      obtain ⟨zq26, zhq26, zhs⟩ := bnd_e zhs
      have hloop26 : ∀ (zn : Nat) (zx2 : Int32) (zM3 : Mm) (zq : (Mm)), itr (fun z : Int32 × Mm => LLayer_tryFood_21_26 N a1 a2 rec z.1 z.2) zn (zx2, zM3) = some zq → (∀ (zy1 : Mm), zy1 = zq → ∀ (zH : Heap) (zlocs : List Loc) (zls : Array Slot), lv_has zls 5 [] → Hw D (wX h cI zy1) A s.heap zH zlocs → W p l e (RM (3 + d + 1)) s m args below meth c zH zlocs 0 0 Q (F0 m 112 zls [])) → ∀ (zH : Heap) (zlocs : List Loc) (zls : Array Slot), lv_has zls 5 [(3, .int zx2), (0, .ref (h 66)), (1, .int a1), (2, .int a2)] → Hw D (wX h cI zM3) A s.heap zH zlocs → W p l e (RM (3 + d + 1)) s m args below meth c zH zlocs 0 0 Q (F0 m 21 zls []) := by
        intro zn
        induction zn with
        | zero => intro zx2 zM3 zq zhq; exact absurd zhq (fun h9 => itr_0 h9)
        | succ zn zih =>
            intro zx2 zM3 zq zhq k21_112 zH zlocs zls zhl zhw
            obtain ⟨zy9, zhs, zhq⟩ := itr_s zhq
            replace zhs : LLayer_tryFood_21_26 N a1 a2 rec zx2 zM3 = some zy9 := zhs
            unfold LLayer_tryFood_21_26 at zhs
            refine lv_iload_n zhx zhb dX4_tryFood_21 rfl (lv_at zhl 0 rfl) ?_
            refine lv_aload_n zhx zhb dX4_tryFood_22 rfl (lv_at zhl 1 rfl) ?_
            refine x_get C zhw inlX4 rfl 66 0 (by decide) kw_6_13 rfl (wX_c66 h cI zM3) rfl dX4_tryFood_23 ?_
            refine x_getN C zhw inlX3 rfl 58 0 (by decide) (List.mem_of_getElem? (i := 32) rfl) rfl (wX_c58 h cI zM3) rfl dX4_tryFood_26 ?_
            refine x_getN C zhw inlX10 rfl 22 0 (by decide) (List.mem_of_getElem? (i := 17) rfl) rfl (wX_c22 h cI zM3) rfl dX4_tryFood_29 ?_
            refine x_getN C zhw inlX0 rfl 23 3 (by decide) (List.mem_of_getElem? (i := 4) rfl) rfl (wX_c23 h cI zM3) rfl dX4_tryFood_32 ?_
            refine lv_icmp_ge (tgt := 112) zhx zhb dX4_tryFood_35 (by decide) (fun zc9 => ?_) (fun zc9 => ?_)
            · replace zhs := br_T zhs zc9
              cases zhs
              exact k21_112 zM3 (itk_q zhq) zH zlocs zls (lv_sub zhl [] rfl) zhw
            · replace zhs := br_F zhs zc9
              refine lv_aload_n zhx zhb dX4_tryFood_38 rfl (lv_at zhl 1 rfl) ?_
              refine x_get C zhw inlX4 rfl 66 2 (by decide) kw_6_10 rfl (wX_c66 h cI zM3) rfl dX4_tryFood_39 ?_
              refine lv_iload_n zhx zhb dX4_tryFood_42 rfl (lv_at zhl 0 rfl) ?_
              refine x_cSNI (As := [.ref (h 68), .int zx2]) (rest := []) C zhw zhl (c_at l D cI (wX h cI zM3) 68 6 (h 68) (zM3 68) (wX_c68 h cI zM3) (by decide) zx2) (by omega) (by decide) (List.mem_of_getElem? (i := 28) rfl) kw_7_7 kw_1_2 kw_7_8 md_X11_at rfl rfl (Nat.le_of_ble_eq_true rfl) dX4_tryFood_43 (fun zH zlocs zhw hn9 => ?_)
              obtain ⟨zv15, ze9, zhs⟩ := ltI_e zhs
              refine lv_topi (fun zy9 ze8 => ?_)
              obtain rfl : zv15 = zy9 := ze9.trans ze8.symm
              clear ze9 ze8
              refine lv_istore (lv' := [(4, .int zv15), (3, .int zx2), (0, .ref (h 66)), (1, .int a1), (2, .int a2)]) zhx zhb dX4_tryFood_46 zhl (by decide) rfl (fun zls zhl => ?_)
              refine lv_iload zhx zhb dX4_tryFood_48 (lv_at zhl 0 rfl) ?_
              refine lv_if_le (tgt := 106) zhx zhb dX4_tryFood_50 (by decide) (fun zc9 => ?_) (fun zc9 => ?_)
              · replace zhs := br_T zhs zc9
                obtain ⟨zv20, ze9, zhs⟩ := ltI_e zhs
                refine lv_iinc (v := zv20) (lv' := [(3, .int zv20), (4, .int zv15), (0, .ref (h 66)), (1, .int a1), (2, .int a2)]) zhx zhb dX4_tryFood_106 zhl (k := 1) rfl (by rw [ze9]; rfl) (by decide) rfl (fun zls zhl => ?_)
                clear ze9
                refine lv_goto (tgt := 21) zhx zhb dX4_tryFood_109 (by decide) ?_
                cases zhs
                exact zih zv20 zM3 zq (itk_l zhq) k21_112 zH zlocs zls (lv_sub zhl [0, 2, 3, 4] rfl) zhw
              · replace zhs := br_F zhs zc9
                refine lv_aload_n zhx zhb dX4_tryFood_53 rfl (lv_at zhl 2 rfl) ?_
                refine x_get C zhw inlX4 rfl 66 2 (by decide) kw_6_10 rfl (wX_c66 h cI zM3) rfl dX4_tryFood_54 ?_
                refine lv_iload_n zhx zhb dX4_tryFood_57 rfl (lv_at zhl 1 rfl) ?_
                refine lv_iload zhx zhb dX4_tryFood_58 (lv_at zhl 0 rfl) ?_
                refine lv_iconst (v := 1) zhx zhb dX4_tryFood_60 (by decide) ?_
                refine lv_isub zhx zhb dX4_tryFood_61 ?_
                refine x_cSNV (As := [.ref (h 68), .int zx2, .int (zv15 - 1)]) (rest := []) C zhw zhl (c_put l D cI (wX h cI) zM3 68 6 (h 68) (wX_c68 h cI zM3) (fun j v => wX_a68 h cI zM3 j v) (by decide) zx2 (zv15 - 1)) (by omega) (by decide) (List.mem_of_getElem? (i := 27) rfl) kw_7_0 kw_1_2 kw_7_1 md_X11_put rfl rfl (Nat.le_of_ble_eq_true rfl) dX4_tryFood_62 (fun zH zlocs zhw => ?_)
                obtain ⟨zM21, ze9, zhs⟩ := ltM_e zhs
                rw [← ze9] at zhw; clear ze9
                refine lv_aload_n zhx zhb dX4_tryFood_65 rfl (lv_at zhl 2 rfl) ?_
                refine x_get C zhw inlX4 rfl 66 3 (by decide) kw_6_11 rfl (wX_c66 h cI zM21) rfl dX4_tryFood_66 ?_
                refine lv_iload_n zhx zhb dX4_tryFood_69 rfl (lv_at zhl 3 rfl) ?_
                refine lv_iload_n zhx zhb dX4_tryFood_70 rfl (lv_at zhl 1 rfl) ?_
                refine x_cSNV (As := [.ref (h 69), .int a1, .int zx2]) (rest := []) C zhw zhl (c_put l D cI (wX h cI) zM21 69 4 (h 69) (wX_c69 h cI zM21) (fun j v => wX_a69 h cI zM21 j v) (by decide) a1 zx2) (by omega) (by decide) (List.mem_of_getElem? (i := 27) rfl) kw_7_0 kw_1_2 kw_7_1 md_X11_put rfl rfl (Nat.le_of_ble_eq_true rfl) dX4_tryFood_71 (fun zH zlocs zhw => ?_)
                obtain ⟨zM22, ze9, zhs⟩ := ltM_e zhs
                rw [← ze9] at zhw; clear ze9
                refine lv_aload_n zhx zhb dX4_tryFood_74 rfl (lv_at zhl 2 rfl) ?_
                refine lv_iload_n zhx zhb dX4_tryFood_75 rfl (lv_at zhl 3 rfl) ?_
                refine lv_iconst (v := 1) zhx zhb dX4_tryFood_76 (by decide) ?_
                refine lv_iadd zhx zhb dX4_tryFood_77 ?_
                refine lv_iload_n zhx zhb dX4_tryFood_78 rfl (lv_at zhl 4 rfl) ?_
                refine lv_aload_n zhx zhb dX4_tryFood_79 rfl (lv_at zhl 2 rfl) ?_
                refine x_get C zhw inlX4 rfl 66 1 (by decide) kw_6_9 rfl (wX_c66 h cI zM22) rfl dX4_tryFood_80 ?_
                refine lv_iload_n zhx zhb dX4_tryFood_83 rfl (lv_at zhl 3 rfl) ?_
                refine lv_bipush (v := 6) zhx zhb dX4_tryFood_84 (by decide) ?_
                refine lv_imul zhx zhb dX4_tryFood_86 ?_
                refine lv_iload_n zhx zhb dX4_tryFood_87 rfl (lv_at zhl 1 rfl) ?_
                refine lv_iadd zhx zhb dX4_tryFood_88 ?_
                refine x_cSNI (As := [.ref (h 67), .int ((a1 * 6) + zx2)]) (rest := [.int a2, .int (a1 + 1), .ref (h 66)]) C zhw zhl (c_at l D cI (wX h cI zM22) 67 24 (h 67) (zM22 67) (wX_c67 h cI zM22) (by decide) ((a1 * 6) + zx2)) (by omega) (by decide) (List.mem_of_getElem? (i := 28) rfl) kw_7_7 kw_1_2 kw_7_8 md_X11_at rfl rfl (Nat.le_of_ble_eq_true rfl) dX4_tryFood_89 (fun zH zlocs zhw hn9 => ?_)
                refine lv_iadd zhx zhb dX4_tryFood_92 ?_
                obtain ⟨zM23, zhp, zhs⟩ := bnd_e zhs
                refine x_cSV (As := [.ref (h 66), .int (a1 + 1), .int (a2 + (atf 24 (zM22 67) ((a1 * 6) + zx2)))]) (rest := []) C zhw zhl (hrec (a1 + 1) (a2 + (atf 24 (zM22 67) ((a1 * 6) + zx2))) zM22 zM23 zhp) (by omega) (by decide) kw_35_6 kw_35_7 kw_2_18 kw_35_8 md_X4_tryFood rfl rfl (Nat.le_of_ble_eq_true rfl) dX4_tryFood_93 (fun zH zlocs zhw => ?_)
                refine lv_aload_n zhx zhb dX4_tryFood_96 rfl (lv_at zhl 2 rfl) ?_
                refine x_get C zhw inlX4 rfl 66 2 (by decide) kw_6_10 rfl (wX_c66 h cI zM23) rfl dX4_tryFood_97 ?_
                refine lv_iload_n zhx zhb dX4_tryFood_100 rfl (lv_at zhl 1 rfl) ?_
                refine lv_iload zhx zhb dX4_tryFood_101 (lv_at zhl 0 rfl) ?_
                refine x_cSNV (As := [.ref (h 68), .int zx2, .int zv15]) (rest := []) C zhw zhl (c_put l D cI (wX h cI) zM23 68 6 (h 68) (wX_c68 h cI zM23) (fun j v => wX_a68 h cI zM23 j v) (by decide) zx2 zv15) (by omega) (by decide) (List.mem_of_getElem? (i := 27) rfl) kw_7_0 kw_1_2 kw_7_1 md_X11_put rfl rfl (Nat.le_of_ble_eq_true rfl) dX4_tryFood_103 (fun zH zlocs zhw => ?_)
                obtain ⟨zM24, ze9, zhs⟩ := ltM_e zhs
                rw [← ze9] at zhw; clear ze9
                obtain ⟨zv25, ze9, zhs⟩ := ltI_e zhs
                refine lv_iinc (v := zv25) (lv' := [(3, .int zv25), (4, .int zv15), (0, .ref (h 66)), (1, .int a1), (2, .int a2)]) zhx zhb dX4_tryFood_106 zhl (k := 1) rfl (by rw [ze9]; rfl) (by decide) rfl (fun zls zhl => ?_)
                clear ze9
                refine lv_goto (tgt := 21) zhx zhb dX4_tryFood_109 (by decide) ?_
                cases zhs
                exact zih zv25 zM24 zq (itk_l zhq) k21_112 zH zlocs zls (lv_sub zhl [0, 2, 3, 4] rfl) zhw
      refine hloop26 N 0 M zq26 zhq26 (fun zM27 zhqe zH zlocs zls zhl zhw => ?_) zH zlocs zls zhl zhw
      · subst zhqe
        cases zhs
        exact zhret _ _ _ _ dX4_tryFood_112 zhw
    · replace zhs := br_F zhs zc9
      refine lv_aload_n zhx zhb dX4_tryFood_13 rfl (lv_at zhl 0 rfl) ?_
      refine lv_iload_n zhx zhb dX4_tryFood_14 rfl (lv_at zhl 2 rfl) ?_
      obtain ⟨zM28, zhp, zhs⟩ := bnd_e zhs
      refine x_cVV (As := [.int a2]) (rest := []) C zhw zhl (cLayer_settle l D cI h N a2 M zM28 zhp) (by omega) (by decide) kw_35_9 kw_35_10 kw_35_11 kw_2_18 kw_35_12 md_X4_settle rfl 66 (wX_c66 h cI M) rfl rfl rfl rfl (Nat.le_of_ble_eq_true rfl) dX4_tryFood_15 (fun zH zlocs zhw => ?_)
      cases zhs
      exact zhret _ _ _ _ dX4_tryFood_18 zhw
theorem cLayer_tryFood (l : Launch) (D : va_G) (cI : ClassId) (h : Nat → Nat) (N : Nat) : ∀ (d : Nat) (a1 : Int32) (a2 : Int32) (M : Mm) (M' : Mm) (hs : sLayer_tryFood N d a1 a2 M = some M'), CtV l yX4_tryFood cX4_tryFood 5 (3 + d) D cI (wX h cI M) (wX h cI M') [.ref (h 66), .int a1, .int a2]
  | 0, _, _, _, _, hs => by cases hs
  | d + 1, a1, a2, M, M', hs => cLayer_tryFoodB l D cI h N d (sLayer_tryFood N d) (fun a1 a2 M M' hs => cLayer_tryFood l D cI h N d a1 a2 M M' hs) a1 a2 M M' hs


-- OffFirst$Layer.findBest in (66, ())
def LLayer_findBest_13_13 (N : Nat) (zx3 : Int32) (zM4 : Mm) : Option ((Int32 × Mm) ⊕ ((Mm))) :=
  (if (zM4 23 3) ≤ zx3 then some (.inr zM4)
  else (sCells_roomOf_l zx3 zM4).bind fun zv9 =>
  (sStock_numberIn N zx3 zM4).bind fun zv10 =>
  ltM (putf 6 zM4 68 zx3 (zv9 - zv10)) fun zM11 =>
  ltI (zx3 + 1) fun zv12 =>
  some (.inl (zv12, zM11)))
def sLayer_findBest (N : Nat) (a1 : Int32) (a2 : Int32) (M : Mm) : Option Mm :=
  ltM (mset M 66 5 a1) fun zM1 =>
  ltM (mset zM1 66 6 1000000000) fun zM2 =>
  (itr (fun z : Int32 × Mm => LLayer_findBest_13_13 N z.1 z.2) N (0, zM2)).bind fun zM14 =>
  (sLayer_lookAtFoods N a2 zM14).bind fun (zv15, zM16) =>
  (sLayer_tryFood N 6 0 zv15 zM16).bind fun zM17 =>
  some zM17
set_option maxHeartbeats 4000000 in
set_option maxRecDepth 100000 in
theorem cLayer_findBest (l : Launch) (D : va_G) (cI : ClassId) (h : Nat → Nat) (N : Nat) (a1 : Int32) (a2 : Int32) (M : Mm) (M' : Mm) (zhs : sLayer_findBest N a1 a2 M = some M') : CtV l yX4_findBest cX4_findBest 4 10 D cI (wX h cI M) (wX h cI M') [.ref (h 66), .int a1, .int a2] := by
  unfold sLayer_findBest at zhs
  refine CtV_of (by decide +kernel) (Nat.le_of_ble_eq_true rfl) ?_
  intro p e s m args below meth c A Q zls zH zlocs C zhw zhl zhret
  have zhx := C.1
  have zhb := C.2.1
  have zhown := C.2.2.2.2.1
  have zhtB := C.2.2.2.2.2.2.1
  have zhl : lv_has zls 4 [(0, .ref (h 66)), (1, .int a1), (2, .int a2)] := zhl
  refine lv_aload_n zhx zhb dX4_findBest_0 rfl (lv_at zhl 0 rfl) ?_
  refine lv_iload_n zhx zhb dX4_findBest_1 rfl (lv_at zhl 1 rfl) ?_
  refine x_put C zhw inlX4 rfl tyX4_ok nmX4 66 5 (by decide) kw_34_17 rfl rfl rfl (wX_c66 h cI M) (Nat.le_of_ble_eq_true rfl) (wX_s66_5 h cI M _) dX4_findBest_2 (fun zH zlocs zhw => ?_)
  obtain ⟨zM1, ze9, zhs⟩ := ltM_e zhs
  rw [← ze9] at zhw; clear ze9
  refine lv_aload_n zhx zhb dX4_findBest_5 rfl (lv_at zhl 0 rfl) ?_
  refine lv_ldc zhx zhb zhown (zhtB _ kw_34_18) dX4_findBest_6 ?_
  refine x_put C zhw inlX4 rfl tyX4_ok nmX4 66 6 (by decide) kw_34_19 rfl rfl rfl (wX_c66 h cI zM1) (Nat.le_of_ble_eq_true rfl) (wX_s66_6 h cI zM1 _) dX4_findBest_8 (fun zH zlocs zhw => ?_)
  obtain ⟨zM2, ze9, zhs⟩ := ltM_e zhs
  rw [← ze9] at zhw; clear ze9
  refine lv_iconst (v := 0) zhx zhb dX4_findBest_11 (by decide) ?_
  refine lv_istore_n (lv' := [(3, .int 0), (0, .ref (h 66)), (1, .int a1), (2, .int a2)]) zhx zhb dX4_findBest_12 rfl zhl (by decide) rfl (fun zls zhl => ?_)
  obtain ⟨zq13, zhq13, zhs⟩ := bnd_e zhs
  have hloop13 : ∀ (zn : Nat) (zx3 : Int32) (zM4 : Mm) (zq : (Mm)), itr (fun z : Int32 × Mm => LLayer_findBest_13_13 N z.1 z.2) zn (zx3, zM4) = some zq → (∀ (zy1 : Mm), zy1 = zq → ∀ (zH : Heap) (zlocs : List Loc) (zls : Array Slot), lv_has zls 4 [(0, .ref (h 66)), (2, .int a2)] → Hw D (wX h cI zy1) A s.heap zH zlocs → W p l e (RM 10) s m args below meth c zH zlocs 0 0 Q (F0 m 70 zls [])) → ∀ (zH : Heap) (zlocs : List Loc) (zls : Array Slot), lv_has zls 4 [(3, .int zx3), (0, .ref (h 66)), (2, .int a2)] → Hw D (wX h cI zM4) A s.heap zH zlocs → W p l e (RM 10) s m args below meth c zH zlocs 0 0 Q (F0 m 13 zls []) := by
    intro zn
    induction zn with
    | zero => intro zx3 zM4 zq zhq; exact absurd zhq (fun h9 => itr_0 h9)
    | succ zn zih =>
        intro zx3 zM4 zq zhq k13_70 zH zlocs zls zhl zhw
        obtain ⟨zy9, zhs, zhq⟩ := itr_s zhq
        replace zhs : LLayer_findBest_13_13 N zx3 zM4 = some zy9 := zhs
        unfold LLayer_findBest_13_13 at zhs
        refine lv_iload_n zhx zhb dX4_findBest_13 rfl (lv_at zhl 0 rfl) ?_
        refine lv_aload_n zhx zhb dX4_findBest_14 rfl (lv_at zhl 1 rfl) ?_
        refine x_get C zhw inlX4 rfl 66 0 (by decide) kw_6_13 rfl (wX_c66 h cI zM4) rfl dX4_findBest_15 ?_
        refine x_getN C zhw inlX3 rfl 58 0 (by decide) (List.mem_of_getElem? (i := 32) rfl) rfl (wX_c58 h cI zM4) rfl dX4_findBest_18 ?_
        refine x_getN C zhw inlX10 rfl 22 0 (by decide) (List.mem_of_getElem? (i := 17) rfl) rfl (wX_c22 h cI zM4) rfl dX4_findBest_21 ?_
        refine x_getN C zhw inlX0 rfl 23 3 (by decide) (List.mem_of_getElem? (i := 4) rfl) rfl (wX_c23 h cI zM4) rfl dX4_findBest_24 ?_
        refine lv_icmp_ge (tgt := 70) zhx zhb dX4_findBest_27 (by decide) (fun zc9 => ?_) (fun zc9 => ?_)
        · replace zhs := br_T zhs zc9
          cases zhs
          exact k13_70 zM4 (itk_q zhq) zH zlocs zls (lv_sub zhl [1, 2] rfl) zhw
        · replace zhs := br_F zhs zc9
          refine lv_aload_n zhx zhb dX4_findBest_30 rfl (lv_at zhl 1 rfl) ?_
          refine x_get C zhw inlX4 rfl 66 2 (by decide) kw_6_10 rfl (wX_c66 h cI zM4) rfl dX4_findBest_31 ?_
          refine lv_iload_n zhx zhb dX4_findBest_34 rfl (lv_at zhl 0 rfl) ?_
          refine lv_aload_n zhx zhb dX4_findBest_35 rfl (lv_at zhl 1 rfl) ?_
          refine x_get C zhw inlX4 rfl 66 0 (by decide) kw_6_13 rfl (wX_c66 h cI zM4) rfl dX4_findBest_36 ?_
          refine x_getN C zhw inlX3 rfl 58 0 (by decide) (List.mem_of_getElem? (i := 32) rfl) rfl (wX_c58 h cI zM4) rfl dX4_findBest_39 ?_
          refine x_getN C zhw inlX10 rfl 22 0 (by decide) (List.mem_of_getElem? (i := 17) rfl) rfl (wX_c22 h cI zM4) rfl dX4_findBest_42 ?_
          refine lv_iload_n zhx zhb dX4_findBest_45 rfl (lv_at zhl 0 rfl) ?_
          obtain ⟨zv9, zhp, zhs⟩ := bnd_e zhs
          refine x_cVI (As := [.int zx3]) (rest := [.int zx3, .ref (h 68)]) C zhw zhl (cCells_roomOf_l l D cI h zx3 zM4 zv9 zhp) (by decide) (by decide) kw_34_20 kw_17_12 kw_17_13 kw_3_11 kw_17_14 md_X0_roomOf rfl 23 (wX_c23 h cI zM4) rfl rfl rfl rfl (Nat.le_of_ble_eq_true rfl) dX4_findBest_46 (fun zH zlocs zhw hn9 => ?_)
          refine lv_aload_n zhx zhb dX4_findBest_49 rfl (lv_at zhl 1 rfl) ?_
          refine x_get C zhw inlX4 rfl 66 0 (by decide) kw_6_13 rfl (wX_c66 h cI zM4) rfl dX4_findBest_50 ?_
          refine x_getN C zhw inlX3 rfl 58 1 (by decide) (List.mem_of_getElem? (i := 37) rfl) rfl (wX_c58 h cI zM4) rfl dX4_findBest_53 ?_
          refine lv_iload_n zhx zhb dX4_findBest_56 rfl (lv_at zhl 0 rfl) ?_
          obtain ⟨zv10, zhp, zhs⟩ := bnd_e zhs
          refine x_cVI (As := [.int zx3]) (rest := [.int zv9, .int zx3, .ref (h 68)]) C zhw zhl (cStock_numberIn l D cI h N zx3 zM4 zv10 zhp) (by decide) (by decide) kw_34_21 kw_24_8 kw_24_9 kw_2_0 kw_24_10 md_X8_numberIn rfl 40 (wX_c40 h cI zM4) rfl rfl rfl rfl (Nat.le_of_ble_eq_true rfl) dX4_findBest_57 (fun zH zlocs zhw hn9 => ?_)
          refine lv_isub zhx zhb dX4_findBest_60 ?_
          refine x_cSNV (As := [.ref (h 68), .int zx3, .int (zv9 - zv10)]) (rest := []) C zhw zhl (c_put l D cI (wX h cI) zM4 68 6 (h 68) (wX_c68 h cI zM4) (fun j v => wX_a68 h cI zM4 j v) (by decide) zx3 (zv9 - zv10)) (by decide) (by decide) (List.mem_of_getElem? (i := 27) rfl) kw_7_0 kw_1_2 kw_7_1 md_X11_put rfl rfl (Nat.le_of_ble_eq_true rfl) dX4_findBest_61 (fun zH zlocs zhw => ?_)
          obtain ⟨zM11, ze9, zhs⟩ := ltM_e zhs
          rw [← ze9] at zhw; clear ze9
          obtain ⟨zv12, ze9, zhs⟩ := ltI_e zhs
          refine lv_iinc (v := zv12) (lv' := [(3, .int zv12), (0, .ref (h 66)), (2, .int a2)]) zhx zhb dX4_findBest_64 zhl (k := 0) rfl (by rw [ze9]; rfl) (by decide) rfl (fun zls zhl => ?_)
          clear ze9
          refine lv_goto (tgt := 13) zhx zhb dX4_findBest_67 (by decide) ?_
          cases zhs
          exact zih zv12 zM11 zq (itk_l zhq) k13_70 zH zlocs zls zhl zhw
  refine hloop13 N 0 zM2 zq13 zhq13 (fun zM14 zhqe zH zlocs zls zhl zhw => ?_) zH zlocs zls (lv_sub zhl [0, 1, 3] rfl) zhw
  · subst zhqe
    refine lv_aload_n zhx zhb dX4_findBest_70 rfl (lv_at zhl 0 rfl) ?_
    refine lv_iconst (v := 0) zhx zhb dX4_findBest_71 (by decide) ?_
    refine lv_aload_n zhx zhb dX4_findBest_72 rfl (lv_at zhl 0 rfl) ?_
    refine lv_iload_n zhx zhb dX4_findBest_73 rfl (lv_at zhl 1 rfl) ?_
    obtain ⟨⟨zv15, zM16⟩, zhp, zhs⟩ := bnd_e zhs
    try dsimp only at zhs
    refine x_cVI (As := [.int a2]) (rest := [.int 0, .ref (h 66)]) C zhw zhl (cLayer_lookAtFoods l D cI h N a2 zM14 zv15 zM16 zhp) (by decide) (by decide) kw_34_22 kw_34_23 kw_35_0 kw_2_18 kw_35_1 md_X4_lookAtFoods rfl 66 (wX_c66 h cI zM14) rfl rfl rfl rfl (Nat.le_of_ble_eq_true rfl) dX4_findBest_74 (fun zH zlocs zhw hn9 => ?_)
    obtain ⟨zM17, zhp, zhs⟩ := bnd_e zhs
    refine x_cSV (As := [.ref (h 66), .int 0, .int zv15]) (rest := []) C zhw zhl (cLayer_tryFood l D cI h N 6 0 zv15 zM16 zM17 zhp) (by decide) (by decide) kw_35_6 kw_35_7 kw_2_18 kw_35_8 md_X4_tryFood rfl rfl (Nat.le_of_ble_eq_true rfl) dX4_findBest_77 (fun zH zlocs zhw => ?_)
    cases zhs
    exact zhret _ _ _ _ dX4_findBest_80 zhw

-- OffFirst$Layer.cellFor in (66, ())
def sLayer_cellFor (a1 : Int32) (M : Mm) : Option Int32 :=
  some (atf 4 (M 70) a1)
set_option maxHeartbeats 4000000 in
set_option maxRecDepth 100000 in
theorem cLayer_cellFor (l : Launch) (D : va_G) (cI : ClassId) (h : Nat → Nat) (a1 : Int32) (M : Mm) (r : Int32) (zhs : sLayer_cellFor a1 M = some r) : CtI l yX4_cellFor cX4_cellFor 2 (some .int) 2 D cI (wX h cI M) (wX h cI M) [.ref (h 66), .int a1] r := by
  unfold sLayer_cellFor at zhs
  refine CtI_of (by decide +kernel) (Nat.le_of_ble_eq_true rfl) ⟨_, rfl⟩ ?_
  intro p e s m args below meth c A Q zls zH zlocs C zhw zhl zhret
  have zhx := C.1
  have zhb := C.2.1
  have zhown := C.2.2.2.2.1
  have zhtB := C.2.2.2.2.2.2.1
  have zhl : lv_has zls 2 [(0, .ref (h 66)), (1, .int a1)] := zhl
  refine lv_aload_n zhx zhb dX4_cellFor_0 rfl (lv_at zhl 0 rfl) ?_
  refine x_get C zhw inlX4 rfl 66 4 (by decide) kw_6_12 rfl (wX_c66 h cI M) rfl dX4_cellFor_1 ?_
  refine lv_iload_n zhx zhb dX4_cellFor_4 rfl (lv_at zhl 1 rfl) ?_
  refine x_cSNI (As := [.ref (h 70), .int a1]) (rest := []) C zhw zhl (c_at l D cI (wX h cI M) 70 4 (h 70) (M 70) (wX_c70 h cI M) (by decide) a1) (by decide) (by decide) (List.mem_of_getElem? (i := 28) rfl) kw_7_7 kw_1_2 kw_7_8 md_X11_at rfl rfl (Nat.le_of_ble_eq_true rfl) dX4_cellFor_5 (fun zH zlocs zhw hn9 => ?_)
  cases zhs
  exact zhret _ _ _ _ dX4_cellFor_8 (by rfl) zhw

-- OffFirst.lie in (0, ())
def sOff_lie (N : Nat) (a1 : Int32) (a2 : Int32) (a3 : Int32) (M : Mm) : Option (Int32 × Mm) :=
  (sOff_isWithin a1 1 4).bind fun zv1 =>
  (if zv1 = 0 then some ((-1), M)
  else (sOff_isWithin a2 0 500).bind fun zv2 =>
  (if zv2 = 0 then some ((-1), M)
  else (sOff_isWithin a3 (-1) (a1 - 1)).bind fun zv3 =>
  (if zv3 = 0 then some ((-1), M)
  else (sStock_numberThere N M).bind fun zv4 =>
  (if a1 ≤ zv4 then (sLayer_findBest N a1 a2 M).bind fun zM5 =>
  (if 0 ≤ a3 then (sLayer_cellFor a3 zM5).bind fun zv7 =>
  some (zv7, zM5)
  else some ((zM5 66 6), zM5))
  else some ((-4), M)))))
set_option maxHeartbeats 4000000 in
set_option maxRecDepth 100000 in
theorem cOff_lie (l : Launch) (D : va_G) (cI : ClassId) (h : Nat → Nat) (N : Nat) (a1 : Int32) (a2 : Int32) (a3 : Int32) (M : Mm) (r : Int32) (M' : Mm) (zhs : sOff_lie N a1 a2 a3 M = some (r, M')) : CtI l yX11_lie cX11_lie 4 (some .int) 11 D cI (wX h cI M) (wX h cI M') [.ref (h 0), .int a1, .int a2, .int a3] r := by
  unfold sOff_lie at zhs
  refine CtI_of (by decide +kernel) (Nat.le_of_ble_eq_true rfl) ⟨_, rfl⟩ ?_
  intro p e s m args below meth c A Q zls zH zlocs C zhw zhl zhret
  have zhx := C.1
  have zhb := C.2.1
  have zhown := C.2.2.2.2.1
  have zhtB := C.2.2.2.2.2.2.1
  have zhl : lv_has zls 4 [(0, .ref (h 0)), (1, .int a1), (2, .int a2), (3, .int a3)] := zhl
  refine lv_iload_n zhx zhb dX11_lie_0 rfl (lv_at zhl 1 rfl) ?_
  refine lv_iconst (v := 1) zhx zhb dX11_lie_1 (by decide) ?_
  refine lv_iconst (v := 4) zhx zhb dX11_lie_2 (by decide) ?_
  obtain ⟨zv1, zhp, zhs⟩ := bnd_e zhs
  refine x_cSI (As := [.int a1, .int 1, .int 4]) (rest := []) C zhw zhl (cOff_isWithin l D cI h a1 1 4 M zv1 zhp) (by decide) (by decide) kw_9_22 kw_9_23 kw_1_2 kw_10_0 md_X11_isWithin rfl rfl (Nat.le_of_ble_eq_true rfl) dX11_lie_3 (fun zH zlocs zhw hzv1 => ?_)
  refine lv_if_eq (tgt := 31) zhx zhb dX11_lie_6 (by decide) (fun zc9 => ?_) (fun zc9 => ?_)
  · replace zhs := br_T zhs zc9
    refine lv_iconst (v := (-1)) zhx zhb dX11_lie_31 (by decide) ?_
    cases zhs
    exact zhret _ _ _ _ dX11_lie_32 (by rfl) zhw
  · replace zhs := br_F zhs zc9
    refine lv_iload_n zhx zhb dX11_lie_9 rfl (lv_at zhl 2 rfl) ?_
    refine lv_iconst (v := 0) zhx zhb dX11_lie_10 (by decide) ?_
    refine lv_sipush (v := 500) zhx zhb dX11_lie_11 (by decide) ?_
    obtain ⟨zv2, zhp, zhs⟩ := bnd_e zhs
    refine x_cSI (As := [.int a2, .int 0, .int 500]) (rest := []) C zhw zhl (cOff_isWithin l D cI h a2 0 500 M zv2 zhp) (by decide) (by decide) kw_9_22 kw_9_23 kw_1_2 kw_10_0 md_X11_isWithin rfl rfl (Nat.le_of_ble_eq_true rfl) dX11_lie_14 (fun zH zlocs zhw hzv2 => ?_)
    refine lv_if_eq (tgt := 31) zhx zhb dX11_lie_17 (by decide) (fun zc9 => ?_) (fun zc9 => ?_)
    · replace zhs := br_T zhs zc9
      refine lv_iconst (v := (-1)) zhx zhb dX11_lie_31 (by decide) ?_
      cases zhs
      exact zhret _ _ _ _ dX11_lie_32 (by rfl) zhw
    · replace zhs := br_F zhs zc9
      refine lv_iload_n zhx zhb dX11_lie_20 rfl (lv_at zhl 3 rfl) ?_
      refine lv_iconst (v := (-1)) zhx zhb dX11_lie_21 (by decide) ?_
      refine lv_iload_n zhx zhb dX11_lie_22 rfl (lv_at zhl 1 rfl) ?_
      refine lv_iconst (v := 1) zhx zhb dX11_lie_23 (by decide) ?_
      refine lv_isub zhx zhb dX11_lie_24 ?_
      obtain ⟨zv3, zhp, zhs⟩ := bnd_e zhs
      refine x_cSI (As := [.int a3, .int (-1), .int (a1 - 1)]) (rest := []) C zhw zhl (cOff_isWithin l D cI h a3 (-1) (a1 - 1) M zv3 zhp) (by decide) (by decide) kw_9_22 kw_9_23 kw_1_2 kw_10_0 md_X11_isWithin rfl rfl (Nat.le_of_ble_eq_true rfl) dX11_lie_25 (fun zH zlocs zhw hzv3 => ?_)
      refine lv_if_ne (tgt := 33) zhx zhb dX11_lie_28 (by decide) (fun zc9 => ?_) (fun zc9 => ?_)
      · replace zhs := br_F zhs zc9
        refine lv_aload_n zhx zhb dX11_lie_33 rfl (lv_at zhl 0 rfl) ?_
        refine x_get C zhw inlX11 rfl 0 3 (by decide) kw_2_1 rfl (wX_c0 h cI M) rfl dX11_lie_34 ?_
        obtain ⟨zv4, zhp, zhs⟩ := bnd_e zhs
        refine x_cVI (As := []) (rest := []) C zhw zhl (cStock_numberThere l D cI h N M zv4 zhp) (by decide) (by decide) kw_34_7 kw_34_8 kw_34_9 kw_2_0 kw_34_10 md_X8_numberThere rfl 40 (wX_c40 h cI M) rfl rfl rfl rfl (Nat.le_of_ble_eq_true rfl) dX11_lie_37 (fun zH zlocs zhw hn9 => ?_)
        refine lv_iload_n zhx zhb dX11_lie_40 rfl (lv_at zhl 1 rfl) ?_
        refine lv_icmp_ge (tgt := 47) zhx zhb dX11_lie_41 (by decide) (fun zc9 => ?_) (fun zc9 => ?_)
        · replace zhs := br_T zhs zc9
          refine lv_aload_n zhx zhb dX11_lie_47 rfl (lv_at zhl 0 rfl) ?_
          refine x_get C zhw inlX11 rfl 0 10 (by decide) kw_2_19 rfl (wX_c0 h cI M) rfl dX11_lie_48 ?_
          refine lv_iload_n zhx zhb dX11_lie_51 rfl (lv_at zhl 1 rfl) ?_
          refine lv_iload_n zhx zhb dX11_lie_52 rfl (lv_at zhl 2 rfl) ?_
          obtain ⟨zM5, zhp, zhs⟩ := bnd_e zhs
          refine x_cVV (As := [.int a1, .int a2]) (rest := []) C zhw zhl (cLayer_findBest l D cI h N a1 a2 M zM5 zhp) (by decide) (by decide) kw_34_13 kw_34_14 kw_34_15 kw_2_18 kw_34_16 md_X4_findBest rfl 66 (wX_c66 h cI M) rfl rfl rfl rfl (Nat.le_of_ble_eq_true rfl) dX11_lie_53 (fun zH zlocs zhw => ?_)
          refine lv_iload_n zhx zhb dX11_lie_56 rfl (lv_at zhl 3 rfl) ?_
          refine lv_if_ge (tgt := 70) zhx zhb dX11_lie_57 (by decide) (fun zc9 => ?_) (fun zc9 => ?_)
          · replace zhs := br_T zhs zc9
            refine lv_aload_n zhx zhb dX11_lie_70 rfl (lv_at zhl 0 rfl) ?_
            refine x_get C zhw inlX11 rfl 0 10 (by decide) kw_2_19 rfl (wX_c0 h cI zM5) rfl dX11_lie_71 ?_
            refine lv_iload_n zhx zhb dX11_lie_74 rfl (lv_at zhl 3 rfl) ?_
            obtain ⟨zv7, zhp, zhs⟩ := bnd_e zhs
            refine x_cVI (As := [.int a3]) (rest := []) C zhw zhl (cLayer_cellFor l D cI h a3 zM5 zv7 zhp) (by decide) (by decide) kw_35_13 kw_35_14 kw_35_15 kw_2_18 kw_35_16 md_X4_cellFor rfl 66 (wX_c66 h cI zM5) rfl rfl rfl rfl (Nat.le_of_ble_eq_true rfl) dX11_lie_75 (fun zH zlocs zhw hn9 => ?_)
            cases zhs
            exact zhret _ _ _ _ dX11_lie_78 (by rfl) zhw
          · replace zhs := br_F zhs zc9
            refine lv_aload_n zhx zhb dX11_lie_60 rfl (lv_at zhl 0 rfl) ?_
            refine x_get C zhw inlX11 rfl 0 10 (by decide) kw_2_19 rfl (wX_c0 h cI zM5) rfl dX11_lie_61 ?_
            refine x_getN C zhw inlX4 rfl 66 6 (by decide) (List.mem_of_getElem? (i := 39) rfl) rfl (wX_c66 h cI zM5) rfl dX11_lie_64 ?_
            refine lv_goto (tgt := 78) zhx zhb dX11_lie_67 (by decide) ?_
            cases zhs
            exact zhret _ _ _ _ dX11_lie_78 (by rfl) zhw
        · replace zhs := br_F zhs zc9
          refine lv_bipush (v := (-4)) zhx zhb dX11_lie_44 (by decide) ?_
          cases zhs
          exact zhret _ _ _ _ dX11_lie_46 (by rfl) zhw
      · replace zhs := br_T zhs zc9
        refine lv_iconst (v := (-1)) zhx zhb dX11_lie_31 (by decide) ?_
        cases zhs
        exact zhret _ _ _ _ dX11_lie_32 (by rfl) zhw

