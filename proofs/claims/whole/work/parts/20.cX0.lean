-- OffFirst.isWithin in (None, ())
def sOff_isWithin (a1 : Int32) (a2 : Int32) (a3 : Int32) : Option Int32 :=
  (if a1 < a2 then some 0
  else (if a3 < a1 then some 0
  else some 1))
set_option maxHeartbeats 4000000 in
set_option maxRecDepth 100000 in
theorem cOff_isWithin (l : Launch) (D : va_G) (cI : ClassId) (h : Nat → Nat) (a1 : Int32) (a2 : Int32) (a3 : Int32) (M : Mm) (r : Int32) (zhs : sOff_isWithin a1 a2 a3 = some r) : CtI l yX11_isWithin cX11_isWithin 3 (some .boolean) 1 D cI (wX h cI M) (wX h cI M) [.int a1, .int a2, .int a3] r := by
  unfold sOff_isWithin at zhs
  refine CtI_of (by decide +kernel) (Nat.le_of_ble_eq_true rfl) ⟨_, rfl⟩ ?_
  intro p e s m args below meth c A Q zls zH zlocs C zhw zhl zhret
  have zhx := C.1
  have zhb := C.2.1
  have zhown := C.2.2.2.2.1
  have zhtB := C.2.2.2.2.2.2.1
  have zhl : lv_has zls 3 [(0, .int a1), (1, .int a2), (2, .int a3)] := zhl
  refine lv_iload_n zhx zhb dX11_isWithin_0 rfl (lv_at zhl 0 rfl) ?_
  refine lv_iload_n zhx zhb dX11_isWithin_1 rfl (lv_at zhl 1 rfl) ?_
  refine lv_icmp_lt (tgt := 14) zhx zhb dX11_isWithin_2 (by decide) (fun zc9 => ?_) (fun zc9 => ?_)
  · replace zhs := br_T zhs zc9
    refine lv_iconst (v := 0) zhx zhb dX11_isWithin_14 (by decide) ?_
    cases zhs
    exact zhret _ _ _ _ dX11_isWithin_15 (by rfl) zhw
  · replace zhs := br_F zhs zc9
    refine lv_iload_n zhx zhb dX11_isWithin_5 rfl (lv_at zhl 0 rfl) ?_
    refine lv_iload_n zhx zhb dX11_isWithin_6 rfl (lv_at zhl 2 rfl) ?_
    refine lv_icmp_gt (tgt := 14) zhx zhb dX11_isWithin_7 (by decide) (fun zc9 => ?_) (fun zc9 => ?_)
    · replace zhs := br_T zhs zc9
      refine lv_iconst (v := 0) zhx zhb dX11_isWithin_14 (by decide) ?_
      cases zhs
      exact zhret _ _ _ _ dX11_isWithin_15 (by rfl) zhw
    · replace zhs := br_F zhs zc9
      refine lv_iconst (v := 1) zhx zhb dX11_isWithin_10 (by decide) ?_
      refine lv_goto (tgt := 15) zhx zhb dX11_isWithin_11 (by decide) ?_
      cases zhs
      exact zhret _ _ _ _ dX11_isWithin_15 (by rfl) zhw

-- OffFirst$Text.append in (1, ())
def LText_append_19_10 (N : Nat) (a2 : Int64) (zx2 : Int32) (zM3 : Mm) : Option ((Int32 × Mm) ⊕ ((Mm))) :=
  (if zx2 < 0 then some (.inr zM3)
  else ltM (putf 400 zM3 2 (zM3 1 1) (Int64.toInt32 ((ushL a2 (8 * zx2)) &&& 255))) fun zM7 =>
  ltM (mset zM7 1 1 ((zM7 1 1) + 1)) fun zM8 =>
  ltI (zx2 + (-1)) fun zv9 =>
  some (.inl (zv9, zM8)))
def sText_append (N : Nat) (a1 : Int32) (a2 : Int64) (M : Mm) : Option (Int32 × Mm) :=
  (if a1 ≤ (400 - (M 1 1)) then ltI (a1 - 1) fun zv1 =>
  (itr (fun z : Int32 × Mm => LText_append_19_10 N a2 z.1 z.2) N (zv1, M)).bind fun zM11 =>
  some (1, zM11)
  else some (0, M))
set_option maxHeartbeats 4000000 in
set_option maxRecDepth 100000 in
theorem cText_append (l : Launch) (D : va_G) (cI : ClassId) (h : Nat → Nat) (N : Nat) (a1 : Int32) (a2 : Int64) (M : Mm) (r : Int32) (M' : Mm) (zhs : sText_append N a1 a2 M = some (r, M')) : CtI l yX9_append cX9_append 5 (some .boolean) 2 D cI (wX h cI M) (wX h cI M') [.ref (h 1), .int a1, .long a2] r := by
  unfold sText_append at zhs
  refine CtI_of (by decide +kernel) (Nat.le_of_ble_eq_true rfl) ⟨_, rfl⟩ ?_
  intro p e s m args below meth c A Q zls zH zlocs C zhw zhl zhret
  have zhx := C.1
  have zhb := C.2.1
  have zhown := C.2.2.2.2.1
  have zhtB := C.2.2.2.2.2.2.1
  have zhl : lv_has zls 5 [(0, .ref (h 1)), (1, .int a1), (2, .long a2)] := zhl
  refine lv_iload_n zhx zhb dX9_append_0 rfl (lv_at zhl 1 rfl) ?_
  refine lv_sipush (v := 400) zhx zhb dX9_append_1 (by decide) ?_
  refine lv_aload_n zhx zhb dX9_append_4 rfl (lv_at zhl 0 rfl) ?_
  refine x_get C zhw inlX9 rfl 1 1 (by decide) kw_10_5 rfl (wX_c1 h cI M) rfl dX9_append_5 ?_
  refine lv_isub zhx zhb dX9_append_8 ?_
  refine lv_icmp_le (tgt := 14) zhx zhb dX9_append_9 (by decide) (fun zc9 => ?_) (fun zc9 => ?_)
  · replace zhs := br_T zhs zc9
    refine lv_iload_n zhx zhb dX9_append_14 rfl (lv_at zhl 1 rfl) ?_
    refine lv_iconst (v := 1) zhx zhb dX9_append_15 (by decide) ?_
    refine lv_isub zhx zhb dX9_append_16 ?_
    obtain ⟨zv1, ze9, zhs⟩ := ltI_e zhs
    refine lv_topi (fun zy9 ze8 => ?_)
    obtain rfl : zv1 = zy9 := ze9.trans ze8.symm
    clear ze9 ze8
    refine lv_istore (lv' := [(4, .int zv1), (0, .ref (h 1)), (1, .int a1), (2, .long a2)]) zhx zhb dX9_append_17 zhl (by decide) rfl (fun zls zhl => ?_)
    obtain ⟨zq10, zhq10, zhs⟩ := bnd_e zhs
    have hloop10 : ∀ (zn : Nat) (zx2 : Int32) (zM3 : Mm) (zq : (Mm)), itr (fun z : Int32 × Mm => LText_append_19_10 N a2 z.1 z.2) zn (zx2, zM3) = some zq → (∀ (zy1 : Mm), zy1 = zq → ∀ (zH : Heap) (zlocs : List Loc) (zls : Array Slot), lv_has zls 5 [] → Hw D (wX h cI zy1) A s.heap zH zlocs → W p l e (RM 2) s m args below meth c zH zlocs 0 0 Q (F0 m 63 zls [])) → ∀ (zH : Heap) (zlocs : List Loc) (zls : Array Slot), lv_has zls 5 [(4, .int zx2), (0, .ref (h 1)), (2, .long a2)] → Hw D (wX h cI zM3) A s.heap zH zlocs → W p l e (RM 2) s m args below meth c zH zlocs 0 0 Q (F0 m 19 zls []) := by
      intro zn
      induction zn with
      | zero => intro zx2 zM3 zq zhq; exact absurd zhq (fun h9 => itr_0 h9)
      | succ zn zih =>
          intro zx2 zM3 zq zhq k19_63 zH zlocs zls zhl zhw
          obtain ⟨zy9, zhs, zhq⟩ := itr_s zhq
          replace zhs : LText_append_19_10 N a2 zx2 zM3 = some zy9 := zhs
          unfold LText_append_19_10 at zhs
          refine lv_iload zhx zhb dX9_append_19 (lv_at zhl 0 rfl) ?_
          refine lv_if_lt (tgt := 63) zhx zhb dX9_append_21 (by decide) (fun zc9 => ?_) (fun zc9 => ?_)
          · replace zhs := br_T zhs zc9
            cases zhs
            exact k19_63 zM3 (itk_q zhq) zH zlocs zls (lv_sub zhl [] rfl) zhw
          · replace zhs := br_F zhs zc9
            refine lv_aload_n zhx zhb dX9_append_24 rfl (lv_at zhl 1 rfl) ?_
            refine x_get C zhw inlX9 rfl 1 0 (by decide) kw_3_4 rfl (wX_c1 h cI zM3) rfl dX9_append_25 ?_
            refine lv_aload_n zhx zhb dX9_append_28 rfl (lv_at zhl 1 rfl) ?_
            refine x_get C zhw inlX9 rfl 1 1 (by decide) kw_10_5 rfl (wX_c1 h cI zM3) rfl dX9_append_29 ?_
            refine lv_lload_n zhx zhb dX9_append_32 rfl (lv_at zhl 2 rfl) ?_
            refine lv_bipush (v := 8) zhx zhb dX9_append_33 (by decide) ?_
            refine lv_iload zhx zhb dX9_append_35 (lv_at zhl 0 rfl) ?_
            refine lv_imul zhx zhb dX9_append_37 ?_
            refine lv_lushr zhx zhb dX9_append_38 rfl ?_
            refine lv_ldc2 zhx zhb zhown (zhtB _ kw_10_6) dX9_append_39 ?_
            refine lv_land zhx zhb dX9_append_42 ?_
            refine lv_l2i zhx zhb dX9_append_43 rfl ?_
            refine x_cSNV (As := [.ref (h 2), .int (zM3 1 1), .int (Int64.toInt32 ((ushL a2 (8 * zx2)) &&& 255))]) (rest := []) C zhw zhl (c_put l D cI (wX h cI) zM3 2 400 (h 2) (wX_c2 h cI zM3) (fun j v => wX_a2 h cI zM3 j v) (by decide) (zM3 1 1) (Int64.toInt32 ((ushL a2 (8 * zx2)) &&& 255))) (by decide) (by decide) (List.mem_of_getElem? (i := 11) rfl) kw_7_0 kw_1_2 kw_7_1 md_X11_put rfl rfl (Nat.le_of_ble_eq_true rfl) dX9_append_44 (fun zH zlocs zhw => ?_)
            obtain ⟨zM7, ze9, zhs⟩ := ltM_e zhs
            rw [← ze9] at zhw; clear ze9
            refine lv_aload_n zhx zhb dX9_append_47 rfl (lv_at zhl 1 rfl) ?_
            refine lv_dup zhx zhb dX9_append_48 rfl ?_
            refine x_get C zhw inlX9 rfl 1 1 (by decide) kw_10_5 rfl (wX_c1 h cI zM7) rfl dX9_append_49 ?_
            refine lv_iconst (v := 1) zhx zhb dX9_append_52 (by decide) ?_
            refine lv_iadd zhx zhb dX9_append_53 ?_
            refine x_put C zhw inlX9 rfl tyX9_ok nmX9 1 1 (by decide) kw_10_5 rfl rfl rfl (wX_c1 h cI zM7) (Nat.le_of_ble_eq_true rfl) (wX_s1_1 h cI zM7 _) dX9_append_54 (fun zH zlocs zhw => ?_)
            obtain ⟨zM8, ze9, zhs⟩ := ltM_e zhs
            rw [← ze9] at zhw; clear ze9
            obtain ⟨zv9, ze9, zhs⟩ := ltI_e zhs
            refine lv_iinc (v := zv9) (lv' := [(4, .int zv9), (0, .ref (h 1)), (2, .long a2)]) zhx zhb dX9_append_57 zhl (k := 0) rfl (by rw [ze9]; rfl) (by decide) rfl (fun zls zhl => ?_)
            clear ze9
            refine lv_goto (tgt := 19) zhx zhb dX9_append_60 (by decide) ?_
            cases zhs
            exact zih zv9 zM8 zq (itk_l zhq) k19_63 zH zlocs zls zhl zhw
    refine hloop10 N zv1 M zq10 zhq10 (fun zM11 zhqe zH zlocs zls zhl zhw => ?_) zH zlocs zls (lv_sub zhl [0, 1, 3] rfl) zhw
    · subst zhqe
      refine lv_iconst (v := 1) zhx zhb dX9_append_63 (by decide) ?_
      cases zhs
      exact zhret _ _ _ _ dX9_append_64 (by rfl) zhw
  · replace zhs := br_F zhs zc9
    refine lv_iconst (v := 0) zhx zhb dX9_append_12 (by decide) ?_
    cases zhs
    exact zhret _ _ _ _ dX9_append_13 (by rfl) zhw

-- OffFirst.write in (0, ())
def sOff_write (N : Nat) (a1 : Int32) (a2 : Int64) (M : Mm) : Option (Int32 × Mm) :=
  (sOff_isWithin a1 1 8).bind fun zv1 =>
  (if zv1 = 0 then some ((-1), M)
  else (sText_append N a1 a2 M).bind fun (zv2, zM3) =>
  (if zv2 = 0 then some ((-3), zM3)
  else some ((zM3 1 1), zM3)))
set_option maxHeartbeats 4000000 in
set_option maxRecDepth 100000 in
theorem cOff_write (l : Launch) (D : va_G) (cI : ClassId) (h : Nat → Nat) (N : Nat) (a1 : Int32) (a2 : Int64) (M : Mm) (r : Int32) (M' : Mm) (zhs : sOff_write N a1 a2 M = some (r, M')) : CtI l yX11_write cX11_write 4 (some .int) 3 D cI (wX h cI M) (wX h cI M') [.ref (h 0), .int a1, .long a2] r := by
  unfold sOff_write at zhs
  refine CtI_of (by decide +kernel) (Nat.le_of_ble_eq_true rfl) ⟨_, rfl⟩ ?_
  intro p e s m args below meth c A Q zls zH zlocs C zhw zhl zhret
  have zhx := C.1
  have zhb := C.2.1
  have zhown := C.2.2.2.2.1
  have zhtB := C.2.2.2.2.2.2.1
  have zhl : lv_has zls 4 [(0, .ref (h 0)), (1, .int a1), (2, .long a2)] := zhl
  refine lv_iload_n zhx zhb dX11_write_0 rfl (lv_at zhl 1 rfl) ?_
  refine lv_iconst (v := 1) zhx zhb dX11_write_1 (by decide) ?_
  refine lv_bipush (v := 8) zhx zhb dX11_write_2 (by decide) ?_
  obtain ⟨zv1, zhp, zhs⟩ := bnd_e zhs
  refine x_cSI (As := [.int a1, .int 1, .int 8]) (rest := []) C zhw zhl (cOff_isWithin l D cI h a1 1 8 M zv1 zhp) (by decide) (by decide) kw_9_22 kw_9_23 kw_1_2 kw_10_0 md_X11_isWithin rfl rfl (Nat.le_of_ble_eq_true rfl) dX11_write_4 (fun zH zlocs zhw hzv1 => ?_)
  refine lv_if_ne (tgt := 12) zhx zhb dX11_write_7 (by decide) (fun zc9 => ?_) (fun zc9 => ?_)
  · replace zhs := br_F zhs zc9
    refine lv_aload_n zhx zhb dX11_write_12 rfl (lv_at zhl 0 rfl) ?_
    refine x_get C zhw inlX11 rfl 0 0 (by decide) kw_1_16 rfl (wX_c0 h cI M) rfl dX11_write_13 ?_
    refine lv_iload_n zhx zhb dX11_write_16 rfl (lv_at zhl 1 rfl) ?_
    refine lv_lload_n zhx zhb dX11_write_17 rfl (lv_at zhl 2 rfl) ?_
    obtain ⟨⟨zv2, zM3⟩, zhp, zhs⟩ := bnd_e zhs
    try dsimp only at zhs
    refine x_cVI (As := [.int a1, .long a2]) (rest := []) C zhw zhl (cText_append l D cI h N a1 a2 M zv2 zM3 zhp) (by decide) (by decide) kw_10_1 kw_10_2 kw_10_3 kw_1_15 kw_10_4 md_X9_append rfl 1 (wX_c1 h cI M) rfl rfl rfl rfl (Nat.le_of_ble_eq_true rfl) dX11_write_18 (fun zH zlocs zhw hzv2 => ?_)
    refine lv_if_eq (tgt := 34) zhx zhb dX11_write_21 (by decide) (fun zc9 => ?_) (fun zc9 => ?_)
    · replace zhs := br_T zhs zc9
      refine lv_bipush (v := (-3)) zhx zhb dX11_write_34 (by decide) ?_
      cases zhs
      exact zhret _ _ _ _ dX11_write_36 (by rfl) zhw
    · replace zhs := br_F zhs zc9
      refine lv_aload_n zhx zhb dX11_write_24 rfl (lv_at zhl 0 rfl) ?_
      refine x_get C zhw inlX11 rfl 0 0 (by decide) kw_1_16 rfl (wX_c0 h cI zM3) rfl dX11_write_25 ?_
      refine x_getN C zhw inlX9 rfl 1 1 (by decide) (List.mem_of_getElem? (i := 1) rfl) rfl (wX_c1 h cI zM3) rfl dX11_write_28 ?_
      refine lv_goto (tgt := 36) zhx zhb dX11_write_31 (by decide) ?_
      cases zhs
      exact zhret _ _ _ _ dX11_write_36 (by rfl) zhw
  · replace zhs := br_T zhs zc9
    refine lv_iconst (v := (-1)) zhx zhb dX11_write_10 (by decide) ?_
    cases zhs
    exact zhret _ _ _ _ dX11_write_11 (by rfl) zhw

-- OffFirst.wipe in (0, ())
def sOff_wipe (M : Mm) : Option (Int32 × Mm) :=
  ltI (M 1 1) fun zv1 =>
  ltM (mset M 1 1 0) fun zM2 =>
  some (zv1, zM2)
set_option maxHeartbeats 4000000 in
set_option maxRecDepth 100000 in
theorem cOff_wipe (l : Launch) (D : va_G) (cI : ClassId) (h : Nat → Nat) (M : Mm) (r : Int32) (M' : Mm) (zhs : sOff_wipe M = some (r, M')) : CtI l yX11_wipe cX11_wipe 2 (some .int) 1 D cI (wX h cI M) (wX h cI M') [.ref (h 0)] r := by
  unfold sOff_wipe at zhs
  refine CtI_of (by decide +kernel) (Nat.le_of_ble_eq_true rfl) ⟨_, rfl⟩ ?_
  intro p e s m args below meth c A Q zls zH zlocs C zhw zhl zhret
  have zhx := C.1
  have zhb := C.2.1
  have zhown := C.2.2.2.2.1
  have zhtB := C.2.2.2.2.2.2.1
  have zhl : lv_has zls 2 [(0, .ref (h 0))] := zhl
  refine lv_aload_n zhx zhb dX11_wipe_0 rfl (lv_at zhl 0 rfl) ?_
  refine x_get C zhw inlX11 rfl 0 0 (by decide) kw_1_16 rfl (wX_c0 h cI M) rfl dX11_wipe_1 ?_
  refine x_getN C zhw inlX9 rfl 1 1 (by decide) (List.mem_of_getElem? (i := 1) rfl) rfl (wX_c1 h cI M) rfl dX11_wipe_4 ?_
  obtain ⟨zv1, ze9, zhs⟩ := ltI_e zhs
  refine lv_topi (fun zy9 ze8 => ?_)
  obtain rfl : zv1 = zy9 := ze9.trans ze8.symm
  clear ze9 ze8
  refine lv_istore_n (lv' := [(1, .int zv1), (0, .ref (h 0))]) zhx zhb dX11_wipe_7 rfl zhl (by decide) rfl (fun zls zhl => ?_)
  refine lv_aload_n zhx zhb dX11_wipe_8 rfl (lv_at zhl 1 rfl) ?_
  refine x_get C zhw inlX11 rfl 0 0 (by decide) kw_1_16 rfl (wX_c0 h cI M) rfl dX11_wipe_9 ?_
  refine lv_iconst (v := 0) zhx zhb dX11_wipe_12 (by decide) ?_
  refine x_putN C zhw inlX9 rfl tyX9_ok nmX9 1 1 (by decide) (List.mem_of_getElem? (i := 1) rfl) rfl rfl rfl (wX_c1 h cI M) (Nat.le_of_ble_eq_true rfl) (wX_s1_1 h cI M _) dX11_wipe_13 (fun zH zlocs zhw => ?_)
  obtain ⟨zM2, ze9, zhs⟩ := ltM_e zhs
  rw [← ze9] at zhw; clear ze9
  refine lv_iload_n zhx zhb dX11_wipe_16 rfl (lv_at zhl 0 rfl) ?_
  cases zhs
  exact zhret _ _ _ _ dX11_wipe_17 (by rfl) zhw

-- OffFirst$Cells.clear in (5, ())
def sCells_clear_d (M : Mm) : Option Mm :=
  ltM (mset M 5 3 0) fun zM1 =>
  ltM (mset zM1 5 4 0) fun zM2 =>
  some zM2
set_option maxHeartbeats 4000000 in
set_option maxRecDepth 100000 in
theorem cCells_clear_d (l : Launch) (D : va_G) (cI : ClassId) (h : Nat → Nat) (M : Mm) (M' : Mm) (zhs : sCells_clear_d M = some M') : CtV l yX0_clear cX0_clear 1 1 D cI (wX h cI M) (wX h cI M') [.ref (h 5)] := by
  unfold sCells_clear_d at zhs
  refine CtV_of (by decide +kernel) (Nat.le_of_ble_eq_true rfl) ?_
  intro p e s m args below meth c A Q zls zH zlocs C zhw zhl zhret
  have zhx := C.1
  have zhb := C.2.1
  have zhown := C.2.2.2.2.1
  have zhtB := C.2.2.2.2.2.2.1
  have zhl : lv_has zls 1 [(0, .ref (h 5))] := zhl
  refine lv_aload_n zhx zhb dX0_clear_0 rfl (lv_at zhl 0 rfl) ?_
  refine lv_iconst (v := 0) zhx zhb dX0_clear_1 (by decide) ?_
  refine x_put C zhw inlX0 rfl tyX0_ok nmX0 5 3 (by decide) kw_6_23 rfl rfl rfl (wX_c5 h cI M) (Nat.le_of_ble_eq_true rfl) (wX_s5_3 h cI M _) dX0_clear_2 (fun zH zlocs zhw => ?_)
  obtain ⟨zM1, ze9, zhs⟩ := ltM_e zhs
  rw [← ze9] at zhw; clear ze9
  refine lv_aload_n zhx zhb dX0_clear_5 rfl (lv_at zhl 0 rfl) ?_
  refine lv_iconst (v := 0) zhx zhb dX0_clear_6 (by decide) ?_
  refine x_put C zhw inlX0 rfl tyX0_ok nmX0 5 4 (by decide) kw_11_19 rfl rfl rfl (wX_c5 h cI zM1) (Nat.le_of_ble_eq_true rfl) (wX_s5_4 h cI zM1 _) dX0_clear_7 (fun zH zlocs zhw => ?_)
  obtain ⟨zM2, ze9, zhs⟩ := ltM_e zhs
  rw [← ze9] at zhw; clear ze9
  cases zhs
  exact zhret _ _ _ _ dX0_clear_10 zhw

-- OffFirst$Foods.clear in (9, ())
def LFoods_clear_d_7_8 (N : Nat) (zx2 : Int32) (zM3 : Mm) : Option ((Int32 × Mm) ⊕ ((Mm))) :=
  (if 4 ≤ zx2 then some (.inr zM3)
  else ltM (putf 4 zM3 16 zx2 0) fun zM6 =>
  ltI (zx2 + 1) fun zv7 =>
  some (.inl (zv7, zM6)))
def sFoods_clear_d (N : Nat) (M : Mm) : Option Mm :=
  ltM (mset M 9 7 0) fun zM1 =>
  (itr (fun z : Int32 × Mm => LFoods_clear_d_7_8 N z.1 z.2) N (0, zM1)).bind fun zM9 =>
  some zM9
set_option maxHeartbeats 4000000 in
set_option maxRecDepth 100000 in
theorem cFoods_clear_d (l : Launch) (D : va_G) (cI : ClassId) (h : Nat → Nat) (N : Nat) (M : Mm) (M' : Mm) (zhs : sFoods_clear_d N M = some M') : CtV l yX2_clear cX2_clear 2 2 D cI (wX h cI M) (wX h cI M') [.ref (h 9)] := by
  unfold sFoods_clear_d at zhs
  refine CtV_of (by decide +kernel) (Nat.le_of_ble_eq_true rfl) ?_
  intro p e s m args below meth c A Q zls zH zlocs C zhw zhl zhret
  have zhx := C.1
  have zhb := C.2.1
  have zhown := C.2.2.2.2.1
  have zhtB := C.2.2.2.2.2.2.1
  have zhl : lv_has zls 2 [(0, .ref (h 9))] := zhl
  refine lv_aload_n zhx zhb dX2_clear_0 rfl (lv_at zhl 0 rfl) ?_
  refine lv_iconst (v := 0) zhx zhb dX2_clear_1 (by decide) ?_
  refine x_put C zhw inlX2 rfl tyX2_ok nmX2 9 7 (by decide) kw_7_6 rfl rfl rfl (wX_c9 h cI M) (Nat.le_of_ble_eq_true rfl) (wX_s9_7 h cI M _) dX2_clear_2 (fun zH zlocs zhw => ?_)
  obtain ⟨zM1, ze9, zhs⟩ := ltM_e zhs
  rw [← ze9] at zhw; clear ze9
  refine lv_iconst (v := 0) zhx zhb dX2_clear_5 (by decide) ?_
  refine lv_istore_n (lv' := [(1, .int 0), (0, .ref (h 9))]) zhx zhb dX2_clear_6 rfl zhl (by decide) rfl (fun zls zhl => ?_)
  obtain ⟨zq8, zhq8, zhs⟩ := bnd_e zhs
  have hloop8 : ∀ (zn : Nat) (zx2 : Int32) (zM3 : Mm) (zq : (Mm)), itr (fun z : Int32 × Mm => LFoods_clear_d_7_8 N z.1 z.2) zn (zx2, zM3) = some zq → (∀ (zy1 : Mm), zy1 = zq → ∀ (zH : Heap) (zlocs : List Loc) (zls : Array Slot), lv_has zls 2 [] → Hw D (wX h cI zy1) A s.heap zH zlocs → W p l e (RM 2) s m args below meth c zH zlocs 0 0 Q (F0 m 27 zls [])) → ∀ (zH : Heap) (zlocs : List Loc) (zls : Array Slot), lv_has zls 2 [(1, .int zx2), (0, .ref (h 9))] → Hw D (wX h cI zM3) A s.heap zH zlocs → W p l e (RM 2) s m args below meth c zH zlocs 0 0 Q (F0 m 7 zls []) := by
    intro zn
    induction zn with
    | zero => intro zx2 zM3 zq zhq; exact absurd zhq (fun h9 => itr_0 h9)
    | succ zn zih =>
        intro zx2 zM3 zq zhq k7_27 zH zlocs zls zhl zhw
        obtain ⟨zy9, zhs, zhq⟩ := itr_s zhq
        replace zhs : LFoods_clear_d_7_8 N zx2 zM3 = some zy9 := zhs
        unfold LFoods_clear_d_7_8 at zhs
        refine lv_iload_n zhx zhb dX2_clear_7 rfl (lv_at zhl 0 rfl) ?_
        refine lv_iconst (v := 4) zhx zhb dX2_clear_8 (by decide) ?_
        refine lv_icmp_ge (tgt := 27) zhx zhb dX2_clear_9 (by decide) (fun zc9 => ?_) (fun zc9 => ?_)
        · replace zhs := br_T zhs zc9
          cases zhs
          exact k7_27 zM3 (itk_q zhq) zH zlocs zls (lv_sub zhl [] rfl) zhw
        · replace zhs := br_F zhs zc9
          refine lv_aload_n zhx zhb dX2_clear_12 rfl (lv_at zhl 1 rfl) ?_
          refine x_get C zhw inlX2 rfl 9 6 (by decide) kw_4_15 rfl (wX_c9 h cI zM3) rfl dX2_clear_13 ?_
          refine lv_iload_n zhx zhb dX2_clear_16 rfl (lv_at zhl 0 rfl) ?_
          refine lv_iconst (v := 0) zhx zhb dX2_clear_17 (by decide) ?_
          refine x_cSNV (As := [.ref (h 16), .int zx2, .int 0]) (rest := []) C zhw zhl (c_put l D cI (wX h cI) zM3 16 4 (h 16) (wX_c16 h cI zM3) (fun j v => wX_a16 h cI zM3 j v) (by decide) zx2 0) (by decide) (by decide) (List.mem_of_getElem? (i := 8) rfl) kw_7_0 kw_1_2 kw_7_1 md_X11_put rfl rfl (Nat.le_of_ble_eq_true rfl) dX2_clear_18 (fun zH zlocs zhw => ?_)
          obtain ⟨zM6, ze9, zhs⟩ := ltM_e zhs
          rw [← ze9] at zhw; clear ze9
          obtain ⟨zv7, ze9, zhs⟩ := ltI_e zhs
          refine lv_iinc (v := zv7) (lv' := [(1, .int zv7), (0, .ref (h 9))]) zhx zhb dX2_clear_21 zhl (k := 0) rfl (by rw [ze9]; rfl) (by decide) rfl (fun zls zhl => ?_)
          clear ze9
          refine lv_goto (tgt := 7) zhx zhb dX2_clear_24 (by decide) ?_
          cases zhs
          exact zih zv7 zM6 zq (itk_l zhq) k7_27 zH zlocs zls zhl zhw
  refine hloop8 N 0 zM1 zq8 zhq8 (fun zM9 zhqe zH zlocs zls zhl zhw => ?_) zH zlocs zls zhl zhw
  · subst zhqe
    cases zhs
    exact zhret _ _ _ _ dX2_clear_27 zhw

-- OffFirst$Party.clear in (19, ())
def sParty_clear_d (M : Mm) : Option Mm :=
  ltM (mset M 19 2 0) fun zM1 =>
  ltM (mset zM1 19 3 10) fun zM2 =>
  ltM (mset zM2 19 4 20) fun zM3 =>
  some zM3
set_option maxHeartbeats 4000000 in
set_option maxRecDepth 100000 in
theorem cParty_clear_d (l : Launch) (D : va_G) (cI : ClassId) (h : Nat → Nat) (M : Mm) (M' : Mm) (zhs : sParty_clear_d M = some M') : CtV l yX5_clear cX5_clear 1 1 D cI (wX h cI M) (wX h cI M') [.ref (h 19)] := by
  unfold sParty_clear_d at zhs
  refine CtV_of (by decide +kernel) (Nat.le_of_ble_eq_true rfl) ?_
  intro p e s m args below meth c A Q zls zH zlocs C zhw zhl zhret
  have zhx := C.1
  have zhb := C.2.1
  have zhown := C.2.2.2.2.1
  have zhtB := C.2.2.2.2.2.2.1
  have zhl : lv_has zls 1 [(0, .ref (h 19))] := zhl
  refine lv_aload_n zhx zhb dX5_clear_0 rfl (lv_at zhl 0 rfl) ?_
  refine lv_iconst (v := 0) zhx zhb dX5_clear_1 (by decide) ?_
  refine x_put C zhw inlX5 rfl tyX5_ok nmX5 19 2 (by decide) kw_12_4 rfl rfl rfl (wX_c19 h cI M) (Nat.le_of_ble_eq_true rfl) (wX_s19_2 h cI M _) dX5_clear_2 (fun zH zlocs zhw => ?_)
  obtain ⟨zM1, ze9, zhs⟩ := ltM_e zhs
  rw [← ze9] at zhw; clear ze9
  refine lv_aload_n zhx zhb dX5_clear_5 rfl (lv_at zhl 0 rfl) ?_
  refine lv_bipush (v := 10) zhx zhb dX5_clear_6 (by decide) ?_
  refine x_put C zhw inlX5 rfl tyX5_ok nmX5 19 3 (by decide) kw_4_21 rfl rfl rfl (wX_c19 h cI zM1) (Nat.le_of_ble_eq_true rfl) (wX_s19_3 h cI zM1 _) dX5_clear_8 (fun zH zlocs zhw => ?_)
  obtain ⟨zM2, ze9, zhs⟩ := ltM_e zhs
  rw [← ze9] at zhw; clear ze9
  refine lv_aload_n zhx zhb dX5_clear_11 rfl (lv_at zhl 0 rfl) ?_
  refine lv_bipush (v := 20) zhx zhb dX5_clear_12 (by decide) ?_
  refine x_put C zhw inlX5 rfl tyX5_ok nmX5 19 4 (by decide) kw_4_22 rfl rfl rfl (wX_c19 h cI zM2) (Nat.le_of_ble_eq_true rfl) (wX_s19_4 h cI zM2 _) dX5_clear_14 (fun zH zlocs zhw => ?_)
  obtain ⟨zM3, ze9, zhs⟩ := ltM_e zhs
  rw [← ze9] at zhw; clear ze9
  cases zhs
  exact zhret _ _ _ _ dX5_clear_17 zhw

-- OffFirst$Told.clear in (4, ())
def sTold_clear_d (N : Nat) (M : Mm) : Option Mm :=
  (sCells_clear_d M).bind fun zM1 =>
  (sFoods_clear_d N zM1).bind fun zM2 =>
  ltM (mset zM2 4 3 0) fun zM3 =>
  ltM (mset zM3 4 5 0) fun zM4 =>
  (sParty_clear_d zM4).bind fun zM5 =>
  ltM (mset zM5 4 7 1) fun zM6 =>
  some zM6
set_option maxHeartbeats 4000000 in
set_option maxRecDepth 100000 in
theorem cTold_clear_d (l : Launch) (D : va_G) (cI : ClassId) (h : Nat → Nat) (N : Nat) (M : Mm) (M' : Mm) (zhs : sTold_clear_d N M = some M') : CtV l yX10_clear cX10_clear 1 3 D cI (wX h cI M) (wX h cI M') [.ref (h 4)] := by
  unfold sTold_clear_d at zhs
  refine CtV_of (by decide +kernel) (Nat.le_of_ble_eq_true rfl) ?_
  intro p e s m args below meth c A Q zls zH zlocs C zhw zhl zhret
  have zhx := C.1
  have zhb := C.2.1
  have zhown := C.2.2.2.2.1
  have zhtB := C.2.2.2.2.2.2.1
  have zhl : lv_has zls 1 [(0, .ref (h 4))] := zhl
  refine lv_aload_n zhx zhb dX10_clear_0 rfl (lv_at zhl 0 rfl) ?_
  refine x_get C zhw inlX10 rfl 4 0 (by decide) kw_3_12 rfl (wX_c4 h cI M) rfl dX10_clear_1 ?_
  obtain ⟨zM1, zhp, zhs⟩ := bnd_e zhs
  refine x_cVV (As := []) (rest := []) C zhw zhl (cCells_clear_d l D cI h M zM1 zhp) (by decide) (by decide) kw_11_15 kw_11_16 kw_11_17 kw_3_11 kw_11_18 md_X0_clear rfl 5 (wX_c5 h cI M) rfl rfl rfl rfl (Nat.le_of_ble_eq_true rfl) dX10_clear_4 (fun zH zlocs zhw => ?_)
  refine lv_aload_n zhx zhb dX10_clear_7 rfl (lv_at zhl 0 rfl) ?_
  refine x_get C zhw inlX10 rfl 4 1 (by decide) kw_3_16 rfl (wX_c4 h cI zM1) rfl dX10_clear_8 ?_
  obtain ⟨zM2, zhp, zhs⟩ := bnd_e zhs
  refine x_cVV (As := []) (rest := []) C zhw zhl (cFoods_clear_d l D cI h N zM1 zM2 zhp) (by decide) (by decide) kw_11_20 kw_11_21 kw_11_22 kw_3_15 kw_11_23 md_X2_clear rfl 9 (wX_c9 h cI zM1) rfl rfl rfl rfl (Nat.le_of_ble_eq_true rfl) dX10_clear_11 (fun zH zlocs zhw => ?_)
  refine lv_aload_n zhx zhb dX10_clear_14 rfl (lv_at zhl 0 rfl) ?_
  refine lv_iconst (v := 0) zhx zhb dX10_clear_15 (by decide) ?_
  refine x_put C zhw inlX10 rfl tyX10_ok nmX10 4 3 (by decide) kw_11_13 rfl rfl rfl (wX_c4 h cI zM2) (Nat.le_of_ble_eq_true rfl) (wX_s4_3 h cI zM2 _) dX10_clear_16 (fun zH zlocs zhw => ?_)
  obtain ⟨zM3, ze9, zhs⟩ := ltM_e zhs
  rw [← ze9] at zhw; clear ze9
  refine lv_aload_n zhx zhb dX10_clear_19 rfl (lv_at zhl 0 rfl) ?_
  refine lv_iconst (v := 0) zhx zhb dX10_clear_20 (by decide) ?_
  refine x_put C zhw inlX10 rfl tyX10_ok nmX10 4 5 (by decide) kw_11_14 rfl rfl rfl (wX_c4 h cI zM3) (Nat.le_of_ble_eq_true rfl) (wX_s4_5 h cI zM3 _) dX10_clear_21 (fun zH zlocs zhw => ?_)
  obtain ⟨zM4, ze9, zhs⟩ := ltM_e zhs
  rw [← ze9] at zhw; clear ze9
  refine lv_aload_n zhx zhb dX10_clear_24 rfl (lv_at zhl 0 rfl) ?_
  refine x_get C zhw inlX10 rfl 4 6 (by decide) kw_3_22 rfl (wX_c4 h cI zM4) rfl dX10_clear_25 ?_
  obtain ⟨zM5, zhp, zhs⟩ := bnd_e zhs
  refine x_cVV (As := []) (rest := []) C zhw zhl (cParty_clear_d l D cI h zM4 zM5 zhp) (by decide) (by decide) kw_12_0 kw_12_1 kw_12_2 kw_3_21 kw_12_3 md_X5_clear rfl 19 (wX_c19 h cI zM4) rfl rfl rfl rfl (Nat.le_of_ble_eq_true rfl) dX10_clear_28 (fun zH zlocs zhw => ?_)
  refine lv_aload_n zhx zhb dX10_clear_31 rfl (lv_at zhl 0 rfl) ?_
  refine lv_iconst (v := 1) zhx zhb dX10_clear_32 (by decide) ?_
  refine x_put C zhw inlX10 rfl tyX10_ok nmX10 4 7 (by decide) kw_3_23 rfl rfl rfl (wX_c4 h cI zM5) (Nat.le_of_ble_eq_true rfl) (wX_s4_7 h cI zM5 _) dX10_clear_33 (fun zH zlocs zhw => ?_)
  obtain ⟨zM6, ze9, zhs⟩ := ltM_e zhs
  rw [← ze9] at zhw; clear ze9
  cases zhs
  exact zhret _ _ _ _ dX10_clear_36 zhw

-- OffFirst$Text.byteAt in (1, ())
def sText_byteAt (a1 : Int32) (M : Mm) : Option Int32 :=
  (if (M 1 1) ≤ a1 then some 0
  else some (atf 400 (M 2) a1))
set_option maxHeartbeats 4000000 in
set_option maxRecDepth 100000 in
theorem cText_byteAt (l : Launch) (D : va_G) (cI : ClassId) (h : Nat → Nat) (a1 : Int32) (M : Mm) (r : Int32) (zhs : sText_byteAt a1 M = some r) : CtI l yX9_byteAt cX9_byteAt 2 (some .int) 2 D cI (wX h cI M) (wX h cI M) [.ref (h 1), .int a1] r := by
  unfold sText_byteAt at zhs
  refine CtI_of (by decide +kernel) (Nat.le_of_ble_eq_true rfl) ⟨_, rfl⟩ ?_
  intro p e s m args below meth c A Q zls zH zlocs C zhw zhl zhret
  have zhx := C.1
  have zhb := C.2.1
  have zhown := C.2.2.2.2.1
  have zhtB := C.2.2.2.2.2.2.1
  have zhl : lv_has zls 2 [(0, .ref (h 1)), (1, .int a1)] := zhl
  refine lv_iload_n zhx zhb dX9_byteAt_0 rfl (lv_at zhl 1 rfl) ?_
  refine lv_aload_n zhx zhb dX9_byteAt_1 rfl (lv_at zhl 0 rfl) ?_
  refine x_get C zhw inlX9 rfl 1 1 (by decide) kw_10_5 rfl (wX_c1 h cI M) rfl dX9_byteAt_2 ?_
  refine lv_icmp_ge (tgt := 19) zhx zhb dX9_byteAt_5 (by decide) (fun zc9 => ?_) (fun zc9 => ?_)
  · replace zhs := br_T zhs zc9
    refine lv_iconst (v := 0) zhx zhb dX9_byteAt_19 (by decide) ?_
    cases zhs
    exact zhret _ _ _ _ dX9_byteAt_20 (by rfl) zhw
  · replace zhs := br_F zhs zc9
    refine lv_aload_n zhx zhb dX9_byteAt_8 rfl (lv_at zhl 0 rfl) ?_
    refine x_get C zhw inlX9 rfl 1 0 (by decide) kw_3_4 rfl (wX_c1 h cI M) rfl dX9_byteAt_9 ?_
    refine lv_iload_n zhx zhb dX9_byteAt_12 rfl (lv_at zhl 1 rfl) ?_
    refine x_cSNI (As := [.ref (h 2), .int a1]) (rest := []) C zhw zhl (c_at l D cI (wX h cI M) 2 400 (h 2) (M 2) (wX_c2 h cI M) (by decide) a1) (by decide) (by decide) (List.mem_of_getElem? (i := 12) rfl) kw_7_7 kw_1_2 kw_7_8 md_X11_at rfl rfl (Nat.le_of_ble_eq_true rfl) dX9_byteAt_13 (fun zH zlocs zhw hn9 => ?_)
    refine lv_goto (tgt := 20) zhx zhb dX9_byteAt_16 (by decide) ?_
    cases zhs
    exact zhret _ _ _ _ dX9_byteAt_20 (by rfl) zhw

-- OffFirst$Text.isFigure in (None, ())
def sText_isFigure (a1 : Int32) : Option Int32 :=
  (if a1 < 48 then some 0
  else (if 57 < a1 then some 0
  else some 1))
set_option maxHeartbeats 4000000 in
set_option maxRecDepth 100000 in
theorem cText_isFigure (l : Launch) (D : va_G) (cI : ClassId) (h : Nat → Nat) (a1 : Int32) (M : Mm) (r : Int32) (zhs : sText_isFigure a1 = some r) : CtI l yX9_isFigure cX9_isFigure 1 (some .boolean) 1 D cI (wX h cI M) (wX h cI M) [.int a1] r := by
  unfold sText_isFigure at zhs
  refine CtI_of (by decide +kernel) (Nat.le_of_ble_eq_true rfl) ⟨_, rfl⟩ ?_
  intro p e s m args below meth c A Q zls zH zlocs C zhw zhl zhret
  have zhx := C.1
  have zhb := C.2.1
  have zhown := C.2.2.2.2.1
  have zhtB := C.2.2.2.2.2.2.1
  have zhl : lv_has zls 1 [(0, .int a1)] := zhl
  refine lv_iload_n zhx zhb dX9_isFigure_0 rfl (lv_at zhl 0 rfl) ?_
  refine lv_bipush (v := 48) zhx zhb dX9_isFigure_1 (by decide) ?_
  refine lv_icmp_lt (tgt := 16) zhx zhb dX9_isFigure_3 (by decide) (fun zc9 => ?_) (fun zc9 => ?_)
  · replace zhs := br_T zhs zc9
    refine lv_iconst (v := 0) zhx zhb dX9_isFigure_16 (by decide) ?_
    cases zhs
    exact zhret _ _ _ _ dX9_isFigure_17 (by rfl) zhw
  · replace zhs := br_F zhs zc9
    refine lv_iload_n zhx zhb dX9_isFigure_6 rfl (lv_at zhl 0 rfl) ?_
    refine lv_bipush (v := 57) zhx zhb dX9_isFigure_7 (by decide) ?_
    refine lv_icmp_gt (tgt := 16) zhx zhb dX9_isFigure_9 (by decide) (fun zc9 => ?_) (fun zc9 => ?_)
    · replace zhs := br_T zhs zc9
      refine lv_iconst (v := 0) zhx zhb dX9_isFigure_16 (by decide) ?_
      cases zhs
      exact zhret _ _ _ _ dX9_isFigure_17 (by rfl) zhw
    · replace zhs := br_F zhs zc9
      refine lv_iconst (v := 1) zhx zhb dX9_isFigure_12 (by decide) ?_
      refine lv_goto (tgt := 17) zhx zhb dX9_isFigure_13 (by decide) ?_
      cases zhs
      exact zhret _ _ _ _ dX9_isFigure_17 (by rfl) zhw

-- OffFirst$Text.readNumber in (1, ())
def LText_readNumber_7_16 (N : Nat) (a1 : Int32) (M : Mm) (zx1 : Int32) (zx2 : Int32) (zx3 : Int32) : Option ((Int32 × Int32 × Int32) ⊕ ((Int32 × Int32))) :=
  (if 3 ≤ zx3 then some (.inr (zx1, zx2))
  else (sText_byteAt (a1 + zx3) M).bind fun zv10 =>
  (sText_isFigure zv10).bind fun zv11 =>
  (if zv11 = 0 then some (.inr (zx1, zx2))
  else (sText_byteAt (a1 + zx3) M).bind fun zv12 =>
  ltI (((10 * zx1) + zv12) - 48) fun zv13 =>
  ltI (zx2 + 1) fun zv14 =>
  ltI (zx3 + 1) fun zv15 =>
  some (.inl (zv13, zv14, zv15))))
def sText_readNumber (N : Nat) (a1 : Int32) (M : Mm) : Option (Int32 × Mm) :=
  (itr (fun z : Int32 × Int32 × Int32 => LText_readNumber_7_16 N a1 M z.1 z.2.1 z.2.2) N (0, 0, 0)).bind fun (zv17, zv18) =>
  (if zv18 ≤ 0 then some (a1 + zv18, M)
  else ltM (putf 6 M 3 (M 1 4) zv17) fun zM21 =>
  ltM (mset zM21 1 4 ((zM21 1 4) + 1)) fun zM22 =>
  some (a1 + zv18, zM22))
set_option maxHeartbeats 4000000 in
set_option maxRecDepth 100000 in
theorem cText_readNumber (l : Launch) (D : va_G) (cI : ClassId) (h : Nat → Nat) (N : Nat) (a1 : Int32) (M : Mm) (r : Int32) (M' : Mm) (zhs : sText_readNumber N a1 M = some (r, M')) : CtI l yX9_readNumber cX9_readNumber 5 (some .int) 3 D cI (wX h cI M) (wX h cI M') [.ref (h 1), .int a1] r := by
  unfold sText_readNumber at zhs
  refine CtI_of (by decide +kernel) (Nat.le_of_ble_eq_true rfl) ⟨_, rfl⟩ ?_
  intro p e s m args below meth c A Q zls zH zlocs C zhw zhl zhret
  have zhx := C.1
  have zhb := C.2.1
  have zhown := C.2.2.2.2.1
  have zhtB := C.2.2.2.2.2.2.1
  have zhl : lv_has zls 5 [(0, .ref (h 1)), (1, .int a1)] := zhl
  refine lv_iconst (v := 0) zhx zhb dX9_readNumber_0 (by decide) ?_
  refine lv_istore_n (lv' := [(2, .int 0), (0, .ref (h 1)), (1, .int a1)]) zhx zhb dX9_readNumber_1 rfl zhl (by decide) rfl (fun zls zhl => ?_)
  refine lv_iconst (v := 0) zhx zhb dX9_readNumber_2 (by decide) ?_
  refine lv_istore_n (lv' := [(3, .int 0), (2, .int 0), (0, .ref (h 1)), (1, .int a1)]) zhx zhb dX9_readNumber_3 rfl zhl (by decide) rfl (fun zls zhl => ?_)
  refine lv_iconst (v := 0) zhx zhb dX9_readNumber_4 (by decide) ?_
  refine lv_istore (lv' := [(4, .int 0), (3, .int 0), (2, .int 0), (0, .ref (h 1)), (1, .int a1)]) zhx zhb dX9_readNumber_5 zhl (by decide) rfl (fun zls zhl => ?_)
  obtain ⟨zq16, zhq16, zhs⟩ := bnd_e zhs
  have hloop16 : ∀ (zn : Nat) (zx1 : Int32) (zx2 : Int32) (zx3 : Int32) (zq : (Int32 × Int32)), itr (fun z : Int32 × Int32 × Int32 => LText_readNumber_7_16 N a1 M z.1 z.2.1 z.2.2) zn (zx1, zx2, zx3) = some zq → (∀ (zy1 : Int32) (zy2 : Int32), (zy1, zy2) = zq → ∀ (zH : Heap) (zlocs : List Loc) (zls : Array Slot), lv_has zls 5 [(3, .int zy2), (2, .int zy1), (0, .ref (h 1)), (1, .int a1)] → Hw D (wX h cI M) A s.heap zH zlocs → W p l e (RM 3) s m args below meth c zH zlocs 0 0 Q (F0 m 53 zls [])) → ∀ (zH : Heap) (zlocs : List Loc) (zls : Array Slot), lv_has zls 5 [(4, .int zx3), (3, .int zx2), (2, .int zx1), (0, .ref (h 1)), (1, .int a1)] → Hw D (wX h cI M) A s.heap zH zlocs → W p l e (RM 3) s m args below meth c zH zlocs 0 0 Q (F0 m 7 zls []) := by
    intro zn
    induction zn with
    | zero => intro zx1 zx2 zx3 zq zhq; exact absurd zhq (fun h9 => itr_0 h9)
    | succ zn zih =>
        intro zx1 zx2 zx3 zq zhq k7_53 zH zlocs zls zhl zhw
        obtain ⟨zy9, zhs, zhq⟩ := itr_s zhq
        replace zhs : LText_readNumber_7_16 N a1 M zx1 zx2 zx3 = some zy9 := zhs
        unfold LText_readNumber_7_16 at zhs
        refine lv_iload zhx zhb dX9_readNumber_7 (lv_at zhl 0 rfl) ?_
        refine lv_iconst (v := 3) zhx zhb dX9_readNumber_9 (by decide) ?_
        refine lv_icmp_ge (tgt := 53) zhx zhb dX9_readNumber_10 (by decide) (fun zc9 => ?_) (fun zc9 => ?_)
        · replace zhs := br_T zhs zc9
          cases zhs
          exact k7_53 zx1 zx2 (itk_q zhq) zH zlocs zls (lv_sub zhl [1, 2, 3, 4] rfl) zhw
        · replace zhs := br_F zhs zc9
          refine lv_aload_n zhx zhb dX9_readNumber_13 rfl (lv_at zhl 3 rfl) ?_
          refine lv_iload_n zhx zhb dX9_readNumber_14 rfl (lv_at zhl 4 rfl) ?_
          refine lv_iload zhx zhb dX9_readNumber_15 (lv_at zhl 0 rfl) ?_
          refine lv_iadd zhx zhb dX9_readNumber_17 ?_
          obtain ⟨zv10, zhp, zhs⟩ := bnd_e zhs
          refine x_cVI (As := [.int (a1 + zx3)]) (rest := []) C zhw zhl (cText_byteAt l D cI h (a1 + zx3) M zv10 zhp) (by decide) (by decide) kw_12_11 kw_12_12 kw_12_13 kw_1_15 kw_12_14 md_X9_byteAt rfl 1 (wX_c1 h cI M) rfl rfl rfl rfl (Nat.le_of_ble_eq_true rfl) dX9_readNumber_18 (fun zH zlocs zhw hn9 => ?_)
          obtain ⟨zv11, zhp, zhs⟩ := bnd_e zhs
          refine x_cSI (As := [.int zv10]) (rest := []) C zhw zhl (cText_isFigure l D cI h zv10 M zv11 zhp) (by decide) (by decide) kw_12_19 kw_12_20 kw_1_15 kw_12_21 md_X9_isFigure rfl rfl (Nat.le_of_ble_eq_true rfl) dX9_readNumber_21 (fun zH zlocs zhw hzv11 => ?_)
          refine lv_if_eq (tgt := 53) zhx zhb dX9_readNumber_24 (by decide) (fun zc9 => ?_) (fun zc9 => ?_)
          · replace zhs := br_T zhs zc9
            cases zhs
            exact k7_53 zx1 zx2 (itk_q zhq) zH zlocs zls (lv_sub zhl [1, 2, 3, 4] rfl) zhw
          · replace zhs := br_F zhs zc9
            refine lv_bipush (v := 10) zhx zhb dX9_readNumber_27 (by decide) ?_
            refine lv_iload_n zhx zhb dX9_readNumber_29 rfl (lv_at zhl 2 rfl) ?_
            refine lv_imul zhx zhb dX9_readNumber_30 ?_
            refine lv_aload_n zhx zhb dX9_readNumber_31 rfl (lv_at zhl 3 rfl) ?_
            refine lv_iload_n zhx zhb dX9_readNumber_32 rfl (lv_at zhl 4 rfl) ?_
            refine lv_iload zhx zhb dX9_readNumber_33 (lv_at zhl 0 rfl) ?_
            refine lv_iadd zhx zhb dX9_readNumber_35 ?_
            obtain ⟨zv12, zhp, zhs⟩ := bnd_e zhs
            refine x_cVI (As := [.int (a1 + zx3)]) (rest := [.int (10 * zx1)]) C zhw zhl (cText_byteAt l D cI h (a1 + zx3) M zv12 zhp) (by decide) (by decide) kw_12_11 kw_12_12 kw_12_13 kw_1_15 kw_12_14 md_X9_byteAt rfl 1 (wX_c1 h cI M) rfl rfl rfl rfl (Nat.le_of_ble_eq_true rfl) dX9_readNumber_36 (fun zH zlocs zhw hn9 => ?_)
            refine lv_iadd zhx zhb dX9_readNumber_39 ?_
            refine lv_bipush (v := 48) zhx zhb dX9_readNumber_40 (by decide) ?_
            refine lv_isub zhx zhb dX9_readNumber_42 ?_
            obtain ⟨zv13, ze9, zhs⟩ := ltI_e zhs
            refine lv_topi (fun zy9 ze8 => ?_)
            obtain rfl : zv13 = zy9 := ze9.trans ze8.symm
            clear ze9 ze8
            refine lv_istore_n (lv' := [(2, .int zv13), (4, .int zx3), (3, .int zx2), (0, .ref (h 1)), (1, .int a1)]) zhx zhb dX9_readNumber_43 rfl zhl (by decide) rfl (fun zls zhl => ?_)
            obtain ⟨zv14, ze9, zhs⟩ := ltI_e zhs
            refine lv_iinc (v := zv14) (lv' := [(3, .int zv14), (2, .int zv13), (4, .int zx3), (0, .ref (h 1)), (1, .int a1)]) zhx zhb dX9_readNumber_44 zhl (k := 2) rfl (by rw [ze9]; rfl) (by decide) rfl (fun zls zhl => ?_)
            clear ze9
            obtain ⟨zv15, ze9, zhs⟩ := ltI_e zhs
            refine lv_iinc (v := zv15) (lv' := [(4, .int zv15), (3, .int zv14), (2, .int zv13), (0, .ref (h 1)), (1, .int a1)]) zhx zhb dX9_readNumber_47 zhl (k := 2) rfl (by rw [ze9]; rfl) (by decide) rfl (fun zls zhl => ?_)
            clear ze9
            refine lv_goto (tgt := 7) zhx zhb dX9_readNumber_50 (by decide) ?_
            cases zhs
            exact zih zv13 zv14 zv15 zq (itk_l zhq) k7_53 zH zlocs zls zhl zhw
  refine hloop16 N 0 0 0 zq16 zhq16 (fun zv17 zv18 zhqe zH zlocs zls zhl zhw => ?_) zH zlocs zls zhl zhw
  · subst zhqe
    try dsimp only at zhs
    refine lv_iload_n zhx zhb dX9_readNumber_53 rfl (lv_at zhl 0 rfl) ?_
    refine lv_if_le (tgt := 79) zhx zhb dX9_readNumber_54 (by decide) (fun zc9 => ?_) (fun zc9 => ?_)
    · replace zhs := br_T zhs zc9
      refine lv_iload_n zhx zhb dX9_readNumber_79 rfl (lv_at zhl 3 rfl) ?_
      refine lv_iload_n zhx zhb dX9_readNumber_80 rfl (lv_at zhl 0 rfl) ?_
      refine lv_iadd zhx zhb dX9_readNumber_81 ?_
      cases zhs
      exact zhret _ _ _ _ dX9_readNumber_82 (by rfl) zhw
    · replace zhs := br_F zhs zc9
      refine lv_aload_n zhx zhb dX9_readNumber_57 rfl (lv_at zhl 2 rfl) ?_
      refine x_get C zhw inlX9 rfl 1 3 (by decide) kw_3_5 rfl (wX_c1 h cI M) rfl dX9_readNumber_58 ?_
      refine lv_aload_n zhx zhb dX9_readNumber_61 rfl (lv_at zhl 2 rfl) ?_
      refine x_get C zhw inlX9 rfl 1 4 (by decide) kw_12_10 rfl (wX_c1 h cI M) rfl dX9_readNumber_62 ?_
      refine lv_iload_n zhx zhb dX9_readNumber_65 rfl (lv_at zhl 1 rfl) ?_
      refine x_cSNV (As := [.ref (h 3), .int (M 1 4), .int zv17]) (rest := []) C zhw zhl (c_put l D cI (wX h cI) M 3 6 (h 3) (wX_c3 h cI M) (fun j v => wX_a3 h cI M j v) (by decide) (M 1 4) zv17) (by decide) (by decide) (List.mem_of_getElem? (i := 11) rfl) kw_7_0 kw_1_2 kw_7_1 md_X11_put rfl rfl (Nat.le_of_ble_eq_true rfl) dX9_readNumber_66 (fun zH zlocs zhw => ?_)
      obtain ⟨zM21, ze9, zhs⟩ := ltM_e zhs
      rw [← ze9] at zhw; clear ze9
      refine lv_aload_n zhx zhb dX9_readNumber_69 rfl (lv_at zhl 2 rfl) ?_
      refine lv_dup zhx zhb dX9_readNumber_70 rfl ?_
      refine x_get C zhw inlX9 rfl 1 4 (by decide) kw_12_10 rfl (wX_c1 h cI zM21) rfl dX9_readNumber_71 ?_
      refine lv_iconst (v := 1) zhx zhb dX9_readNumber_74 (by decide) ?_
      refine lv_iadd zhx zhb dX9_readNumber_75 ?_
      refine x_put C zhw inlX9 rfl tyX9_ok nmX9 1 4 (by decide) kw_12_10 rfl rfl rfl (wX_c1 h cI zM21) (Nat.le_of_ble_eq_true rfl) (wX_s1_4 h cI zM21 _) dX9_readNumber_76 (fun zH zlocs zhw => ?_)
      obtain ⟨zM22, ze9, zhs⟩ := ltM_e zhs
      rw [← ze9] at zhw; clear ze9
      refine lv_iload_n zhx zhb dX9_readNumber_79 rfl (lv_at zhl 3 rfl) ?_
      refine lv_iload_n zhx zhb dX9_readNumber_80 rfl (lv_at zhl 0 rfl) ?_
      refine lv_iadd zhx zhb dX9_readNumber_81 ?_
      cases zhs
      exact zhret _ _ _ _ dX9_readNumber_82 (by rfl) zhw

-- OffFirst$Text.readItem in (1, ())
def LText_readItem_20_18 (N : Nat) (zx5 : Int32) (zx6 : Int32) (zM7 : Mm) : Option ((Int32 × Int32 × Mm) ⊕ ((Mm) ⊕ (Int32 × Mm) ⊕ (Mm) ⊕ (Mm))) :=
  (if 6 ≤ zx6 then some (.inr (.inr (.inr (.inr zM7))))
  else (sText_readNumber N zx5 zM7).bind fun (zv13, zM14) =>
  (if zv13 = zx5 then some (.inr (.inl zM14))
  else (sText_byteAt zv13 zM14).bind fun zv15 =>
  ltI (zv13 + 1) fun zv16 =>
  (if zv15 = 59 then some (.inr (.inr (.inl (zv16, zM14))))
  else (if zv15 = 44 then ltI (zx6 + 1) fun zv17 =>
  some (.inl (zv16, zv17, zM14))
  else some (.inr (.inr (.inr (.inl zM14))))))))
def sText_readItem (N : Nat) (a1 : Int32) (M : Mm) : Option (Int32 × Mm) :=
  (sText_byteAt a1 M).bind fun zv1 =>
  ltM (mset M 1 2 zv1) fun zM2 =>
  ltM (mset zM2 1 4 0) fun zM3 =>
  ltI (a1 + 1) fun zv4 =>
  ((itr (fun z : Int32 × Int32 × Mm => LText_readItem_20_18 N z.1 z.2.1 z.2.2) N (zv4, 0, zM3)).bind fun q => match q with
  | .inl zM19 => some ((-4), zM19)
  | .inr (.inl (zv20, zM21)) => some (zv20, zM21)
  | .inr (.inr (.inl zM22)) => some ((-4), zM22)
  | .inr (.inr (.inr zM23)) => some ((-4), zM23))
set_option maxHeartbeats 4000000 in
set_option maxRecDepth 100000 in
theorem cText_readItem (l : Launch) (D : va_G) (cI : ClassId) (h : Nat → Nat) (N : Nat) (a1 : Int32) (M : Mm) (r : Int32) (M' : Mm) (zhs : sText_readItem N a1 M = some (r, M')) : CtI l yX9_readItem cX9_readItem 6 (some .int) 4 D cI (wX h cI M) (wX h cI M') [.ref (h 1), .int a1] r := by
  unfold sText_readItem at zhs
  refine CtI_of (by decide +kernel) (Nat.le_of_ble_eq_true rfl) ⟨_, rfl⟩ ?_
  intro p e s m args below meth c A Q zls zH zlocs C zhw zhl zhret
  have zhx := C.1
  have zhb := C.2.1
  have zhown := C.2.2.2.2.1
  have zhtB := C.2.2.2.2.2.2.1
  have zhl : lv_has zls 6 [(0, .ref (h 1)), (1, .int a1)] := zhl
  refine lv_aload_n zhx zhb dX9_readItem_0 rfl (lv_at zhl 0 rfl) ?_
  refine lv_aload_n zhx zhb dX9_readItem_1 rfl (lv_at zhl 0 rfl) ?_
  refine lv_iload_n zhx zhb dX9_readItem_2 rfl (lv_at zhl 1 rfl) ?_
  obtain ⟨zv1, zhp, zhs⟩ := bnd_e zhs
  refine x_cVI (As := [.int a1]) (rest := [.ref (h 1)]) C zhw zhl (cText_byteAt l D cI h a1 M zv1 zhp) (by decide) (by decide) kw_12_11 kw_12_12 kw_12_13 kw_1_15 kw_12_14 md_X9_byteAt rfl 1 (wX_c1 h cI M) rfl rfl rfl rfl (Nat.le_of_ble_eq_true rfl) dX9_readItem_3 (fun zH zlocs zhw hn9 => ?_)
  refine x_put C zhw inlX9 rfl tyX9_ok nmX9 1 2 (by decide) kw_12_9 rfl rfl rfl (wX_c1 h cI M) (Nat.le_of_ble_eq_true rfl) (wX_s1_2 h cI M _) dX9_readItem_6 (fun zH zlocs zhw => ?_)
  obtain ⟨zM2, ze9, zhs⟩ := ltM_e zhs
  rw [← ze9] at zhw; clear ze9
  refine lv_aload_n zhx zhb dX9_readItem_9 rfl (lv_at zhl 0 rfl) ?_
  refine lv_iconst (v := 0) zhx zhb dX9_readItem_10 (by decide) ?_
  refine x_put C zhw inlX9 rfl tyX9_ok nmX9 1 4 (by decide) kw_12_10 rfl rfl rfl (wX_c1 h cI zM2) (Nat.le_of_ble_eq_true rfl) (wX_s1_4 h cI zM2 _) dX9_readItem_11 (fun zH zlocs zhw => ?_)
  obtain ⟨zM3, ze9, zhs⟩ := ltM_e zhs
  rw [← ze9] at zhw; clear ze9
  refine lv_iload_n zhx zhb dX9_readItem_14 rfl (lv_at zhl 1 rfl) ?_
  refine lv_iconst (v := 1) zhx zhb dX9_readItem_15 (by decide) ?_
  refine lv_iadd zhx zhb dX9_readItem_16 ?_
  obtain ⟨zv4, ze9, zhs⟩ := ltI_e zhs
  refine lv_topi (fun zy9 ze8 => ?_)
  obtain rfl : zv4 = zy9 := ze9.trans ze8.symm
  clear ze9 ze8
  refine lv_istore_n (lv' := [(2, .int zv4), (0, .ref (h 1)), (1, .int a1)]) zhx zhb dX9_readItem_17 rfl zhl (by decide) rfl (fun zls zhl => ?_)
  refine lv_iconst (v := 0) zhx zhb dX9_readItem_18 (by decide) ?_
  refine lv_istore_n (lv' := [(3, .int 0), (2, .int zv4), (0, .ref (h 1)), (1, .int a1)]) zhx zhb dX9_readItem_19 rfl zhl (by decide) rfl (fun zls zhl => ?_)
  obtain ⟨zq18, zhq18, zhs⟩ := bnd_e zhs
  have hloop18 : ∀ (zn : Nat) (zx5 : Int32) (zx6 : Int32) (zM7 : Mm) (zq : (Mm) ⊕ (Int32 × Mm) ⊕ (Mm) ⊕ (Mm)), itr (fun z : Int32 × Int32 × Mm => LText_readItem_20_18 N z.1 z.2.1 z.2.2) zn (zx5, zx6, zM7) = some zq → (∀ (zy1 : Mm), (.inl zy1) = zq → ∀ (zH : Heap) (zlocs : List Loc) (zls : Array Slot), lv_has zls 6 [] → Hw D (wX h cI zy1) A s.heap zH zlocs → W p l e (RM 4) s m args below meth c zH zlocs 0 0 Q (F0 m 39 zls [])) → (∀ (zy1 : Int32) (zy2 : Mm), (.inr (.inl (zy1, zy2))) = zq → ∀ (zH : Heap) (zlocs : List Loc) (zls : Array Slot), lv_has zls 6 [(2, .int zy1)] → Hw D (wX h cI zy2) A s.heap zH zlocs → W p l e (RM 4) s m args below meth c zH zlocs 0 0 Q (F0 m 62 zls [])) → (∀ (zy1 : Mm), (.inr (.inr (.inl zy1))) = zq → ∀ (zH : Heap) (zlocs : List Loc) (zls : Array Slot), lv_has zls 6 [] → Hw D (wX h cI zy1) A s.heap zH zlocs → W p l e (RM 4) s m args below meth c zH zlocs 0 0 Q (F0 m 71 zls [])) → (∀ (zy1 : Mm), (.inr (.inr (.inr zy1))) = zq → ∀ (zH : Heap) (zlocs : List Loc) (zls : Array Slot), lv_has zls 6 [] → Hw D (wX h cI zy1) A s.heap zH zlocs → W p l e (RM 4) s m args below meth c zH zlocs 0 0 Q (F0 m 80 zls [])) → ∀ (zH : Heap) (zlocs : List Loc) (zls : Array Slot), lv_has zls 6 [(3, .int zx6), (2, .int zx5), (0, .ref (h 1))] → Hw D (wX h cI zM7) A s.heap zH zlocs → W p l e (RM 4) s m args below meth c zH zlocs 0 0 Q (F0 m 20 zls []) := by
    intro zn
    induction zn with
    | zero => intro zx5 zx6 zM7 zq zhq; exact absurd zhq (fun h9 => itr_0 h9)
    | succ zn zih =>
        intro zx5 zx6 zM7 zq zhq k20_39 k20_62 k20_71 k20_80 zH zlocs zls zhl zhw
        obtain ⟨zy9, zhs, zhq⟩ := itr_s zhq
        replace zhs : LText_readItem_20_18 N zx5 zx6 zM7 = some zy9 := zhs
        unfold LText_readItem_20_18 at zhs
        refine lv_iload_n zhx zhb dX9_readItem_20 rfl (lv_at zhl 0 rfl) ?_
        refine lv_bipush (v := 6) zhx zhb dX9_readItem_21 (by decide) ?_
        refine lv_icmp_ge (tgt := 80) zhx zhb dX9_readItem_23 (by decide) (fun zc9 => ?_) (fun zc9 => ?_)
        · replace zhs := br_T zhs zc9
          cases zhs
          exact k20_80 zM7 (itk_q zhq) zH zlocs zls (lv_sub zhl [] rfl) zhw
        · replace zhs := br_F zhs zc9
          refine lv_aload_n zhx zhb dX9_readItem_26 rfl (lv_at zhl 2 rfl) ?_
          refine lv_iload_n zhx zhb dX9_readItem_27 rfl (lv_at zhl 1 rfl) ?_
          obtain ⟨⟨zv13, zM14⟩, zhp, zhs⟩ := bnd_e zhs
          try dsimp only at zhs
          refine x_cVI (As := [.int zx5]) (rest := []) C zhw zhl (cText_readNumber l D cI h N zx5 zM7 zv13 zM14 zhp) (by decide) (by decide) kw_12_15 kw_12_16 kw_12_17 kw_1_15 kw_12_18 md_X9_readNumber rfl 1 (wX_c1 h cI zM7) rfl rfl rfl rfl (Nat.le_of_ble_eq_true rfl) dX9_readItem_28 (fun zH zlocs zhw hn9 => ?_)
          refine lv_istore (lv' := [(4, .int zv13), (3, .int zx6), (2, .int zx5), (0, .ref (h 1))]) zhx zhb dX9_readItem_31 zhl (by decide) rfl (fun zls zhl => ?_)
          refine lv_iload zhx zhb dX9_readItem_33 (lv_at zhl 0 rfl) ?_
          refine lv_iload_n zhx zhb dX9_readItem_35 rfl (lv_at zhl 2 rfl) ?_
          refine lv_icmp_ne (tgt := 42) zhx zhb dX9_readItem_36 (by decide) (fun zc9 => ?_) (fun zc9 => ?_)
          · replace zhs := br_F zhs zc9
            refine lv_aload_n zhx zhb dX9_readItem_42 rfl (lv_at zhl 3 rfl) ?_
            refine lv_iload zhx zhb dX9_readItem_43 (lv_at zhl 0 rfl) ?_
            obtain ⟨zv15, zhp, zhs⟩ := bnd_e zhs
            refine x_cVI (As := [.int zv13]) (rest := []) C zhw zhl (cText_byteAt l D cI h zv13 zM14 zv15 zhp) (by decide) (by decide) kw_12_11 kw_12_12 kw_12_13 kw_1_15 kw_12_14 md_X9_byteAt rfl 1 (wX_c1 h cI zM14) rfl rfl rfl rfl (Nat.le_of_ble_eq_true rfl) dX9_readItem_45 (fun zH zlocs zhw hn9 => ?_)
            refine lv_istore (lv' := [(5, .int zv15), (4, .int zv13), (3, .int zx6), (2, .int zx5), (0, .ref (h 1))]) zhx zhb dX9_readItem_48 zhl (by decide) rfl (fun zls zhl => ?_)
            refine lv_iload zhx zhb dX9_readItem_50 (lv_at zhl 1 rfl) ?_
            refine lv_iconst (v := 1) zhx zhb dX9_readItem_52 (by decide) ?_
            refine lv_iadd zhx zhb dX9_readItem_53 ?_
            obtain ⟨zv16, ze9, zhs⟩ := ltI_e zhs
            refine lv_topi (fun zy9 ze8 => ?_)
            obtain rfl : zv16 = zy9 := ze9.trans ze8.symm
            clear ze9 ze8
            refine lv_istore_n (lv' := [(2, .int zv16), (5, .int zv15), (4, .int zv13), (3, .int zx6), (0, .ref (h 1))]) zhx zhb dX9_readItem_54 rfl zhl (by decide) rfl (fun zls zhl => ?_)
            refine lv_iload zhx zhb dX9_readItem_55 (lv_at zhl 1 rfl) ?_
            refine lv_bipush (v := 59) zhx zhb dX9_readItem_57 (by decide) ?_
            refine lv_icmp_ne (tgt := 64) zhx zhb dX9_readItem_59 (by decide) (fun zc9 => ?_) (fun zc9 => ?_)
            · replace zhs := br_F zhs zc9
              refine lv_iload zhx zhb dX9_readItem_64 (lv_at zhl 1 rfl) ?_
              refine lv_bipush (v := 44) zhx zhb dX9_readItem_66 (by decide) ?_
              refine lv_icmp_eq (tgt := 74) zhx zhb dX9_readItem_68 (by decide) (fun zc9 => ?_) (fun zc9 => ?_)
              · replace zhs := br_T zhs zc9
                obtain ⟨zv17, ze9, zhs⟩ := ltI_e zhs
                refine lv_iinc (v := zv17) (lv' := [(3, .int zv17), (2, .int zv16), (5, .int zv15), (4, .int zv13), (0, .ref (h 1))]) zhx zhb dX9_readItem_74 zhl (k := 3) rfl (by rw [ze9]; rfl) (by decide) rfl (fun zls zhl => ?_)
                clear ze9
                refine lv_goto (tgt := 20) zhx zhb dX9_readItem_77 (by decide) ?_
                cases zhs
                exact zih zv16 zv17 zM14 zq (itk_l zhq) k20_39 k20_62 k20_71 k20_80 zH zlocs zls (lv_sub zhl [0, 1, 4] rfl) zhw
              · replace zhs := br_F zhs zc9
                cases zhs
                exact k20_71 zM14 (itk_q zhq) zH zlocs zls (lv_sub zhl [] rfl) zhw
            · replace zhs := br_T zhs zc9
              cases zhs
              exact k20_62 zv16 zM14 (itk_q zhq) zH zlocs zls (lv_sub zhl [0] rfl) zhw
          · replace zhs := br_T zhs zc9
            cases zhs
            exact k20_39 zM14 (itk_q zhq) zH zlocs zls (lv_sub zhl [] rfl) zhw
  refine hloop18 N zv4 0 zM3 zq18 zhq18 (fun zM19 zhqe zH zlocs zls zhl zhw => ?_) (fun zv20 zM21 zhqe zH zlocs zls zhl zhw => ?_) (fun zM22 zhqe zH zlocs zls zhl zhw => ?_) (fun zM23 zhqe zH zlocs zls zhl zhw => ?_) zH zlocs zls (lv_sub zhl [0, 1, 2] rfl) zhw
  · subst zhqe
    try dsimp only at zhs
    refine lv_bipush (v := (-4)) zhx zhb dX9_readItem_39 (by decide) ?_
    cases zhs
    exact zhret _ _ _ _ dX9_readItem_41 (by rfl) zhw
  · subst zhqe
    try dsimp only at zhs
    refine lv_iload_n zhx zhb dX9_readItem_62 rfl (lv_at zhl 0 rfl) ?_
    cases zhs
    exact zhret _ _ _ _ dX9_readItem_63 (by rfl) zhw
  · subst zhqe
    try dsimp only at zhs
    refine lv_bipush (v := (-4)) zhx zhb dX9_readItem_71 (by decide) ?_
    cases zhs
    exact zhret _ _ _ _ dX9_readItem_73 (by rfl) zhw
  · subst zhqe
    try dsimp only at zhs
    refine lv_bipush (v := (-4)) zhx zhb dX9_readItem_80 (by decide) ?_
    cases zhs
    exact zhret _ _ _ _ dX9_readItem_82 (by rfl) zhw

-- OffFirst$Text.number in (1, ())
def sText_number (a1 : Int32) (M : Mm) : Option Int32 :=
  some (atf 6 (M 3) a1)
set_option maxHeartbeats 4000000 in
set_option maxRecDepth 100000 in
theorem cText_number (l : Launch) (D : va_G) (cI : ClassId) (h : Nat → Nat) (a1 : Int32) (M : Mm) (r : Int32) (zhs : sText_number a1 M = some r) : CtI l yX9_number cX9_number 2 (some .int) 2 D cI (wX h cI M) (wX h cI M) [.ref (h 1), .int a1] r := by
  unfold sText_number at zhs
  refine CtI_of (by decide +kernel) (Nat.le_of_ble_eq_true rfl) ⟨_, rfl⟩ ?_
  intro p e s m args below meth c A Q zls zH zlocs C zhw zhl zhret
  have zhx := C.1
  have zhb := C.2.1
  have zhown := C.2.2.2.2.1
  have zhtB := C.2.2.2.2.2.2.1
  have zhl : lv_has zls 2 [(0, .ref (h 1)), (1, .int a1)] := zhl
  refine lv_aload_n zhx zhb dX9_number_0 rfl (lv_at zhl 0 rfl) ?_
  refine x_get C zhw inlX9 rfl 1 3 (by decide) kw_3_5 rfl (wX_c1 h cI M) rfl dX9_number_1 ?_
  refine lv_iload_n zhx zhb dX9_number_4 rfl (lv_at zhl 1 rfl) ?_
  refine x_cSNI (As := [.ref (h 3), .int a1]) (rest := []) C zhw zhl (c_at l D cI (wX h cI M) 3 6 (h 3) (M 3) (wX_c3 h cI M) (by decide) a1) (by decide) (by decide) (List.mem_of_getElem? (i := 12) rfl) kw_7_7 kw_1_2 kw_7_8 md_X11_at rfl rfl (Nat.le_of_ble_eq_true rfl) dX9_number_5 (fun zH zlocs zhw hn9 => ?_)
  cases zhs
  exact zhret _ _ _ _ dX9_number_8 (by rfl) zhw

-- OffFirst$Text.isNumberWithin in (1, ())
def sText_isNumberWithin (a1 : Int32) (a2 : Int32) (a3 : Int32) (M : Mm) : Option Int32 :=
  (if (M 1 4) ≤ a1 then some 0
  else (sText_number a1 M).bind fun zv3 =>
  (sOff_isWithin zv3 a2 a3).bind fun zv4 =>
  (if zv4 = 0 then some 0
  else some 1))
set_option maxHeartbeats 4000000 in
set_option maxRecDepth 100000 in
theorem cText_isNumberWithin (l : Launch) (D : va_G) (cI : ClassId) (h : Nat → Nat) (a1 : Int32) (a2 : Int32) (a3 : Int32) (M : Mm) (r : Int32) (zhs : sText_isNumberWithin a1 a2 a3 M = some r) : CtI l yX9_isNumberWithin cX9_isNumberWithin 4 (some .boolean) 3 D cI (wX h cI M) (wX h cI M) [.ref (h 1), .int a1, .int a2, .int a3] r := by
  unfold sText_isNumberWithin at zhs
  refine CtI_of (by decide +kernel) (Nat.le_of_ble_eq_true rfl) ⟨_, rfl⟩ ?_
  intro p e s m args below meth c A Q zls zH zlocs C zhw zhl zhret
  have zhx := C.1
  have zhb := C.2.1
  have zhown := C.2.2.2.2.1
  have zhtB := C.2.2.2.2.2.2.1
  have zhl : lv_has zls 4 [(0, .ref (h 1)), (1, .int a1), (2, .int a2), (3, .int a3)] := zhl
  refine lv_iload_n zhx zhb dX9_isNumberWithin_0 rfl (lv_at zhl 1 rfl) ?_
  refine lv_aload_n zhx zhb dX9_isNumberWithin_1 rfl (lv_at zhl 0 rfl) ?_
  refine x_get C zhw inlX9 rfl 1 4 (by decide) kw_12_10 rfl (wX_c1 h cI M) rfl dX9_isNumberWithin_2 ?_
  refine lv_icmp_ge (tgt := 25) zhx zhb dX9_isNumberWithin_5 (by decide) (fun zc9 => ?_) (fun zc9 => ?_)
  · replace zhs := br_T zhs zc9
    refine lv_iconst (v := 0) zhx zhb dX9_isNumberWithin_25 (by decide) ?_
    cases zhs
    exact zhret _ _ _ _ dX9_isNumberWithin_26 (by rfl) zhw
  · replace zhs := br_F zhs zc9
    refine lv_aload_n zhx zhb dX9_isNumberWithin_8 rfl (lv_at zhl 0 rfl) ?_
    refine lv_iload_n zhx zhb dX9_isNumberWithin_9 rfl (lv_at zhl 1 rfl) ?_
    obtain ⟨zv3, zhp, zhs⟩ := bnd_e zhs
    refine x_cVI (As := [.int a1]) (rest := []) C zhw zhl (cText_number l D cI h a1 M zv3 zhp) (by decide) (by decide) kw_13_10 kw_13_11 kw_13_12 kw_1_15 kw_13_13 md_X9_number rfl 1 (wX_c1 h cI M) rfl rfl rfl rfl (Nat.le_of_ble_eq_true rfl) dX9_isNumberWithin_10 (fun zH zlocs zhw hn9 => ?_)
    refine lv_iload_n zhx zhb dX9_isNumberWithin_13 rfl (lv_at zhl 2 rfl) ?_
    refine lv_iload_n zhx zhb dX9_isNumberWithin_14 rfl (lv_at zhl 3 rfl) ?_
    obtain ⟨zv4, zhp, zhs⟩ := bnd_e zhs
    refine x_cSNI (As := [.int zv3, .int a2, .int a3]) (rest := []) C zhw zhl (cOff_isWithin l D cI h zv3 a2 a3 M zv4 zhp) (by decide) (by decide) (List.mem_of_getElem? (i := 13) rfl) kw_9_23 kw_1_2 kw_10_0 md_X11_isWithin rfl rfl (Nat.le_of_ble_eq_true rfl) dX9_isNumberWithin_15 (fun zH zlocs zhw hzv4 => ?_)
    refine lv_if_eq (tgt := 25) zhx zhb dX9_isNumberWithin_18 (by decide) (fun zc9 => ?_) (fun zc9 => ?_)
    · replace zhs := br_T zhs zc9
      refine lv_iconst (v := 0) zhx zhb dX9_isNumberWithin_25 (by decide) ?_
      cases zhs
      exact zhret _ _ _ _ dX9_isNumberWithin_26 (by rfl) zhw
    · replace zhs := br_F zhs zc9
      refine lv_iconst (v := 1) zhx zhb dX9_isNumberWithin_21 (by decide) ?_
      refine lv_goto (tgt := 26) zhx zhb dX9_isNumberWithin_22 (by decide) ?_
      cases zhs
      exact zhret _ _ _ _ dX9_isNumberWithin_26 (by rfl) zhw

-- OffFirst$Told.takePacks in (4, (1,))
def sTold_takePacks_d (M : Mm) : Option (Int32 × Mm) :=
  (if (M 1 4) = 2 then (sText_isNumberWithin 0 1 99 M).bind fun zv1 =>
  (if zv1 = 0 then some (0, M)
  else (sText_isNumberWithin 1 1 198 M).bind fun zv2 =>
  (if zv2 = 0 then some (0, M)
  else (sText_number 0 M).bind fun zv3 =>
  ltM (mset M 19 3 zv3) fun zM4 =>
  (sText_number 1 zM4).bind fun zv5 =>
  ltM (mset zM4 19 4 zv5) fun zM6 =>
  some (1, zM6)))
  else some (0, M))
set_option maxHeartbeats 4000000 in
set_option maxRecDepth 100000 in
theorem cTold_takePacks_d (l : Launch) (D : va_G) (cI : ClassId) (h : Nat → Nat) (M : Mm) (r : Int32) (M' : Mm) (zhs : sTold_takePacks_d M = some (r, M')) : CtI l yX10_takePacks cX10_takePacks 2 (some .boolean) 4 D cI (wX h cI M) (wX h cI M') [.ref (h 4), .ref (h 1)] r := by
  unfold sTold_takePacks_d at zhs
  refine CtI_of (by decide +kernel) (Nat.le_of_ble_eq_true rfl) ⟨_, rfl⟩ ?_
  intro p e s m args below meth c A Q zls zH zlocs C zhw zhl zhret
  have zhx := C.1
  have zhb := C.2.1
  have zhown := C.2.2.2.2.1
  have zhtB := C.2.2.2.2.2.2.1
  have zhl : lv_has zls 2 [(0, .ref (h 4)), (1, .ref (h 1))] := zhl
  refine lv_aload_n zhx zhb dX10_takePacks_0 rfl (lv_at zhl 1 rfl) ?_
  refine x_getN C zhw inlX9 rfl 1 4 (by decide) (List.mem_of_getElem? (i := 3) rfl) rfl (wX_c1 h cI M) rfl dX10_takePacks_1 ?_
  refine lv_iconst (v := 2) zhx zhb dX10_takePacks_4 (by decide) ?_
  refine lv_icmp_ne (tgt := 31) zhx zhb dX10_takePacks_5 (by decide) (fun zc9 => ?_) (fun zc9 => ?_)
  · replace zhs := br_F zhs zc9
    refine lv_iconst (v := 0) zhx zhb dX10_takePacks_31 (by decide) ?_
    cases zhs
    exact zhret _ _ _ _ dX10_takePacks_32 (by rfl) zhw
  · replace zhs := br_T zhs zc9
    refine lv_aload_n zhx zhb dX10_takePacks_8 rfl (lv_at zhl 1 rfl) ?_
    refine lv_iconst (v := 0) zhx zhb dX10_takePacks_9 (by decide) ?_
    refine lv_iconst (v := 1) zhx zhb dX10_takePacks_10 (by decide) ?_
    refine lv_bipush (v := 99) zhx zhb dX10_takePacks_11 (by decide) ?_
    obtain ⟨zv1, zhp, zhs⟩ := bnd_e zhs
    refine x_cVI (As := [.int 0, .int 1, .int 99]) (rest := []) C zhw zhl (cText_isNumberWithin l D cI h 0 1 99 M zv1 zhp) (by decide) (by decide) kw_13_6 kw_13_7 kw_13_8 kw_1_15 kw_13_9 md_X9_isNumberWithin rfl 1 (wX_c1 h cI M) rfl rfl rfl rfl (Nat.le_of_ble_eq_true rfl) dX10_takePacks_13 (fun zH zlocs zhw hzv1 => ?_)
    refine lv_if_eq (tgt := 31) zhx zhb dX10_takePacks_16 (by decide) (fun zc9 => ?_) (fun zc9 => ?_)
    · replace zhs := br_T zhs zc9
      refine lv_iconst (v := 0) zhx zhb dX10_takePacks_31 (by decide) ?_
      cases zhs
      exact zhret _ _ _ _ dX10_takePacks_32 (by rfl) zhw
    · replace zhs := br_F zhs zc9
      refine lv_aload_n zhx zhb dX10_takePacks_19 rfl (lv_at zhl 1 rfl) ?_
      refine lv_iconst (v := 1) zhx zhb dX10_takePacks_20 (by decide) ?_
      refine lv_iconst (v := 1) zhx zhb dX10_takePacks_21 (by decide) ?_
      refine lv_sipush (v := 198) zhx zhb dX10_takePacks_22 (by decide) ?_
      obtain ⟨zv2, zhp, zhs⟩ := bnd_e zhs
      refine x_cVI (As := [.int 1, .int 1, .int 198]) (rest := []) C zhw zhl (cText_isNumberWithin l D cI h 1 1 198 M zv2 zhp) (by decide) (by decide) kw_13_6 kw_13_7 kw_13_8 kw_1_15 kw_13_9 md_X9_isNumberWithin rfl 1 (wX_c1 h cI M) rfl rfl rfl rfl (Nat.le_of_ble_eq_true rfl) dX10_takePacks_25 (fun zH zlocs zhw hzv2 => ?_)
      refine lv_if_ne (tgt := 33) zhx zhb dX10_takePacks_28 (by decide) (fun zc9 => ?_) (fun zc9 => ?_)
      · replace zhs := br_F zhs zc9
        refine lv_aload_n zhx zhb dX10_takePacks_33 rfl (lv_at zhl 0 rfl) ?_
        refine x_get C zhw inlX10 rfl 4 6 (by decide) kw_3_22 rfl (wX_c4 h cI M) rfl dX10_takePacks_34 ?_
        refine lv_aload_n zhx zhb dX10_takePacks_37 rfl (lv_at zhl 1 rfl) ?_
        refine lv_iconst (v := 0) zhx zhb dX10_takePacks_38 (by decide) ?_
        obtain ⟨zv3, zhp, zhs⟩ := bnd_e zhs
        refine x_cVI (As := [.int 0]) (rest := [.ref (h 19)]) C zhw zhl (cText_number l D cI h 0 M zv3 zhp) (by decide) (by decide) kw_13_14 kw_13_11 kw_13_12 kw_1_15 kw_13_13 md_X9_number rfl 1 (wX_c1 h cI M) rfl rfl rfl rfl (Nat.le_of_ble_eq_true rfl) dX10_takePacks_39 (fun zH zlocs zhw hn9 => ?_)
        refine x_putN C zhw inlX5 rfl tyX5_ok nmX5 19 3 (by decide) (List.mem_of_getElem? (i := 14) rfl) rfl rfl rfl (wX_c19 h cI M) (Nat.le_of_ble_eq_true rfl) (wX_s19_3 h cI M _) dX10_takePacks_42 (fun zH zlocs zhw => ?_)
        obtain ⟨zM4, ze9, zhs⟩ := ltM_e zhs
        rw [← ze9] at zhw; clear ze9
        refine lv_aload_n zhx zhb dX10_takePacks_45 rfl (lv_at zhl 0 rfl) ?_
        refine x_get C zhw inlX10 rfl 4 6 (by decide) kw_3_22 rfl (wX_c4 h cI zM4) rfl dX10_takePacks_46 ?_
        refine lv_aload_n zhx zhb dX10_takePacks_49 rfl (lv_at zhl 1 rfl) ?_
        refine lv_iconst (v := 1) zhx zhb dX10_takePacks_50 (by decide) ?_
        obtain ⟨zv5, zhp, zhs⟩ := bnd_e zhs
        refine x_cVI (As := [.int 1]) (rest := [.ref (h 19)]) C zhw zhl (cText_number l D cI h 1 zM4 zv5 zhp) (by decide) (by decide) kw_13_14 kw_13_11 kw_13_12 kw_1_15 kw_13_13 md_X9_number rfl 1 (wX_c1 h cI zM4) rfl rfl rfl rfl (Nat.le_of_ble_eq_true rfl) dX10_takePacks_51 (fun zH zlocs zhw hn9 => ?_)
        refine x_putN C zhw inlX5 rfl tyX5_ok nmX5 19 4 (by decide) (List.mem_of_getElem? (i := 15) rfl) rfl rfl rfl (wX_c19 h cI zM4) (Nat.le_of_ble_eq_true rfl) (wX_s19_4 h cI zM4 _) dX10_takePacks_54 (fun zH zlocs zhw => ?_)
        obtain ⟨zM6, ze9, zhs⟩ := ltM_e zhs
        rw [← ze9] at zhw; clear ze9
        refine lv_iconst (v := 1) zhx zhb dX10_takePacks_57 (by decide) ?_
        cases zhs
        exact zhret _ _ _ _ dX10_takePacks_58 (by rfl) zhw
      · replace zhs := br_T zhs zc9
        refine lv_iconst (v := 0) zhx zhb dX10_takePacks_31 (by decide) ?_
        cases zhs
        exact zhret _ _ _ _ dX10_takePacks_32 (by rfl) zhw

