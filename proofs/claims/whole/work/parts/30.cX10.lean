-- OffFirst$Party.expectOf in (37, ())
def LParty_expectOf_l_32_10 (N : Nat) (a1 : Int32) (M : Mm) (zv1 : Int32) (zx2 : Int32) (zx3 : Int32) : Option ((Int32 × Int32) ⊕ ((Int32))) :=
  (if (M 37 2) ≤ zx3 then some (.inr zx2)
  else ltI (maxI ((atf 6 (M 38) zx3) - a1) 0) fun zv7 =>
  ltI (zx2 + ((atf 6 (M 39) zx3) * (zv1 + (15 * zv7)))) fun zv8 =>
  ltI (zx3 + 1) fun zv9 =>
  some (.inl (zv8, zv9)))
def sParty_expectOf_l (N : Nat) (a1 : Int32) (M : Mm) : Option Int32 :=
  ltI (minI (a1 * (M 37 3)) (((a1 / 2) * (M 37 4)) + ((remI a1 2) * (M 37 3)))) fun zv1 =>
  (itr (fun z : Int32 × Int32 => LParty_expectOf_l_32_10 N a1 M zv1 z.1 z.2) N (0, 0)).bind fun zv11 =>
  some zv11
set_option maxHeartbeats 4000000 in
set_option maxRecDepth 100000 in
theorem cParty_expectOf_l (l : Launch) (D : va_G) (cI : ClassId) (h : Nat → Nat) (N : Nat) (a1 : Int32) (M : Mm) (r : Int32) (zhs : sParty_expectOf_l N a1 M = some r) : CtI l yX5_expectOf cX5_expectOf 6 (some .int) 2 D cI (wX h cI M) (wX h cI M) [.ref (h 37), .int a1] r := by
  unfold sParty_expectOf_l at zhs
  refine CtI_of (by decide +kernel) (Nat.le_of_ble_eq_true rfl) ⟨_, rfl⟩ ?_
  intro p e s m args below meth c A Q zls zH zlocs C zhw zhl zhret
  have zhx := C.1
  have zhb := C.2.1
  have zhown := C.2.2.2.2.1
  have zhtB := C.2.2.2.2.2.2.1
  have zhl : lv_has zls 6 [(0, .ref (h 37)), (1, .int a1)] := zhl
  refine lv_iload_n zhx zhb dX5_expectOf_0 rfl (lv_at zhl 1 rfl) ?_
  refine lv_aload_n zhx zhb dX5_expectOf_1 rfl (lv_at zhl 0 rfl) ?_
  refine x_get C zhw inlX5 rfl 37 3 (by decide) kw_4_21 rfl (wX_c37 h cI M) rfl dX5_expectOf_2 ?_
  refine lv_imul zhx zhb dX5_expectOf_5 ?_
  refine lv_iload_n zhx zhb dX5_expectOf_6 rfl (lv_at zhl 1 rfl) ?_
  refine lv_iconst (v := 2) zhx zhb dX5_expectOf_7 (by decide) ?_
  refine lv_idiv zhx zhb dX5_expectOf_8 (by decide) ?_
  refine lv_aload_n zhx zhb dX5_expectOf_9 rfl (lv_at zhl 0 rfl) ?_
  refine x_get C zhw inlX5 rfl 37 4 (by decide) kw_4_22 rfl (wX_c37 h cI M) rfl dX5_expectOf_10 ?_
  refine lv_imul zhx zhb dX5_expectOf_13 ?_
  refine lv_iload_n zhx zhb dX5_expectOf_14 rfl (lv_at zhl 1 rfl) ?_
  refine lv_iconst (v := 2) zhx zhb dX5_expectOf_15 (by decide) ?_
  refine lv_irem zhx zhb dX5_expectOf_16 (by decide) ?_
  refine lv_aload_n zhx zhb dX5_expectOf_17 rfl (lv_at zhl 0 rfl) ?_
  refine x_get C zhw inlX5 rfl 37 3 (by decide) kw_4_21 rfl (wX_c37 h cI M) rfl dX5_expectOf_18 ?_
  refine lv_imul zhx zhb dX5_expectOf_21 ?_
  refine lv_iadd zhx zhb dX5_expectOf_22 ?_
  refine va_mmin zhx zhb (C.2.2.2.1.trans zhl.1.symm) zhown (zhtB _ kw_36_13) (zhtB _ kw_36_14) (zhtB _ kw_36_15) (zhtB _ kw_36_16) (Nat.le_of_ble_eq_true rfl) (Nat.le_of_ble_eq_true rfl) (Nat.le_refl 0) (Nat.le_refl 0) dX5_expectOf_23 ?_
  obtain ⟨zv1, ze9, zhs⟩ := ltI_e zhs
  refine lv_topi (fun zy9 ze8 => ?_)
  obtain rfl : zv1 = zy9 := ze9.trans ze8.symm
  clear ze9 ze8
  refine lv_istore_n (lv' := [(2, .int zv1), (0, .ref (h 37)), (1, .int a1)]) zhx zhb dX5_expectOf_26 rfl zhl (by decide) rfl (fun zls zhl => ?_)
  refine lv_iconst (v := 0) zhx zhb dX5_expectOf_27 (by decide) ?_
  refine lv_istore_n (lv' := [(3, .int 0), (2, .int zv1), (0, .ref (h 37)), (1, .int a1)]) zhx zhb dX5_expectOf_28 rfl zhl (by decide) rfl (fun zls zhl => ?_)
  refine lv_iconst (v := 0) zhx zhb dX5_expectOf_29 (by decide) ?_
  refine lv_istore (lv' := [(4, .int 0), (3, .int 0), (2, .int zv1), (0, .ref (h 37)), (1, .int a1)]) zhx zhb dX5_expectOf_30 zhl (by decide) rfl (fun zls zhl => ?_)
  obtain ⟨zq10, zhq10, zhs⟩ := bnd_e zhs
  have hloop10 : ∀ (zn : Nat) (zx2 : Int32) (zx3 : Int32) (zq : (Int32)), itr (fun z : Int32 × Int32 => LParty_expectOf_l_32_10 N a1 M zv1 z.1 z.2) zn (zx2, zx3) = some zq → (∀ (zy1 : Int32), zy1 = zq → ∀ (zH : Heap) (zlocs : List Loc) (zls : Array Slot), lv_has zls 6 [(3, .int zy1)] → Hw D (wX h cI M) A s.heap zH zlocs → W p l e (RM 2) s m args below meth c zH zlocs 0 0 Q (F0 m 84 zls [])) → ∀ (zH : Heap) (zlocs : List Loc) (zls : Array Slot), lv_has zls 6 [(4, .int zx3), (3, .int zx2), (2, .int zv1), (0, .ref (h 37)), (1, .int a1)] → Hw D (wX h cI M) A s.heap zH zlocs → W p l e (RM 2) s m args below meth c zH zlocs 0 0 Q (F0 m 32 zls []) := by
    intro zn
    induction zn with
    | zero => intro zx2 zx3 zq zhq; exact absurd zhq (fun h9 => itr_0 h9)
    | succ zn zih =>
        intro zx2 zx3 zq zhq k32_84 zH zlocs zls zhl zhw
        obtain ⟨zy9, zhs, zhq⟩ := itr_s zhq
        replace zhs : LParty_expectOf_l_32_10 N a1 M zv1 zx2 zx3 = some zy9 := zhs
        unfold LParty_expectOf_l_32_10 at zhs
        refine lv_iload zhx zhb dX5_expectOf_32 (lv_at zhl 0 rfl) ?_
        refine lv_aload_n zhx zhb dX5_expectOf_34 rfl (lv_at zhl 3 rfl) ?_
        refine x_get C zhw inlX5 rfl 37 2 (by decide) kw_12_4 rfl (wX_c37 h cI M) rfl dX5_expectOf_35 ?_
        refine lv_icmp_ge (tgt := 84) zhx zhb dX5_expectOf_38 (by decide) (fun zc9 => ?_) (fun zc9 => ?_)
        · replace zhs := br_T zhs zc9
          cases zhs
          exact k32_84 zx2 (itk_q zhq) zH zlocs zls (lv_sub zhl [1] rfl) zhw
        · replace zhs := br_F zhs zc9
          refine lv_aload_n zhx zhb dX5_expectOf_41 rfl (lv_at zhl 3 rfl) ?_
          refine x_get C zhw inlX5 rfl 37 0 (by decide) kw_4_19 rfl (wX_c37 h cI M) rfl dX5_expectOf_42 ?_
          refine lv_iload zhx zhb dX5_expectOf_45 (lv_at zhl 0 rfl) ?_
          refine x_cSNI (As := [.ref (h 38), .int zx3]) (rest := []) C zhw zhl (c_at l D cI (wX h cI M) 38 6 (h 38) (M 38) (wX_c38 h cI M) (by decide) zx3) (by decide) (by decide) (List.mem_of_getElem? (i := 29) rfl) kw_7_7 kw_1_2 kw_7_8 md_X11_at rfl rfl (Nat.le_of_ble_eq_true rfl) dX5_expectOf_47 (fun zH zlocs zhw hn9 => ?_)
          refine lv_iload_n zhx zhb dX5_expectOf_50 rfl (lv_at zhl 4 rfl) ?_
          refine lv_isub zhx zhb dX5_expectOf_51 ?_
          refine lv_iconst (v := 0) zhx zhb dX5_expectOf_52 (by decide) ?_
          refine va_mmax zhx zhb (C.2.2.2.1.trans zhl.1.symm) zhown (zhtB _ kw_36_17) (zhtB _ kw_36_18) (zhtB _ kw_36_15) (zhtB _ kw_36_19) (Nat.le_of_ble_eq_true rfl) (Nat.le_of_ble_eq_true rfl) (Nat.le_refl 0) (Nat.le_refl 0) dX5_expectOf_53 ?_
          obtain ⟨zv7, ze9, zhs⟩ := ltI_e zhs
          refine lv_topi (fun zy9 ze8 => ?_)
          obtain rfl : zv7 = zy9 := ze9.trans ze8.symm
          clear ze9 ze8
          refine lv_istore (lv' := [(5, .int zv7), (4, .int zx3), (3, .int zx2), (2, .int zv1), (0, .ref (h 37)), (1, .int a1)]) zhx zhb dX5_expectOf_56 zhl (by decide) rfl (fun zls zhl => ?_)
          refine lv_iload_n zhx zhb dX5_expectOf_58 rfl (lv_at zhl 2 rfl) ?_
          refine lv_aload_n zhx zhb dX5_expectOf_59 rfl (lv_at zhl 4 rfl) ?_
          refine x_get C zhw inlX5 rfl 37 1 (by decide) kw_4_20 rfl (wX_c37 h cI M) rfl dX5_expectOf_60 ?_
          refine lv_iload zhx zhb dX5_expectOf_63 (lv_at zhl 1 rfl) ?_
          refine x_cSNI (As := [.ref (h 39), .int zx3]) (rest := [.int zx2]) C zhw zhl (c_at l D cI (wX h cI M) 39 6 (h 39) (M 39) (wX_c39 h cI M) (by decide) zx3) (by decide) (by decide) (List.mem_of_getElem? (i := 29) rfl) kw_7_7 kw_1_2 kw_7_8 md_X11_at rfl rfl (Nat.le_of_ble_eq_true rfl) dX5_expectOf_65 (fun zH zlocs zhw hn9 => ?_)
          refine lv_iload_n zhx zhb dX5_expectOf_68 rfl (lv_at zhl 3 rfl) ?_
          refine lv_bipush (v := 15) zhx zhb dX5_expectOf_69 (by decide) ?_
          refine lv_iload zhx zhb dX5_expectOf_71 (lv_at zhl 0 rfl) ?_
          refine lv_imul zhx zhb dX5_expectOf_73 ?_
          refine lv_iadd zhx zhb dX5_expectOf_74 ?_
          refine lv_imul zhx zhb dX5_expectOf_75 ?_
          refine lv_iadd zhx zhb dX5_expectOf_76 ?_
          obtain ⟨zv8, ze9, zhs⟩ := ltI_e zhs
          refine lv_topi (fun zy9 ze8 => ?_)
          obtain rfl : zv8 = zy9 := ze9.trans ze8.symm
          clear ze9 ze8
          refine lv_istore_n (lv' := [(3, .int zv8), (5, .int zv7), (4, .int zx3), (2, .int zv1), (0, .ref (h 37)), (1, .int a1)]) zhx zhb dX5_expectOf_77 rfl zhl (by decide) rfl (fun zls zhl => ?_)
          obtain ⟨zv9, ze9, zhs⟩ := ltI_e zhs
          refine lv_iinc (v := zv9) (lv' := [(4, .int zv9), (3, .int zv8), (5, .int zv7), (2, .int zv1), (0, .ref (h 37)), (1, .int a1)]) zhx zhb dX5_expectOf_78 zhl (k := 2) rfl (by rw [ze9]; rfl) (by decide) rfl (fun zls zhl => ?_)
          clear ze9
          refine lv_goto (tgt := 32) zhx zhb dX5_expectOf_81 (by decide) ?_
          cases zhs
          exact zih zv8 zv9 zq (itk_l zhq) k32_84 zH zlocs zls (lv_sub zhl [0, 1, 3, 4, 5] rfl) zhw
  refine hloop10 N 0 0 zq10 zhq10 (fun zv11 zhqe zH zlocs zls zhl zhw => ?_) zH zlocs zls zhl zhw
  · subst zhqe
    refine lv_iload_n zhx zhb dX5_expectOf_84 rfl (lv_at zhl 0 rfl) ?_
    cases zhs
    exact zhret _ _ _ _ dX5_expectOf_85 (by rfl) zhw

-- OffFirst.expect in (0, ())
def sOff_expect (N : Nat) (a1 : Int32) (M : Mm) : Option Int32 :=
  (sOff_isWithin a1 0 9).bind fun zv1 =>
  (if zv1 = 0 then some (-1)
  else (if (M 37 2) ≤ 0 then some (-4)
  else (sParty_expectOf_l N a1 M).bind fun zv3 =>
  some zv3))
set_option maxHeartbeats 4000000 in
set_option maxRecDepth 100000 in
theorem cOff_expect (l : Launch) (D : va_G) (cI : ClassId) (h : Nat → Nat) (N : Nat) (a1 : Int32) (M : Mm) (r : Int32) (zhs : sOff_expect N a1 M = some r) : CtI l yX11_expect cX11_expect 2 (some .int) 3 D cI (wX h cI M) (wX h cI M) [.ref (h 0), .int a1] r := by
  unfold sOff_expect at zhs
  refine CtI_of (by decide +kernel) (Nat.le_of_ble_eq_true rfl) ⟨_, rfl⟩ ?_
  intro p e s m args below meth c A Q zls zH zlocs C zhw zhl zhret
  have zhx := C.1
  have zhb := C.2.1
  have zhown := C.2.2.2.2.1
  have zhtB := C.2.2.2.2.2.2.1
  have zhl : lv_has zls 2 [(0, .ref (h 0)), (1, .int a1)] := zhl
  refine lv_iload_n zhx zhb dX11_expect_0 rfl (lv_at zhl 1 rfl) ?_
  refine lv_iconst (v := 0) zhx zhb dX11_expect_1 (by decide) ?_
  refine lv_bipush (v := 9) zhx zhb dX11_expect_2 (by decide) ?_
  obtain ⟨zv1, zhp, zhs⟩ := bnd_e zhs
  refine x_cSI (As := [.int a1, .int 0, .int 9]) (rest := []) C zhw zhl (cOff_isWithin l D cI h a1 0 9 M zv1 zhp) (by decide) (by decide) kw_9_22 kw_9_23 kw_1_2 kw_10_0 md_X11_isWithin rfl rfl (Nat.le_of_ble_eq_true rfl) dX11_expect_4 (fun zH zlocs zhw hzv1 => ?_)
  refine lv_if_ne (tgt := 12) zhx zhb dX11_expect_7 (by decide) (fun zc9 => ?_) (fun zc9 => ?_)
  · replace zhs := br_F zhs zc9
    refine lv_aload_n zhx zhb dX11_expect_12 rfl (lv_at zhl 0 rfl) ?_
    refine x_get C zhw inlX11 rfl 0 2 (by decide) kw_1_21 rfl (wX_c0 h cI M) rfl dX11_expect_13 ?_
    refine x_getN C zhw inlX10 rfl 22 6 (by decide) (List.mem_of_getElem? (i := 27) rfl) rfl (wX_c22 h cI M) rfl dX11_expect_16 ?_
    refine x_getN C zhw inlX5 rfl 37 2 (by decide) (List.mem_of_getElem? (i := 13) rfl) rfl (wX_c37 h cI M) rfl dX11_expect_19 ?_
    refine lv_if_le (tgt := 39) zhx zhb dX11_expect_22 (by decide) (fun zc9 => ?_) (fun zc9 => ?_)
    · replace zhs := br_T zhs zc9
      refine lv_bipush (v := (-4)) zhx zhb dX11_expect_39 (by decide) ?_
      cases zhs
      exact zhret _ _ _ _ dX11_expect_41 (by rfl) zhw
    · replace zhs := br_F zhs zc9
      refine lv_aload_n zhx zhb dX11_expect_25 rfl (lv_at zhl 0 rfl) ?_
      refine x_get C zhw inlX11 rfl 0 2 (by decide) kw_1_21 rfl (wX_c0 h cI M) rfl dX11_expect_26 ?_
      refine x_getN C zhw inlX10 rfl 22 6 (by decide) (List.mem_of_getElem? (i := 27) rfl) rfl (wX_c22 h cI M) rfl dX11_expect_29 ?_
      refine lv_iload_n zhx zhb dX11_expect_32 rfl (lv_at zhl 1 rfl) ?_
      obtain ⟨zv3, zhp, zhs⟩ := bnd_e zhs
      refine x_cVI (As := [.int a1]) (rest := []) C zhw zhl (cParty_expectOf_l l D cI h N a1 M zv3 zhp) (by decide) (by decide) kw_36_9 kw_36_10 kw_36_11 kw_3_21 kw_36_12 md_X5_expectOf rfl 37 (wX_c37 h cI M) rfl rfl rfl rfl (Nat.le_of_ble_eq_true rfl) dX11_expect_33 (fun zH zlocs zhw hn9 => ?_)
      refine lv_goto (tgt := 41) zhx zhb dX11_expect_36 (by decide) ?_
      cases zhs
      exact zhret _ _ _ _ dX11_expect_41 (by rfl) zhw
  · replace zhs := br_T zhs zc9
    refine lv_iconst (v := (-1)) zhx zhb dX11_expect_10 (by decide) ?_
    cases zhs
    exact zhret _ _ _ _ dX11_expect_11 (by rfl) zhw

-- OffFirst$Party.bestPacks in (37, ())
def LParty_bestPacks_l_4_11 (N : Nat) (M : Mm) (zx1 : Int32) (zx2 : Int32) : Option ((Int32 × Int32) ⊕ ((Int32))) :=
  (if 9 < zx2 then some (.inr zx1)
  else (sParty_expectOf_l N zx2 M).bind fun zv7 =>
  (sParty_expectOf_l N zx1 M).bind fun zv8 =>
  (if zv8 ≤ zv7 then ltI (zx2 + 1) fun zv9 =>
  some (.inl (zx1, zv9))
  else ltI (zx2 + 1) fun zv10 =>
  some (.inl (zx2, zv10))))
def sParty_bestPacks_l (N : Nat) (M : Mm) : Option Int32 :=
  (itr (fun z : Int32 × Int32 => LParty_bestPacks_l_4_11 N M z.1 z.2) N (0, 1)).bind fun zv12 =>
  some zv12
set_option maxHeartbeats 4000000 in
set_option maxRecDepth 100000 in
theorem cParty_bestPacks_l (l : Launch) (D : va_G) (cI : ClassId) (h : Nat → Nat) (N : Nat) (M : Mm) (r : Int32) (zhs : sParty_bestPacks_l N M = some r) : CtI l yX5_bestPacks cX5_bestPacks 3 (some .int) 3 D cI (wX h cI M) (wX h cI M) [.ref (h 37)] r := by
  unfold sParty_bestPacks_l at zhs
  refine CtI_of (by decide +kernel) (Nat.le_of_ble_eq_true rfl) ⟨_, rfl⟩ ?_
  intro p e s m args below meth c A Q zls zH zlocs C zhw zhl zhret
  have zhx := C.1
  have zhb := C.2.1
  have zhown := C.2.2.2.2.1
  have zhtB := C.2.2.2.2.2.2.1
  have zhl : lv_has zls 3 [(0, .ref (h 37))] := zhl
  refine lv_iconst (v := 0) zhx zhb dX5_bestPacks_0 (by decide) ?_
  refine lv_istore_n (lv' := [(1, .int 0), (0, .ref (h 37))]) zhx zhb dX5_bestPacks_1 rfl zhl (by decide) rfl (fun zls zhl => ?_)
  refine lv_iconst (v := 1) zhx zhb dX5_bestPacks_2 (by decide) ?_
  refine lv_istore_n (lv' := [(2, .int 1), (1, .int 0), (0, .ref (h 37))]) zhx zhb dX5_bestPacks_3 rfl zhl (by decide) rfl (fun zls zhl => ?_)
  obtain ⟨zq11, zhq11, zhs⟩ := bnd_e zhs
  have hloop11 : ∀ (zn : Nat) (zx1 : Int32) (zx2 : Int32) (zq : (Int32)), itr (fun z : Int32 × Int32 => LParty_bestPacks_l_4_11 N M z.1 z.2) zn (zx1, zx2) = some zq → (∀ (zy1 : Int32), zy1 = zq → ∀ (zH : Heap) (zlocs : List Loc) (zls : Array Slot), lv_has zls 3 [(1, .int zy1)] → Hw D (wX h cI M) A s.heap zH zlocs → W p l e (RM 3) s m args below meth c zH zlocs 0 0 Q (F0 m 31 zls [])) → ∀ (zH : Heap) (zlocs : List Loc) (zls : Array Slot), lv_has zls 3 [(2, .int zx2), (1, .int zx1), (0, .ref (h 37))] → Hw D (wX h cI M) A s.heap zH zlocs → W p l e (RM 3) s m args below meth c zH zlocs 0 0 Q (F0 m 4 zls []) := by
    intro zn
    induction zn with
    | zero => intro zx1 zx2 zq zhq; exact absurd zhq (fun h9 => itr_0 h9)
    | succ zn zih =>
        intro zx1 zx2 zq zhq k4_31 zH zlocs zls zhl zhw
        obtain ⟨zy9, zhs, zhq⟩ := itr_s zhq
        replace zhs : LParty_bestPacks_l_4_11 N M zx1 zx2 = some zy9 := zhs
        unfold LParty_bestPacks_l_4_11 at zhs
        refine lv_iload_n zhx zhb dX5_bestPacks_4 rfl (lv_at zhl 0 rfl) ?_
        refine lv_bipush (v := 9) zhx zhb dX5_bestPacks_5 (by decide) ?_
        refine lv_icmp_gt (tgt := 31) zhx zhb dX5_bestPacks_7 (by decide) (fun zc9 => ?_) (fun zc9 => ?_)
        · replace zhs := br_T zhs zc9
          cases zhs
          exact k4_31 zx1 (itk_q zhq) zH zlocs zls (lv_sub zhl [1] rfl) zhw
        · replace zhs := br_F zhs zc9
          refine lv_aload_n zhx zhb dX5_bestPacks_10 rfl (lv_at zhl 2 rfl) ?_
          refine lv_iload_n zhx zhb dX5_bestPacks_11 rfl (lv_at zhl 0 rfl) ?_
          obtain ⟨zv7, zhp, zhs⟩ := bnd_e zhs
          refine x_cVI (As := [.int zx2]) (rest := []) C zhw zhl (cParty_expectOf_l l D cI h N zx2 M zv7 zhp) (by decide) (by decide) kw_37_13 kw_36_10 kw_36_11 kw_3_21 kw_36_12 md_X5_expectOf rfl 37 (wX_c37 h cI M) rfl rfl rfl rfl (Nat.le_of_ble_eq_true rfl) dX5_bestPacks_12 (fun zH zlocs zhw hn9 => ?_)
          refine lv_aload_n zhx zhb dX5_bestPacks_15 rfl (lv_at zhl 2 rfl) ?_
          refine lv_iload_n zhx zhb dX5_bestPacks_16 rfl (lv_at zhl 1 rfl) ?_
          obtain ⟨zv8, zhp, zhs⟩ := bnd_e zhs
          refine x_cVI (As := [.int zx1]) (rest := [.int zv7]) C zhw zhl (cParty_expectOf_l l D cI h N zx1 M zv8 zhp) (by decide) (by decide) kw_37_13 kw_36_10 kw_36_11 kw_3_21 kw_36_12 md_X5_expectOf rfl 37 (wX_c37 h cI M) rfl rfl rfl rfl (Nat.le_of_ble_eq_true rfl) dX5_bestPacks_17 (fun zH zlocs zhw hn9 => ?_)
          refine lv_icmp_ge (tgt := 25) zhx zhb dX5_bestPacks_20 (by decide) (fun zc9 => ?_) (fun zc9 => ?_)
          · replace zhs := br_T zhs zc9
            obtain ⟨zv9, ze9, zhs⟩ := ltI_e zhs
            refine lv_iinc (v := zv9) (lv' := [(2, .int zv9), (1, .int zx1), (0, .ref (h 37))]) zhx zhb dX5_bestPacks_25 zhl (k := 0) rfl (by rw [ze9]; rfl) (by decide) rfl (fun zls zhl => ?_)
            clear ze9
            refine lv_goto (tgt := 4) zhx zhb dX5_bestPacks_28 (by decide) ?_
            cases zhs
            exact zih zx1 zv9 zq (itk_l zhq) k4_31 zH zlocs zls zhl zhw
          · replace zhs := br_F zhs zc9
            refine lv_iload_n zhx zhb dX5_bestPacks_23 rfl (lv_at zhl 0 rfl) ?_
            refine lv_istore_n (lv' := [(1, .int zx2), (2, .int zx2), (0, .ref (h 37))]) zhx zhb dX5_bestPacks_24 rfl zhl (by decide) rfl (fun zls zhl => ?_)
            obtain ⟨zv10, ze9, zhs⟩ := ltI_e zhs
            refine lv_iinc (v := zv10) (lv' := [(2, .int zv10), (1, .int zx2), (0, .ref (h 37))]) zhx zhb dX5_bestPacks_25 zhl (k := 1) rfl (by rw [ze9]; rfl) (by decide) rfl (fun zls zhl => ?_)
            clear ze9
            refine lv_goto (tgt := 4) zhx zhb dX5_bestPacks_28 (by decide) ?_
            cases zhs
            exact zih zx2 zv10 zq (itk_l zhq) k4_31 zH zlocs zls zhl zhw
  refine hloop11 N 0 1 zq11 zhq11 (fun zv12 zhqe zH zlocs zls zhl zhw => ?_) zH zlocs zls zhl zhw
  · subst zhqe
    refine lv_iload_n zhx zhb dX5_bestPacks_31 rfl (lv_at zhl 0 rfl) ?_
    cases zhs
    exact zhret _ _ _ _ dX5_bestPacks_32 (by rfl) zhw

-- OffFirst.buy in (0, ())
def sOff_buy (N : Nat) (M : Mm) : Option Int32 :=
  (if (M 37 2) ≤ 0 then some (-4)
  else (sParty_bestPacks_l N M).bind fun zv2 =>
  some zv2)
set_option maxHeartbeats 4000000 in
set_option maxRecDepth 100000 in
theorem cOff_buy (l : Launch) (D : va_G) (cI : ClassId) (h : Nat → Nat) (N : Nat) (M : Mm) (r : Int32) (zhs : sOff_buy N M = some r) : CtI l yX11_buy cX11_buy 1 (some .int) 4 D cI (wX h cI M) (wX h cI M) [.ref (h 0)] r := by
  unfold sOff_buy at zhs
  refine CtI_of (by decide +kernel) (Nat.le_of_ble_eq_true rfl) ⟨_, rfl⟩ ?_
  intro p e s m args below meth c A Q zls zH zlocs C zhw zhl zhret
  have zhx := C.1
  have zhb := C.2.1
  have zhown := C.2.2.2.2.1
  have zhtB := C.2.2.2.2.2.2.1
  have zhl : lv_has zls 1 [(0, .ref (h 0))] := zhl
  refine lv_aload_n zhx zhb dX11_buy_0 rfl (lv_at zhl 0 rfl) ?_
  refine x_get C zhw inlX11 rfl 0 2 (by decide) kw_1_21 rfl (wX_c0 h cI M) rfl dX11_buy_1 ?_
  refine x_getN C zhw inlX10 rfl 22 6 (by decide) (List.mem_of_getElem? (i := 27) rfl) rfl (wX_c22 h cI M) rfl dX11_buy_4 ?_
  refine x_getN C zhw inlX5 rfl 37 2 (by decide) (List.mem_of_getElem? (i := 13) rfl) rfl (wX_c37 h cI M) rfl dX11_buy_7 ?_
  refine lv_if_le (tgt := 26) zhx zhb dX11_buy_10 (by decide) (fun zc9 => ?_) (fun zc9 => ?_)
  · replace zhs := br_T zhs zc9
    refine lv_bipush (v := (-4)) zhx zhb dX11_buy_26 (by decide) ?_
    cases zhs
    exact zhret _ _ _ _ dX11_buy_28 (by rfl) zhw
  · replace zhs := br_F zhs zc9
    refine lv_aload_n zhx zhb dX11_buy_13 rfl (lv_at zhl 0 rfl) ?_
    refine x_get C zhw inlX11 rfl 0 2 (by decide) kw_1_21 rfl (wX_c0 h cI M) rfl dX11_buy_14 ?_
    refine x_getN C zhw inlX10 rfl 22 6 (by decide) (List.mem_of_getElem? (i := 27) rfl) rfl (wX_c22 h cI M) rfl dX11_buy_17 ?_
    obtain ⟨zv2, zhp, zhs⟩ := bnd_e zhs
    refine x_cVI (As := []) (rest := []) C zhw zhl (cParty_bestPacks_l l D cI h N M zv2 zhp) (by decide) (by decide) kw_37_9 kw_37_10 kw_37_11 kw_3_21 kw_37_12 md_X5_bestPacks rfl 37 (wX_c37 h cI M) rfl rfl rfl rfl (Nat.le_of_ble_eq_true rfl) dX11_buy_20 (fun zH zlocs zhw hn9 => ?_)
    refine lv_goto (tgt := 28) zhx zhb dX11_buy_23 (by decide) ?_
    cases zhs
    exact zhret _ _ _ _ dX11_buy_28 (by rfl) zhw

-- OffFirst$Foods.printedOf in (27, ())
def sFoods_printedOf_l (a1 : Int32) (M : Mm) : Option Int32 :=
  some (atf 10 (M 32) a1)
set_option maxHeartbeats 4000000 in
set_option maxRecDepth 100000 in
theorem cFoods_printedOf_l (l : Launch) (D : va_G) (cI : ClassId) (h : Nat → Nat) (a1 : Int32) (M : Mm) (r : Int32) (zhs : sFoods_printedOf_l a1 M = some r) : CtI l yX2_printedOf cX2_printedOf 2 (some .int) 2 D cI (wX h cI M) (wX h cI M) [.ref (h 27), .int a1] r := by
  unfold sFoods_printedOf_l at zhs
  refine CtI_of (by decide +kernel) (Nat.le_of_ble_eq_true rfl) ⟨_, rfl⟩ ?_
  intro p e s m args below meth c A Q zls zH zlocs C zhw zhl zhret
  have zhx := C.1
  have zhb := C.2.1
  have zhown := C.2.2.2.2.1
  have zhtB := C.2.2.2.2.2.2.1
  have zhl : lv_has zls 2 [(0, .ref (h 27)), (1, .int a1)] := zhl
  refine lv_aload_n zhx zhb dX2_printedOf_0 rfl (lv_at zhl 0 rfl) ?_
  refine x_get C zhw inlX2 rfl 27 4 (by decide) kw_4_13 rfl (wX_c27 h cI M) rfl dX2_printedOf_1 ?_
  refine lv_iload_n zhx zhb dX2_printedOf_4 rfl (lv_at zhl 1 rfl) ?_
  refine x_cSNI (As := [.ref (h 32), .int a1]) (rest := []) C zhw zhl (c_at l D cI (wX h cI M) 32 10 (h 32) (M 32) (wX_c32 h cI M) (by decide) a1) (by decide) (by decide) (List.mem_of_getElem? (i := 9) rfl) kw_7_7 kw_1_2 kw_7_8 md_X11_at rfl rfl (Nat.le_of_ble_eq_true rfl) dX2_printedOf_5 (fun zH zlocs zhw hn9 => ?_)
  cases zhs
  exact zhret _ _ _ _ dX2_printedOf_8 (by rfl) zhw

-- OffFirst$Fridge.errorsByPrint in (58, ())
def LFridge_errorsByPrint_16_32 (N : Nat) (a1 : Int32) (M : Mm) (zv1 : Int32) (zx2 : Int32) (zx3 : Int32) : Option ((Int32 × Int32) ⊕ ((Int32))) :=
  (if (M 27 7) ≤ zx3 then some (.inr zx2)
  else (sFoods_printedOf_l zx3 M).bind fun zv18 =>
  (((if zv1 ≤ zv18 then some 0
  else some 1) : Option (Int32))).bind fun zv19 =>
  (sStock_isThere zx3 M).bind fun zv21 =>
  (if zv21 = 0 then ltI (zx3 + 1) fun zv24 =>
  some (.inl (zx2, zv24))
  else (sFridge_isOff zx3 M).bind fun zv25 =>
  (if zv25 = a1 then (if zv19 = a1 then ltI (zx3 + 1) fun zv29 =>
  some (.inl (zx2, zv29))
  else ltI (zx2 + 1) fun zv30 =>
  ltI (zx3 + 1) fun zv31 =>
  some (.inl (zv30, zv31)))
  else ltI (zx3 + 1) fun zv27 =>
  some (.inl (zx2, zv27)))))
def sFridge_errorsByPrint (N : Nat) (a1 : Int32) (M : Mm) : Option Int32 :=
  ltI ((M 40 6) / 24) fun zv1 =>
  (itr (fun z : Int32 × Int32 => LFridge_errorsByPrint_16_32 N a1 M zv1 z.1 z.2) N (0, 0)).bind fun zv33 =>
  some zv33
set_option maxHeartbeats 4000000 in
set_option maxRecDepth 100000 in
theorem cFridge_errorsByPrint (l : Launch) (D : va_G) (cI : ClassId) (h : Nat → Nat) (N : Nat) (a1 : Int32) (M : Mm) (r : Int32) (zhs : sFridge_errorsByPrint N a1 M = some r) : CtI l yX3_errorsByPrint cX3_errorsByPrint 6 (some .int) 5 D cI (wX h cI M) (wX h cI M) [.ref (h 58), .int a1] r := by
  unfold sFridge_errorsByPrint at zhs
  refine CtI_of (by decide +kernel) (Nat.le_of_ble_eq_true rfl) ⟨_, rfl⟩ ?_
  intro p e s m args below meth c A Q zls zH zlocs C zhw zhl zhret
  have zhx := C.1
  have zhb := C.2.1
  have zhown := C.2.2.2.2.1
  have zhtB := C.2.2.2.2.2.2.1
  have zhl : lv_has zls 6 [(0, .ref (h 58)), (1, .int a1)] := zhl
  refine lv_aload_n zhx zhb dX3_errorsByPrint_0 rfl (lv_at zhl 0 rfl) ?_
  refine x_get C zhw inlX3 rfl 58 1 (by decide) kw_5_12 rfl (wX_c58 h cI M) rfl dX3_errorsByPrint_1 ?_
  refine x_getN C zhw inlX8 rfl 40 6 (by decide) (List.mem_of_getElem? (i := 30) rfl) rfl (wX_c40 h cI M) rfl dX3_errorsByPrint_4 ?_
  refine lv_bipush (v := 24) zhx zhb dX3_errorsByPrint_7 (by decide) ?_
  refine lv_idiv zhx zhb dX3_errorsByPrint_9 (by decide) ?_
  obtain ⟨zv1, ze9, zhs⟩ := ltI_e zhs
  refine lv_topi (fun zy9 ze8 => ?_)
  obtain rfl : zv1 = zy9 := ze9.trans ze8.symm
  clear ze9 ze8
  refine lv_istore_n (lv' := [(2, .int zv1), (0, .ref (h 58)), (1, .int a1)]) zhx zhb dX3_errorsByPrint_10 rfl zhl (by decide) rfl (fun zls zhl => ?_)
  refine lv_iconst (v := 0) zhx zhb dX3_errorsByPrint_11 (by decide) ?_
  refine lv_istore_n (lv' := [(3, .int 0), (2, .int zv1), (0, .ref (h 58)), (1, .int a1)]) zhx zhb dX3_errorsByPrint_12 rfl zhl (by decide) rfl (fun zls zhl => ?_)
  refine lv_iconst (v := 0) zhx zhb dX3_errorsByPrint_13 (by decide) ?_
  refine lv_istore (lv' := [(4, .int 0), (3, .int 0), (2, .int zv1), (0, .ref (h 58)), (1, .int a1)]) zhx zhb dX3_errorsByPrint_14 zhl (by decide) rfl (fun zls zhl => ?_)
  obtain ⟨zq32, zhq32, zhs⟩ := bnd_e zhs
  have hloop32 : ∀ (zn : Nat) (zx2 : Int32) (zx3 : Int32) (zq : (Int32)), itr (fun z : Int32 × Int32 => LFridge_errorsByPrint_16_32 N a1 M zv1 z.1 z.2) zn (zx2, zx3) = some zq → (∀ (zy1 : Int32), zy1 = zq → ∀ (zH : Heap) (zlocs : List Loc) (zls : Array Slot), lv_has zls 6 [(3, .int zy1)] → Hw D (wX h cI M) A s.heap zH zlocs → W p l e (RM 5) s m args below meth c zH zlocs 0 0 Q (F0 m 91 zls [])) → ∀ (zH : Heap) (zlocs : List Loc) (zls : Array Slot), lv_has zls 6 [(4, .int zx3), (3, .int zx2), (2, .int zv1), (0, .ref (h 58)), (1, .int a1)] → Hw D (wX h cI M) A s.heap zH zlocs → W p l e (RM 5) s m args below meth c zH zlocs 0 0 Q (F0 m 16 zls []) := by
    intro zn
    induction zn with
    | zero => intro zx2 zx3 zq zhq; exact absurd zhq (fun h9 => itr_0 h9)
    | succ zn zih =>
        intro zx2 zx3 zq zhq k16_91 zH zlocs zls zhl zhw
        obtain ⟨zy9, zhs, zhq⟩ := itr_s zhq
        replace zhs : LFridge_errorsByPrint_16_32 N a1 M zv1 zx2 zx3 = some zy9 := zhs
        unfold LFridge_errorsByPrint_16_32 at zhs
        refine lv_iload zhx zhb dX3_errorsByPrint_16 (lv_at zhl 0 rfl) ?_
        refine lv_aload_n zhx zhb dX3_errorsByPrint_18 rfl (lv_at zhl 3 rfl) ?_
        refine x_get C zhw inlX3 rfl 58 0 (by decide) kw_5_11 rfl (wX_c58 h cI M) rfl dX3_errorsByPrint_19 ?_
        refine x_getN C zhw inlX10 rfl 22 1 (by decide) (List.mem_of_getElem? (i := 20) rfl) rfl (wX_c22 h cI M) rfl dX3_errorsByPrint_22 ?_
        refine x_getN C zhw inlX2 rfl 27 7 (by decide) (List.mem_of_getElem? (i := 8) rfl) rfl (wX_c27 h cI M) rfl dX3_errorsByPrint_25 ?_
        refine lv_icmp_ge (tgt := 91) zhx zhb dX3_errorsByPrint_28 (by decide) (fun zc9 => ?_) (fun zc9 => ?_)
        · replace zhs := br_T zhs zc9
          cases zhs
          exact k16_91 zx2 (itk_q zhq) zH zlocs zls (lv_sub zhl [1] rfl) zhw
        · replace zhs := br_F zhs zc9
          refine lv_iload_n zhx zhb dX3_errorsByPrint_31 rfl (lv_at zhl 2 rfl) ?_
          refine lv_aload_n zhx zhb dX3_errorsByPrint_32 rfl (lv_at zhl 3 rfl) ?_
          refine x_get C zhw inlX3 rfl 58 0 (by decide) kw_5_11 rfl (wX_c58 h cI M) rfl dX3_errorsByPrint_33 ?_
          refine x_getN C zhw inlX10 rfl 22 1 (by decide) (List.mem_of_getElem? (i := 20) rfl) rfl (wX_c22 h cI M) rfl dX3_errorsByPrint_36 ?_
          refine lv_iload zhx zhb dX3_errorsByPrint_39 (lv_at zhl 0 rfl) ?_
          obtain ⟨zv18, zhp, zhs⟩ := bnd_e zhs
          refine x_cVI (As := [.int zx3]) (rest := [.int zv1]) C zhw zhl (cFoods_printedOf_l l D cI h zx3 M zv18 zhp) (by decide) (by decide) kw_38_2 kw_38_3 kw_38_4 kw_3_15 kw_38_5 md_X2_printedOf rfl 27 (wX_c27 h cI M) rfl rfl rfl rfl (Nat.le_of_ble_eq_true rfl) dX3_errorsByPrint_41 (fun zH zlocs zhw hn9 => ?_)
          obtain ⟨zv19, zhq, zhs⟩ := bnd_e zhs
          have hJ20 : ∀ (zH : Heap) (zlocs : List Loc) (zls : Array Slot), lv_has zls 6 [(4, .int zx3), (3, .int zx2), (2, .int zv1), (0, .ref (h 58)), (1, .int a1)] → Hw D (wX h cI M) A s.heap zH zlocs → W p l e (RM 5) s m args below meth c zH zlocs 0 0 Q (F0 m 52 zls [.int zv19]) := by
            intro zH zlocs zls zhl zhw
            refine lv_istore (lv' := [(5, .int zv19), (4, .int zx3), (3, .int zx2), (2, .int zv1), (0, .ref (h 58)), (1, .int a1)]) zhx zhb dX3_errorsByPrint_52 zhl (by decide) rfl (fun zls zhl => ?_)
            refine lv_aload_n zhx zhb dX3_errorsByPrint_54 rfl (lv_at zhl 4 rfl) ?_
            refine x_get C zhw inlX3 rfl 58 1 (by decide) kw_5_12 rfl (wX_c58 h cI M) rfl dX3_errorsByPrint_55 ?_
            refine lv_iload zhx zhb dX3_errorsByPrint_58 (lv_at zhl 1 rfl) ?_
            obtain ⟨zv21, zhp, zhs⟩ := bnd_e zhs
            refine x_cVI (As := [.int zx3]) (rest := []) C zhw zhl (cStock_isThere l D cI h zx3 M zv21 zhp) (by decide) (by decide) kw_22_1 kw_22_2 kw_22_3 kw_2_0 kw_22_4 md_X8_isThere rfl 40 (wX_c40 h cI M) rfl rfl rfl rfl (Nat.le_of_ble_eq_true rfl) dX3_errorsByPrint_60 (fun zH zlocs zhw hzv21 => ?_)
            refine lv_if_eq (tgt := 85) zhx zhb dX3_errorsByPrint_63 (by decide) (fun zc9 => ?_) (fun zc9 => ?_)
            · replace zhs := br_T zhs zc9
              obtain ⟨zv24, ze9, zhs⟩ := ltI_e zhs
              refine lv_iinc (v := zv24) (lv' := [(4, .int zv24), (5, .int zv19), (3, .int zx2), (2, .int zv1), (0, .ref (h 58)), (1, .int a1)]) zhx zhb dX3_errorsByPrint_85 zhl (k := 1) rfl (by rw [ze9]; rfl) (by decide) rfl (fun zls zhl => ?_)
              clear ze9
              refine lv_goto (tgt := 16) zhx zhb dX3_errorsByPrint_88 (by decide) ?_
              cases zhs
              exact zih zx2 zv24 zq (itk_l zhq) k16_91 zH zlocs zls (lv_sub zhl [0, 2, 3, 4, 5] rfl) zhw
            · replace zhs := br_F zhs zc9
              refine lv_aload_n zhx zhb dX3_errorsByPrint_66 rfl (lv_at zhl 4 rfl) ?_
              refine lv_iload zhx zhb dX3_errorsByPrint_67 (lv_at zhl 1 rfl) ?_
              obtain ⟨zv25, zhp, zhs⟩ := bnd_e zhs
              refine x_cVI (As := [.int zx3]) (rest := []) C zhw zhl (cFridge_isOff l D cI h zx3 M zv25 zhp) (by decide) (by decide) kw_23_11 kw_19_9 kw_19_10 kw_2_6 kw_19_11 md_X3_isOff rfl 58 (wX_c58 h cI M) rfl rfl rfl rfl (Nat.le_of_ble_eq_true rfl) dX3_errorsByPrint_69 (fun zH zlocs zhw hzv25 => ?_)
              refine lv_iload_n zhx zhb dX3_errorsByPrint_72 rfl (lv_at zhl 5 rfl) ?_
              refine lv_icmp_ne (tgt := 85) zhx zhb dX3_errorsByPrint_73 (by decide) (fun zc9 => ?_) (fun zc9 => ?_)
              · replace zhs := br_F zhs zc9
                obtain ⟨zv27, ze9, zhs⟩ := ltI_e zhs
                refine lv_iinc (v := zv27) (lv' := [(4, .int zv27), (5, .int zv19), (3, .int zx2), (2, .int zv1), (0, .ref (h 58)), (1, .int a1)]) zhx zhb dX3_errorsByPrint_85 zhl (k := 1) rfl (by rw [ze9]; rfl) (by decide) rfl (fun zls zhl => ?_)
                clear ze9
                refine lv_goto (tgt := 16) zhx zhb dX3_errorsByPrint_88 (by decide) ?_
                cases zhs
                exact zih zx2 zv27 zq (itk_l zhq) k16_91 zH zlocs zls (lv_sub zhl [0, 2, 3, 4, 5] rfl) zhw
              · replace zhs := br_T zhs zc9
                refine lv_iload zhx zhb dX3_errorsByPrint_76 (lv_at zhl 0 rfl) ?_
                refine lv_iload_n zhx zhb dX3_errorsByPrint_78 rfl (lv_at zhl 5 rfl) ?_
                refine lv_icmp_eq (tgt := 85) zhx zhb dX3_errorsByPrint_79 (by decide) (fun zc9 => ?_) (fun zc9 => ?_)
                · replace zhs := br_T zhs zc9
                  obtain ⟨zv29, ze9, zhs⟩ := ltI_e zhs
                  refine lv_iinc (v := zv29) (lv' := [(4, .int zv29), (5, .int zv19), (3, .int zx2), (2, .int zv1), (0, .ref (h 58)), (1, .int a1)]) zhx zhb dX3_errorsByPrint_85 zhl (k := 1) rfl (by rw [ze9]; rfl) (by decide) rfl (fun zls zhl => ?_)
                  clear ze9
                  refine lv_goto (tgt := 16) zhx zhb dX3_errorsByPrint_88 (by decide) ?_
                  cases zhs
                  exact zih zx2 zv29 zq (itk_l zhq) k16_91 zH zlocs zls (lv_sub zhl [0, 2, 3, 4, 5] rfl) zhw
                · replace zhs := br_F zhs zc9
                  obtain ⟨zv30, ze9, zhs⟩ := ltI_e zhs
                  refine lv_iinc (v := zv30) (lv' := [(3, .int zv30), (5, .int zv19), (4, .int zx3), (2, .int zv1), (0, .ref (h 58)), (1, .int a1)]) zhx zhb dX3_errorsByPrint_82 zhl (k := 2) rfl (by rw [ze9]; rfl) (by decide) rfl (fun zls zhl => ?_)
                  clear ze9
                  obtain ⟨zv31, ze9, zhs⟩ := ltI_e zhs
                  refine lv_iinc (v := zv31) (lv' := [(4, .int zv31), (3, .int zv30), (5, .int zv19), (2, .int zv1), (0, .ref (h 58)), (1, .int a1)]) zhx zhb dX3_errorsByPrint_85 zhl (k := 2) rfl (by rw [ze9]; rfl) (by decide) rfl (fun zls zhl => ?_)
                  clear ze9
                  refine lv_goto (tgt := 16) zhx zhb dX3_errorsByPrint_88 (by decide) ?_
                  cases zhs
                  exact zih zv30 zv31 zq (itk_l zhq) k16_91 zH zlocs zls (lv_sub zhl [0, 1, 3, 4, 5] rfl) zhw
          replace zhs := zhq
          clear zhq
          refine lv_icmp_le (tgt := 51) zhx zhb dX3_errorsByPrint_44 (by decide) (fun zc9 => ?_) (fun zc9 => ?_)
          · replace zhs := br_T zhs zc9
            refine lv_iconst (v := 0) zhx zhb dX3_errorsByPrint_51 (by decide) ?_
            cases zhs
            exact hJ20 zH zlocs zls zhl zhw
          · replace zhs := br_F zhs zc9
            refine lv_iconst (v := 1) zhx zhb dX3_errorsByPrint_47 (by decide) ?_
            refine lv_goto (tgt := 52) zhx zhb dX3_errorsByPrint_48 (by decide) ?_
            cases zhs
            exact hJ20 zH zlocs zls zhl zhw
  refine hloop32 N 0 0 zq32 zhq32 (fun zv33 zhqe zH zlocs zls zhl zhw => ?_) zH zlocs zls zhl zhw
  · subst zhqe
    refine lv_iload_n zhx zhb dX3_errorsByPrint_91 rfl (lv_at zhl 0 rfl) ?_
    cases zhs
    exact zhret _ _ _ _ dX3_errorsByPrint_92 (by rfl) zhw

-- OffFirst.print in (0, ())
def sOff_print (N : Nat) (a1 : Int32) (M : Mm) : Option Int32 :=
  (sOff_isWithin a1 0 1).bind fun zv1 =>
  (if zv1 = 0 then some (-1)
  else (((if a1 = 1 then some 1
  else some 0) : Option (Int32))).bind fun zv4 =>
  (sFridge_errorsByPrint N zv4 M).bind fun zv6 =>
  some zv6)
set_option maxHeartbeats 4000000 in
set_option maxRecDepth 100000 in
theorem cOff_print (l : Launch) (D : va_G) (cI : ClassId) (h : Nat → Nat) (N : Nat) (a1 : Int32) (M : Mm) (r : Int32) (zhs : sOff_print N a1 M = some r) : CtI l yX11_print cX11_print 2 (some .int) 6 D cI (wX h cI M) (wX h cI M) [.ref (h 0), .int a1] r := by
  unfold sOff_print at zhs
  refine CtI_of (by decide +kernel) (Nat.le_of_ble_eq_true rfl) ⟨_, rfl⟩ ?_
  intro p e s m args below meth c A Q zls zH zlocs C zhw zhl zhret
  have zhx := C.1
  have zhb := C.2.1
  have zhown := C.2.2.2.2.1
  have zhtB := C.2.2.2.2.2.2.1
  have zhl : lv_has zls 2 [(0, .ref (h 0)), (1, .int a1)] := zhl
  refine lv_iload_n zhx zhb dX11_print_0 rfl (lv_at zhl 1 rfl) ?_
  refine lv_iconst (v := 0) zhx zhb dX11_print_1 (by decide) ?_
  refine lv_iconst (v := 1) zhx zhb dX11_print_2 (by decide) ?_
  obtain ⟨zv1, zhp, zhs⟩ := bnd_e zhs
  refine x_cSI (As := [.int a1, .int 0, .int 1]) (rest := []) C zhw zhl (cOff_isWithin l D cI h a1 0 1 M zv1 zhp) (by decide) (by decide) kw_9_22 kw_9_23 kw_1_2 kw_10_0 md_X11_isWithin rfl rfl (Nat.le_of_ble_eq_true rfl) dX11_print_3 (fun zH zlocs zhw hzv1 => ?_)
  refine lv_if_eq (tgt := 29) zhx zhb dX11_print_6 (by decide) (fun zc9 => ?_) (fun zc9 => ?_)
  · replace zhs := br_T zhs zc9
    refine lv_iconst (v := (-1)) zhx zhb dX11_print_29 (by decide) ?_
    cases zhs
    exact zhret _ _ _ _ dX11_print_30 (by rfl) zhw
  · replace zhs := br_F zhs zc9
    refine lv_aload_n zhx zhb dX11_print_9 rfl (lv_at zhl 0 rfl) ?_
    refine x_get C zhw inlX11 rfl 0 7 (by decide) kw_2_7 rfl (wX_c0 h cI M) rfl dX11_print_10 ?_
    refine lv_iload_n zhx zhb dX11_print_13 rfl (lv_at zhl 1 rfl) ?_
    refine lv_iconst (v := 1) zhx zhb dX11_print_14 (by decide) ?_
    obtain ⟨zv4, zhq, zhs⟩ := bnd_e zhs
    have hJ5 : ∀ (zH : Heap) (zlocs : List Loc) (zls : Array Slot), lv_has zls 2 [] → Hw D (wX h cI M) A s.heap zH zlocs → W p l e (RM 6) s m args below meth c zH zlocs 0 0 Q (F0 m 23 zls [.int zv4, .ref (h 58)]) := by
      intro zH zlocs zls zhl zhw
      obtain ⟨zv6, zhp, zhs⟩ := bnd_e zhs
      refine x_cVI (As := [.int zv4]) (rest := []) C zhw zhl (cFridge_errorsByPrint l D cI h N zv4 M zv6 zhp) (by decide) (by decide) kw_37_22 kw_37_23 kw_38_0 kw_2_6 kw_38_1 md_X3_errorsByPrint rfl 58 (wX_c58 h cI M) rfl rfl rfl rfl (Nat.le_of_ble_eq_true rfl) dX11_print_23 (fun zH zlocs zhw hn9 => ?_)
      refine lv_goto (tgt := 30) zhx zhb dX11_print_26 (by decide) ?_
      cases zhs
      exact zhret _ _ _ _ dX11_print_30 (by rfl) zhw
    replace zhs := zhq
    clear zhq
    refine lv_icmp_ne (tgt := 22) zhx zhb dX11_print_15 (by decide) (fun zc9 => ?_) (fun zc9 => ?_)
    · replace zhs := br_F zhs zc9
      refine lv_iconst (v := 0) zhx zhb dX11_print_22 (by decide) ?_
      cases zhs
      exact hJ5 zH zlocs zls (lv_sub zhl [] rfl) zhw
    · replace zhs := br_T zhs zc9
      refine lv_iconst (v := 1) zhx zhb dX11_print_18 (by decide) ?_
      refine lv_goto (tgt := 23) zhx zhb dX11_print_19 (by decide) ?_
      cases zhs
      exact hJ5 zH zlocs zls (lv_sub zhl [] rfl) zhw

-- OffFirst$Fridge.errorsBySmell in (58, ())
def LFridge_errorsBySmell_4_39 (N : Nat) (a1 : Int32) (M : Mm) (zx1 : Int32) (zx2 : Int32) : Option ((Int32 × Int32) ⊕ ((Int32))) :=
  (if (M 27 7) ≤ zx2 then some (.inr zx1)
  else (sStock_isThere zx2 M).bind fun zv21 =>
  (if zv21 = 0 then ltI (zx2 + 1) fun zv29 =>
  some (.inl (zx1, zv29))
  else (sStock_ageOf zx2 M).bind fun zv30 =>
  (sFridge_limitOf zx2 M).bind fun zv31 =>
  (((if (10 * zv30) < (a1 * zv31) then some 0
  else some 1) : Option (Int32))).bind fun zv32 =>
  (sFridge_isOff zx2 M).bind fun zv34 =>
  (if zv32 = zv34 then ltI (zx1 + (M 22 7)) fun zv37 =>
  ltI (zx2 + 1) fun zv38 =>
  some (.inl (zv37, zv38))
  else ltI (zx1 + (10 - (M 22 7))) fun zv35 =>
  ltI (zx2 + 1) fun zv36 =>
  some (.inl (zv35, zv36)))))
def sFridge_errorsBySmell (N : Nat) (a1 : Int32) (M : Mm) : Option Int32 :=
  (itr (fun z : Int32 × Int32 => LFridge_errorsBySmell_4_39 N a1 M z.1 z.2) N (0, 0)).bind fun zv40 =>
  some zv40
set_option maxHeartbeats 4000000 in
set_option maxRecDepth 100000 in
theorem cFridge_errorsBySmell (l : Launch) (D : va_G) (cI : ClassId) (h : Nat → Nat) (N : Nat) (a1 : Int32) (M : Mm) (r : Int32) (zhs : sFridge_errorsBySmell N a1 M = some r) : CtI l yX3_errorsBySmell cX3_errorsBySmell 5 (some .int) 5 D cI (wX h cI M) (wX h cI M) [.ref (h 58), .int a1] r := by
  unfold sFridge_errorsBySmell at zhs
  refine CtI_of (by decide +kernel) (Nat.le_of_ble_eq_true rfl) ⟨_, rfl⟩ ?_
  intro p e s m args below meth c A Q zls zH zlocs C zhw zhl zhret
  have zhx := C.1
  have zhb := C.2.1
  have zhown := C.2.2.2.2.1
  have zhtB := C.2.2.2.2.2.2.1
  have zhl : lv_has zls 5 [(0, .ref (h 58)), (1, .int a1)] := zhl
  refine lv_iconst (v := 0) zhx zhb dX3_errorsBySmell_0 (by decide) ?_
  refine lv_istore_n (lv' := [(2, .int 0), (0, .ref (h 58)), (1, .int a1)]) zhx zhb dX3_errorsBySmell_1 rfl zhl (by decide) rfl (fun zls zhl => ?_)
  refine lv_iconst (v := 0) zhx zhb dX3_errorsBySmell_2 (by decide) ?_
  refine lv_istore_n (lv' := [(3, .int 0), (2, .int 0), (0, .ref (h 58)), (1, .int a1)]) zhx zhb dX3_errorsBySmell_3 rfl zhl (by decide) rfl (fun zls zhl => ?_)
  obtain ⟨zq39, zhq39, zhs⟩ := bnd_e zhs
  have hloop39 : ∀ (zn : Nat) (zx1 : Int32) (zx2 : Int32) (zq : (Int32)), itr (fun z : Int32 × Int32 => LFridge_errorsBySmell_4_39 N a1 M z.1 z.2) zn (zx1, zx2) = some zq → (∀ (zy1 : Int32), zy1 = zq → ∀ (zH : Heap) (zlocs : List Loc) (zls : Array Slot), lv_has zls 5 [(2, .int zy1)] → Hw D (wX h cI M) A s.heap zH zlocs → W p l e (RM 5) s m args below meth c zH zlocs 0 0 Q (F0 m 96 zls [])) → ∀ (zH : Heap) (zlocs : List Loc) (zls : Array Slot), lv_has zls 5 [(3, .int zx2), (2, .int zx1), (0, .ref (h 58)), (1, .int a1)] → Hw D (wX h cI M) A s.heap zH zlocs → W p l e (RM 5) s m args below meth c zH zlocs 0 0 Q (F0 m 4 zls []) := by
    intro zn
    induction zn with
    | zero => intro zx1 zx2 zq zhq; exact absurd zhq (fun h9 => itr_0 h9)
    | succ zn zih =>
        intro zx1 zx2 zq zhq k4_96 zH zlocs zls zhl zhw
        obtain ⟨zy9, zhs, zhq⟩ := itr_s zhq
        replace zhs : LFridge_errorsBySmell_4_39 N a1 M zx1 zx2 = some zy9 := zhs
        unfold LFridge_errorsBySmell_4_39 at zhs
        refine lv_iload_n zhx zhb dX3_errorsBySmell_4 rfl (lv_at zhl 0 rfl) ?_
        refine lv_aload_n zhx zhb dX3_errorsBySmell_5 rfl (lv_at zhl 2 rfl) ?_
        refine x_get C zhw inlX3 rfl 58 0 (by decide) kw_5_11 rfl (wX_c58 h cI M) rfl dX3_errorsBySmell_6 ?_
        refine x_getN C zhw inlX10 rfl 22 1 (by decide) (List.mem_of_getElem? (i := 20) rfl) rfl (wX_c22 h cI M) rfl dX3_errorsBySmell_9 ?_
        refine x_getN C zhw inlX2 rfl 27 7 (by decide) (List.mem_of_getElem? (i := 8) rfl) rfl (wX_c27 h cI M) rfl dX3_errorsBySmell_12 ?_
        refine lv_icmp_ge (tgt := 96) zhx zhb dX3_errorsBySmell_15 (by decide) (fun zc9 => ?_) (fun zc9 => ?_)
        · replace zhs := br_T zhs zc9
          cases zhs
          exact k4_96 zx1 (itk_q zhq) zH zlocs zls (lv_sub zhl [1] rfl) zhw
        · replace zhs := br_F zhs zc9
          refine lv_aload_n zhx zhb dX3_errorsBySmell_18 rfl (lv_at zhl 2 rfl) ?_
          refine x_get C zhw inlX3 rfl 58 1 (by decide) kw_5_12 rfl (wX_c58 h cI M) rfl dX3_errorsBySmell_19 ?_
          refine lv_iload_n zhx zhb dX3_errorsBySmell_22 rfl (lv_at zhl 0 rfl) ?_
          obtain ⟨zv21, zhp, zhs⟩ := bnd_e zhs
          refine x_cVI (As := [.int zx2]) (rest := []) C zhw zhl (cStock_isThere l D cI h zx2 M zv21 zhp) (by decide) (by decide) kw_22_1 kw_22_2 kw_22_3 kw_2_0 kw_22_4 md_X8_isThere rfl 40 (wX_c40 h cI M) rfl rfl rfl rfl (Nat.le_of_ble_eq_true rfl) dX3_errorsBySmell_23 (fun zH zlocs zhw hzv21 => ?_)
          refine lv_if_eq (tgt := 90) zhx zhb dX3_errorsBySmell_26 (by decide) (fun zc9 => ?_) (fun zc9 => ?_)
          · replace zhs := br_T zhs zc9
            obtain ⟨zv29, ze9, zhs⟩ := ltI_e zhs
            refine lv_iinc (v := zv29) (lv' := [(3, .int zv29), (2, .int zx1), (0, .ref (h 58)), (1, .int a1)]) zhx zhb dX3_errorsBySmell_90 zhl (k := 0) rfl (by rw [ze9]; rfl) (by decide) rfl (fun zls zhl => ?_)
            clear ze9
            refine lv_goto (tgt := 4) zhx zhb dX3_errorsBySmell_93 (by decide) ?_
            cases zhs
            exact zih zx1 zv29 zq (itk_l zhq) k4_96 zH zlocs zls zhl zhw
          · replace zhs := br_F zhs zc9
            refine lv_bipush (v := 10) zhx zhb dX3_errorsBySmell_29 (by decide) ?_
            refine lv_aload_n zhx zhb dX3_errorsBySmell_31 rfl (lv_at zhl 2 rfl) ?_
            refine x_get C zhw inlX3 rfl 58 1 (by decide) kw_5_12 rfl (wX_c58 h cI M) rfl dX3_errorsBySmell_32 ?_
            refine lv_iload_n zhx zhb dX3_errorsBySmell_35 rfl (lv_at zhl 0 rfl) ?_
            obtain ⟨zv30, zhp, zhs⟩ := bnd_e zhs
            refine x_cVI (As := [.int zx2]) (rest := [.int 10]) C zhw zhl (cStock_ageOf l D cI h zx2 M zv30 zhp) (by decide) (by decide) kw_19_12 kw_18_16 kw_18_17 kw_2_0 kw_18_18 md_X8_ageOf rfl 40 (wX_c40 h cI M) rfl rfl rfl rfl (Nat.le_of_ble_eq_true rfl) dX3_errorsBySmell_36 (fun zH zlocs zhw hn9 => ?_)
            refine lv_imul zhx zhb dX3_errorsBySmell_39 ?_
            refine lv_iload_n zhx zhb dX3_errorsBySmell_40 rfl (lv_at zhl 3 rfl) ?_
            refine lv_aload_n zhx zhb dX3_errorsBySmell_41 rfl (lv_at zhl 2 rfl) ?_
            refine lv_iload_n zhx zhb dX3_errorsBySmell_42 rfl (lv_at zhl 0 rfl) ?_
            obtain ⟨zv31, zhp, zhs⟩ := bnd_e zhs
            refine x_cVI (As := [.int zx2]) (rest := [.int a1, .int (10 * zv30)]) C zhw zhl (cFridge_limitOf l D cI h zx2 M zv31 zhp) (by decide) (by decide) kw_19_13 kw_18_20 kw_18_21 kw_2_6 kw_18_22 md_X3_limitOf rfl 58 (wX_c58 h cI M) rfl rfl rfl rfl (Nat.le_of_ble_eq_true rfl) dX3_errorsBySmell_43 (fun zH zlocs zhw hn9 => ?_)
            refine lv_imul zhx zhb dX3_errorsBySmell_46 ?_
            obtain ⟨zv32, zhq, zhs⟩ := bnd_e zhs
            have hJ33 : ∀ (zH : Heap) (zlocs : List Loc) (zls : Array Slot), lv_has zls 5 [(3, .int zx2), (2, .int zx1), (0, .ref (h 58)), (1, .int a1)] → Hw D (wX h cI M) A s.heap zH zlocs → W p l e (RM 5) s m args below meth c zH zlocs 0 0 Q (F0 m 55 zls [.int zv32]) := by
              intro zH zlocs zls zhl zhw
              refine lv_istore (lv' := [(4, .int zv32), (3, .int zx2), (2, .int zx1), (0, .ref (h 58)), (1, .int a1)]) zhx zhb dX3_errorsBySmell_55 zhl (by decide) rfl (fun zls zhl => ?_)
              refine lv_iload_n zhx zhb dX3_errorsBySmell_57 rfl (lv_at zhl 2 rfl) ?_
              refine lv_iload zhx zhb dX3_errorsBySmell_58 (lv_at zhl 0 rfl) ?_
              refine lv_aload_n zhx zhb dX3_errorsBySmell_60 rfl (lv_at zhl 3 rfl) ?_
              refine lv_iload_n zhx zhb dX3_errorsBySmell_61 rfl (lv_at zhl 1 rfl) ?_
              obtain ⟨zv34, zhp, zhs⟩ := bnd_e zhs
              refine x_cVI (As := [.int zx2]) (rest := [.int zv32, .int zx1]) C zhw zhl (cFridge_isOff l D cI h zx2 M zv34 zhp) (by decide) (by decide) kw_23_11 kw_19_9 kw_19_10 kw_2_6 kw_19_11 md_X3_isOff rfl 58 (wX_c58 h cI M) rfl rfl rfl rfl (Nat.le_of_ble_eq_true rfl) dX3_errorsBySmell_62 (fun zH zlocs zhw hzv34 => ?_)
              refine lv_icmp_ne (tgt := 78) zhx zhb dX3_errorsBySmell_65 (by decide) (fun zc9 => ?_) (fun zc9 => ?_)
              · replace zhs := br_F zhs zc9
                refine lv_bipush (v := 10) zhx zhb dX3_errorsBySmell_78 (by decide) ?_
                refine lv_aload_n zhx zhb dX3_errorsBySmell_80 rfl (lv_at zhl 3 rfl) ?_
                refine x_get C zhw inlX3 rfl 58 0 (by decide) kw_5_11 rfl (wX_c58 h cI M) rfl dX3_errorsBySmell_81 ?_
                refine x_getN C zhw inlX10 rfl 22 7 (by decide) (List.mem_of_getElem? (i := 28) rfl) rfl (wX_c22 h cI M) rfl dX3_errorsBySmell_84 ?_
                refine lv_isub zhx zhb dX3_errorsBySmell_87 ?_
                refine lv_iadd zhx zhb dX3_errorsBySmell_88 ?_
                obtain ⟨zv35, ze9, zhs⟩ := ltI_e zhs
                refine lv_topi (fun zy9 ze8 => ?_)
                obtain rfl : zv35 = zy9 := ze9.trans ze8.symm
                clear ze9 ze8
                refine lv_istore_n (lv' := [(2, .int zv35), (4, .int zv32), (3, .int zx2), (0, .ref (h 58)), (1, .int a1)]) zhx zhb dX3_errorsBySmell_89 rfl zhl (by decide) rfl (fun zls zhl => ?_)
                obtain ⟨zv36, ze9, zhs⟩ := ltI_e zhs
                refine lv_iinc (v := zv36) (lv' := [(3, .int zv36), (2, .int zv35), (4, .int zv32), (0, .ref (h 58)), (1, .int a1)]) zhx zhb dX3_errorsBySmell_90 zhl (k := 2) rfl (by rw [ze9]; rfl) (by decide) rfl (fun zls zhl => ?_)
                clear ze9
                refine lv_goto (tgt := 4) zhx zhb dX3_errorsBySmell_93 (by decide) ?_
                cases zhs
                exact zih zv35 zv36 zq (itk_l zhq) k4_96 zH zlocs zls (lv_sub zhl [0, 1, 3, 4] rfl) zhw
              · replace zhs := br_T zhs zc9
                refine lv_aload_n zhx zhb dX3_errorsBySmell_68 rfl (lv_at zhl 3 rfl) ?_
                refine x_get C zhw inlX3 rfl 58 0 (by decide) kw_5_11 rfl (wX_c58 h cI M) rfl dX3_errorsBySmell_69 ?_
                refine x_getN C zhw inlX10 rfl 22 7 (by decide) (List.mem_of_getElem? (i := 28) rfl) rfl (wX_c22 h cI M) rfl dX3_errorsBySmell_72 ?_
                refine lv_goto (tgt := 88) zhx zhb dX3_errorsBySmell_75 (by decide) ?_
                refine lv_iadd zhx zhb dX3_errorsBySmell_88 ?_
                obtain ⟨zv37, ze9, zhs⟩ := ltI_e zhs
                refine lv_topi (fun zy9 ze8 => ?_)
                obtain rfl : zv37 = zy9 := ze9.trans ze8.symm
                clear ze9 ze8
                refine lv_istore_n (lv' := [(2, .int zv37), (4, .int zv32), (3, .int zx2), (0, .ref (h 58)), (1, .int a1)]) zhx zhb dX3_errorsBySmell_89 rfl zhl (by decide) rfl (fun zls zhl => ?_)
                obtain ⟨zv38, ze9, zhs⟩ := ltI_e zhs
                refine lv_iinc (v := zv38) (lv' := [(3, .int zv38), (2, .int zv37), (4, .int zv32), (0, .ref (h 58)), (1, .int a1)]) zhx zhb dX3_errorsBySmell_90 zhl (k := 2) rfl (by rw [ze9]; rfl) (by decide) rfl (fun zls zhl => ?_)
                clear ze9
                refine lv_goto (tgt := 4) zhx zhb dX3_errorsBySmell_93 (by decide) ?_
                cases zhs
                exact zih zv37 zv38 zq (itk_l zhq) k4_96 zH zlocs zls (lv_sub zhl [0, 1, 3, 4] rfl) zhw
            replace zhs := zhq
            clear zhq
            refine lv_icmp_lt (tgt := 54) zhx zhb dX3_errorsBySmell_47 (by decide) (fun zc9 => ?_) (fun zc9 => ?_)
            · replace zhs := br_T zhs zc9
              refine lv_iconst (v := 0) zhx zhb dX3_errorsBySmell_54 (by decide) ?_
              cases zhs
              exact hJ33 zH zlocs zls zhl zhw
            · replace zhs := br_F zhs zc9
              refine lv_iconst (v := 1) zhx zhb dX3_errorsBySmell_50 (by decide) ?_
              refine lv_goto (tgt := 55) zhx zhb dX3_errorsBySmell_51 (by decide) ?_
              cases zhs
              exact hJ33 zH zlocs zls zhl zhw
  refine hloop39 N 0 0 zq39 zhq39 (fun zv40 zhqe zH zlocs zls zhl zhw => ?_) zH zlocs zls zhl zhw
  · subst zhqe
    refine lv_iload_n zhx zhb dX3_errorsBySmell_96 rfl (lv_at zhl 0 rfl) ?_
    cases zhs
    exact zhret _ _ _ _ dX3_errorsBySmell_97 (by rfl) zhw

-- OffFirst.smell in (0, ())
def sOff_smell (N : Nat) (a1 : Int32) (M : Mm) : Option Int32 :=
  (sOff_isWithin a1 0 20).bind fun zv1 =>
  (if zv1 = 0 then some (-1)
  else (sFridge_errorsBySmell N a1 M).bind fun zv3 =>
  some zv3)
set_option maxHeartbeats 4000000 in
set_option maxRecDepth 100000 in
theorem cOff_smell (l : Launch) (D : va_G) (cI : ClassId) (h : Nat → Nat) (N : Nat) (a1 : Int32) (M : Mm) (r : Int32) (zhs : sOff_smell N a1 M = some r) : CtI l yX11_smell cX11_smell 2 (some .int) 6 D cI (wX h cI M) (wX h cI M) [.ref (h 0), .int a1] r := by
  unfold sOff_smell at zhs
  refine CtI_of (by decide +kernel) (Nat.le_of_ble_eq_true rfl) ⟨_, rfl⟩ ?_
  intro p e s m args below meth c A Q zls zH zlocs C zhw zhl zhret
  have zhx := C.1
  have zhb := C.2.1
  have zhown := C.2.2.2.2.1
  have zhtB := C.2.2.2.2.2.2.1
  have zhl : lv_has zls 2 [(0, .ref (h 0)), (1, .int a1)] := zhl
  refine lv_iload_n zhx zhb dX11_smell_0 rfl (lv_at zhl 1 rfl) ?_
  refine lv_iconst (v := 0) zhx zhb dX11_smell_1 (by decide) ?_
  refine lv_bipush (v := 20) zhx zhb dX11_smell_2 (by decide) ?_
  obtain ⟨zv1, zhp, zhs⟩ := bnd_e zhs
  refine x_cSI (As := [.int a1, .int 0, .int 20]) (rest := []) C zhw zhl (cOff_isWithin l D cI h a1 0 20 M zv1 zhp) (by decide) (by decide) kw_9_22 kw_9_23 kw_1_2 kw_10_0 md_X11_isWithin rfl rfl (Nat.le_of_ble_eq_true rfl) dX11_smell_4 (fun zH zlocs zhw hzv1 => ?_)
  refine lv_if_eq (tgt := 21) zhx zhb dX11_smell_7 (by decide) (fun zc9 => ?_) (fun zc9 => ?_)
  · replace zhs := br_T zhs zc9
    refine lv_iconst (v := (-1)) zhx zhb dX11_smell_21 (by decide) ?_
    cases zhs
    exact zhret _ _ _ _ dX11_smell_22 (by rfl) zhw
  · replace zhs := br_F zhs zc9
    refine lv_aload_n zhx zhb dX11_smell_10 rfl (lv_at zhl 0 rfl) ?_
    refine x_get C zhw inlX11 rfl 0 7 (by decide) kw_2_7 rfl (wX_c0 h cI M) rfl dX11_smell_11 ?_
    refine lv_iload_n zhx zhb dX11_smell_14 rfl (lv_at zhl 1 rfl) ?_
    obtain ⟨zv3, zhp, zhs⟩ := bnd_e zhs
    refine x_cVI (As := [.int a1]) (rest := []) C zhw zhl (cFridge_errorsBySmell l D cI h N a1 M zv3 zhp) (by decide) (by decide) kw_38_14 kw_38_15 kw_38_16 kw_2_6 kw_38_17 md_X3_errorsBySmell rfl 58 (wX_c58 h cI M) rfl rfl rfl rfl (Nat.le_of_ble_eq_true rfl) dX11_smell_15 (fun zH zlocs zhw hn9 => ?_)
    refine lv_goto (tgt := 22) zhx zhb dX11_smell_18 (by decide) ?_
    cases zhs
    exact zhret _ _ _ _ dX11_smell_22 (by rfl) zhw

-- OffFirst$Fridge.bestLine in (58, ())
def LFridge_bestLine_4_11 (N : Nat) (M : Mm) (zx1 : Int32) (zx2 : Int32) : Option ((Int32 × Int32) ⊕ ((Int32))) :=
  (if 20 < zx2 then some (.inr zx1)
  else (sFridge_errorsBySmell N zx2 M).bind fun zv7 =>
  (sFridge_errorsBySmell N zx1 M).bind fun zv8 =>
  (if zv8 ≤ zv7 then ltI (zx2 + 1) fun zv9 =>
  some (.inl (zx1, zv9))
  else ltI (zx2 + 1) fun zv10 =>
  some (.inl (zx2, zv10))))
def sFridge_bestLine (N : Nat) (M : Mm) : Option Int32 :=
  (itr (fun z : Int32 × Int32 => LFridge_bestLine_4_11 N M z.1 z.2) N (0, 1)).bind fun zv12 =>
  some zv12
set_option maxHeartbeats 4000000 in
set_option maxRecDepth 100000 in
theorem cFridge_bestLine (l : Launch) (D : va_G) (cI : ClassId) (h : Nat → Nat) (N : Nat) (M : Mm) (r : Int32) (zhs : sFridge_bestLine N M = some r) : CtI l yX3_bestLine cX3_bestLine 3 (some .int) 6 D cI (wX h cI M) (wX h cI M) [.ref (h 58)] r := by
  unfold sFridge_bestLine at zhs
  refine CtI_of (by decide +kernel) (Nat.le_of_ble_eq_true rfl) ⟨_, rfl⟩ ?_
  intro p e s m args below meth c A Q zls zH zlocs C zhw zhl zhret
  have zhx := C.1
  have zhb := C.2.1
  have zhown := C.2.2.2.2.1
  have zhtB := C.2.2.2.2.2.2.1
  have zhl : lv_has zls 3 [(0, .ref (h 58))] := zhl
  refine lv_iconst (v := 0) zhx zhb dX3_bestLine_0 (by decide) ?_
  refine lv_istore_n (lv' := [(1, .int 0), (0, .ref (h 58))]) zhx zhb dX3_bestLine_1 rfl zhl (by decide) rfl (fun zls zhl => ?_)
  refine lv_iconst (v := 1) zhx zhb dX3_bestLine_2 (by decide) ?_
  refine lv_istore_n (lv' := [(2, .int 1), (1, .int 0), (0, .ref (h 58))]) zhx zhb dX3_bestLine_3 rfl zhl (by decide) rfl (fun zls zhl => ?_)
  obtain ⟨zq11, zhq11, zhs⟩ := bnd_e zhs
  have hloop11 : ∀ (zn : Nat) (zx1 : Int32) (zx2 : Int32) (zq : (Int32)), itr (fun z : Int32 × Int32 => LFridge_bestLine_4_11 N M z.1 z.2) zn (zx1, zx2) = some zq → (∀ (zy1 : Int32), zy1 = zq → ∀ (zH : Heap) (zlocs : List Loc) (zls : Array Slot), lv_has zls 3 [(1, .int zy1)] → Hw D (wX h cI M) A s.heap zH zlocs → W p l e (RM 6) s m args below meth c zH zlocs 0 0 Q (F0 m 31 zls [])) → ∀ (zH : Heap) (zlocs : List Loc) (zls : Array Slot), lv_has zls 3 [(2, .int zx2), (1, .int zx1), (0, .ref (h 58))] → Hw D (wX h cI M) A s.heap zH zlocs → W p l e (RM 6) s m args below meth c zH zlocs 0 0 Q (F0 m 4 zls []) := by
    intro zn
    induction zn with
    | zero => intro zx1 zx2 zq zhq; exact absurd zhq (fun h9 => itr_0 h9)
    | succ zn zih =>
        intro zx1 zx2 zq zhq k4_31 zH zlocs zls zhl zhw
        obtain ⟨zy9, zhs, zhq⟩ := itr_s zhq
        replace zhs : LFridge_bestLine_4_11 N M zx1 zx2 = some zy9 := zhs
        unfold LFridge_bestLine_4_11 at zhs
        refine lv_iload_n zhx zhb dX3_bestLine_4 rfl (lv_at zhl 0 rfl) ?_
        refine lv_bipush (v := 20) zhx zhb dX3_bestLine_5 (by decide) ?_
        refine lv_icmp_gt (tgt := 31) zhx zhb dX3_bestLine_7 (by decide) (fun zc9 => ?_) (fun zc9 => ?_)
        · replace zhs := br_T zhs zc9
          cases zhs
          exact k4_31 zx1 (itk_q zhq) zH zlocs zls (lv_sub zhl [1] rfl) zhw
        · replace zhs := br_F zhs zc9
          refine lv_aload_n zhx zhb dX3_bestLine_10 rfl (lv_at zhl 2 rfl) ?_
          refine lv_iload_n zhx zhb dX3_bestLine_11 rfl (lv_at zhl 0 rfl) ?_
          obtain ⟨zv7, zhp, zhs⟩ := bnd_e zhs
          refine x_cVI (As := [.int zx2]) (rest := []) C zhw zhl (cFridge_errorsBySmell l D cI h N zx2 M zv7 zhp) (by decide) (by decide) kw_39_11 kw_38_15 kw_38_16 kw_2_6 kw_38_17 md_X3_errorsBySmell rfl 58 (wX_c58 h cI M) rfl rfl rfl rfl (Nat.le_of_ble_eq_true rfl) dX3_bestLine_12 (fun zH zlocs zhw hn9 => ?_)
          refine lv_aload_n zhx zhb dX3_bestLine_15 rfl (lv_at zhl 2 rfl) ?_
          refine lv_iload_n zhx zhb dX3_bestLine_16 rfl (lv_at zhl 1 rfl) ?_
          obtain ⟨zv8, zhp, zhs⟩ := bnd_e zhs
          refine x_cVI (As := [.int zx1]) (rest := [.int zv7]) C zhw zhl (cFridge_errorsBySmell l D cI h N zx1 M zv8 zhp) (by decide) (by decide) kw_39_11 kw_38_15 kw_38_16 kw_2_6 kw_38_17 md_X3_errorsBySmell rfl 58 (wX_c58 h cI M) rfl rfl rfl rfl (Nat.le_of_ble_eq_true rfl) dX3_bestLine_17 (fun zH zlocs zhw hn9 => ?_)
          refine lv_icmp_ge (tgt := 25) zhx zhb dX3_bestLine_20 (by decide) (fun zc9 => ?_) (fun zc9 => ?_)
          · replace zhs := br_T zhs zc9
            obtain ⟨zv9, ze9, zhs⟩ := ltI_e zhs
            refine lv_iinc (v := zv9) (lv' := [(2, .int zv9), (1, .int zx1), (0, .ref (h 58))]) zhx zhb dX3_bestLine_25 zhl (k := 0) rfl (by rw [ze9]; rfl) (by decide) rfl (fun zls zhl => ?_)
            clear ze9
            refine lv_goto (tgt := 4) zhx zhb dX3_bestLine_28 (by decide) ?_
            cases zhs
            exact zih zx1 zv9 zq (itk_l zhq) k4_31 zH zlocs zls zhl zhw
          · replace zhs := br_F zhs zc9
            refine lv_iload_n zhx zhb dX3_bestLine_23 rfl (lv_at zhl 0 rfl) ?_
            refine lv_istore_n (lv' := [(1, .int zx2), (2, .int zx2), (0, .ref (h 58))]) zhx zhb dX3_bestLine_24 rfl zhl (by decide) rfl (fun zls zhl => ?_)
            obtain ⟨zv10, ze9, zhs⟩ := ltI_e zhs
            refine lv_iinc (v := zv10) (lv' := [(2, .int zv10), (1, .int zx2), (0, .ref (h 58))]) zhx zhb dX3_bestLine_25 zhl (k := 1) rfl (by rw [ze9]; rfl) (by decide) rfl (fun zls zhl => ?_)
            clear ze9
            refine lv_goto (tgt := 4) zhx zhb dX3_bestLine_28 (by decide) ?_
            cases zhs
            exact zih zx2 zv10 zq (itk_l zhq) k4_31 zH zlocs zls zhl zhw
  refine hloop11 N 0 1 zq11 zhq11 (fun zv12 zhqe zH zlocs zls zhl zhw => ?_) zH zlocs zls zhl zhw
  · subst zhqe
    refine lv_iload_n zhx zhb dX3_bestLine_31 rfl (lv_at zhl 0 rfl) ?_
    cases zhs
    exact zhret _ _ _ _ dX3_bestLine_32 (by rfl) zhw

-- OffFirst.line in (0, ())
def sOff_line (N : Nat) (M : Mm) : Option Int32 :=
  (sStock_numberThere N M).bind fun zv1 =>
  (if zv1 ≤ 0 then some (-4)
  else (sFridge_bestLine N M).bind fun zv3 =>
  some zv3)
set_option maxHeartbeats 4000000 in
set_option maxRecDepth 100000 in
theorem cOff_line (l : Launch) (D : va_G) (cI : ClassId) (h : Nat → Nat) (N : Nat) (M : Mm) (r : Int32) (zhs : sOff_line N M = some r) : CtI l yX11_line cX11_line 1 (some .int) 7 D cI (wX h cI M) (wX h cI M) [.ref (h 0)] r := by
  unfold sOff_line at zhs
  refine CtI_of (by decide +kernel) (Nat.le_of_ble_eq_true rfl) ⟨_, rfl⟩ ?_
  intro p e s m args below meth c A Q zls zH zlocs C zhw zhl zhret
  have zhx := C.1
  have zhb := C.2.1
  have zhown := C.2.2.2.2.1
  have zhtB := C.2.2.2.2.2.2.1
  have zhl : lv_has zls 1 [(0, .ref (h 0))] := zhl
  refine lv_aload_n zhx zhb dX11_line_0 rfl (lv_at zhl 0 rfl) ?_
  refine x_get C zhw inlX11 rfl 0 3 (by decide) kw_2_1 rfl (wX_c0 h cI M) rfl dX11_line_1 ?_
  obtain ⟨zv1, zhp, zhs⟩ := bnd_e zhs
  refine x_cVI (As := []) (rest := []) C zhw zhl (cStock_numberThere l D cI h N M zv1 zhp) (by decide) (by decide) kw_34_7 kw_34_8 kw_34_9 kw_2_0 kw_34_10 md_X8_numberThere rfl 40 (wX_c40 h cI M) rfl rfl rfl rfl (Nat.le_of_ble_eq_true rfl) dX11_line_4 (fun zH zlocs zhw hn9 => ?_)
  refine lv_if_le (tgt := 20) zhx zhb dX11_line_7 (by decide) (fun zc9 => ?_) (fun zc9 => ?_)
  · replace zhs := br_T zhs zc9
    refine lv_bipush (v := (-4)) zhx zhb dX11_line_20 (by decide) ?_
    cases zhs
    exact zhret _ _ _ _ dX11_line_22 (by rfl) zhw
  · replace zhs := br_F zhs zc9
    refine lv_aload_n zhx zhb dX11_line_10 rfl (lv_at zhl 0 rfl) ?_
    refine x_get C zhw inlX11 rfl 0 7 (by decide) kw_2_7 rfl (wX_c0 h cI M) rfl dX11_line_11 ?_
    obtain ⟨zv3, zhp, zhs⟩ := bnd_e zhs
    refine x_cVI (As := []) (rest := []) C zhw zhl (cFridge_bestLine l D cI h N M zv3 zhp) (by decide) (by decide) kw_39_7 kw_39_8 kw_39_9 kw_2_6 kw_39_10 md_X3_bestLine rfl 58 (wX_c58 h cI M) rfl rfl rfl rfl (Nat.le_of_ble_eq_true rfl) dX11_line_14 (fun zH zlocs zhw hn9 => ?_)
    refine lv_goto (tgt := 22) zhx zhb dX11_line_17 (by decide) ?_
    cases zhs
    exact zhret _ _ _ _ dX11_line_22 (by rfl) zhw

-- OffFirst$Cells.warmthOverCut in (23, ())
def sCells_warmthOverCut_l (a1 : Int32) (a2 : Int32) (a3 : Int32) (M : Mm) : Option Int32 :=
  ltI (((3 * a2) * (a2 + 1)) / 2) fun zv1 =>
  (if a3 = 0 then some (((a2 * (atf 6 (M 24) a1)) + zv1) + 0)
  else some (((a2 * (atf 6 (M 24) a1)) + zv1) + (atf 6 (M 25) a1)))
set_option maxHeartbeats 4000000 in
set_option maxRecDepth 100000 in
theorem cCells_warmthOverCut_l (l : Launch) (D : va_G) (cI : ClassId) (h : Nat → Nat) (a1 : Int32) (a2 : Int32) (a3 : Int32) (M : Mm) (r : Int32) (zhs : sCells_warmthOverCut_l a1 a2 a3 M = some r) : CtI l yX0_warmthOverCut cX0_warmthOverCut 5 (some .int) 2 D cI (wX h cI M) (wX h cI M) [.ref (h 23), .int a1, .int a2, .int a3] r := by
  unfold sCells_warmthOverCut_l at zhs
  refine CtI_of (by decide +kernel) (Nat.le_of_ble_eq_true rfl) ⟨_, rfl⟩ ?_
  intro p e s m args below meth c A Q zls zH zlocs C zhw zhl zhret
  have zhx := C.1
  have zhb := C.2.1
  have zhown := C.2.2.2.2.1
  have zhtB := C.2.2.2.2.2.2.1
  have zhl : lv_has zls 5 [(0, .ref (h 23)), (1, .int a1), (2, .int a2), (3, .int a3)] := zhl
  refine lv_iconst (v := 3) zhx zhb dX0_warmthOverCut_0 (by decide) ?_
  refine lv_iload_n zhx zhb dX0_warmthOverCut_1 rfl (lv_at zhl 2 rfl) ?_
  refine lv_imul zhx zhb dX0_warmthOverCut_2 ?_
  refine lv_iload_n zhx zhb dX0_warmthOverCut_3 rfl (lv_at zhl 2 rfl) ?_
  refine lv_iconst (v := 1) zhx zhb dX0_warmthOverCut_4 (by decide) ?_
  refine lv_iadd zhx zhb dX0_warmthOverCut_5 ?_
  refine lv_imul zhx zhb dX0_warmthOverCut_6 ?_
  refine lv_iconst (v := 2) zhx zhb dX0_warmthOverCut_7 (by decide) ?_
  refine lv_idiv zhx zhb dX0_warmthOverCut_8 (by decide) ?_
  obtain ⟨zv1, ze9, zhs⟩ := ltI_e zhs
  refine lv_topi (fun zy9 ze8 => ?_)
  obtain rfl : zv1 = zy9 := ze9.trans ze8.symm
  clear ze9 ze8
  refine lv_istore (lv' := [(4, .int zv1), (0, .ref (h 23)), (1, .int a1), (2, .int a2), (3, .int a3)]) zhx zhb dX0_warmthOverCut_9 zhl (by decide) rfl (fun zls zhl => ?_)
  refine lv_iload_n zhx zhb dX0_warmthOverCut_11 rfl (lv_at zhl 3 rfl) ?_
  refine lv_aload_n zhx zhb dX0_warmthOverCut_12 rfl (lv_at zhl 1 rfl) ?_
  refine x_get C zhw inlX0 rfl 23 0 (by decide) kw_4_3 rfl (wX_c23 h cI M) rfl dX0_warmthOverCut_13 ?_
  refine lv_iload_n zhx zhb dX0_warmthOverCut_16 rfl (lv_at zhl 2 rfl) ?_
  refine x_cSNI (As := [.ref (h 24), .int a1]) (rest := [.int a2]) C zhw zhl (c_at l D cI (wX h cI M) 24 6 (h 24) (M 24) (wX_c24 h cI M) (by decide) a1) (by decide) (by decide) (List.mem_of_getElem? (i := 16) rfl) kw_7_7 kw_1_2 kw_7_8 md_X11_at rfl rfl (Nat.le_of_ble_eq_true rfl) dX0_warmthOverCut_17 (fun zH zlocs zhw hn9 => ?_)
  refine lv_imul zhx zhb dX0_warmthOverCut_20 ?_
  refine lv_iload zhx zhb dX0_warmthOverCut_21 (lv_at zhl 0 rfl) ?_
  refine lv_iadd zhx zhb dX0_warmthOverCut_23 ?_
  refine lv_iload_n zhx zhb dX0_warmthOverCut_24 rfl (lv_at zhl 4 rfl) ?_
  refine lv_if_eq (tgt := 39) zhx zhb dX0_warmthOverCut_25 (by decide) (fun zc9 => ?_) (fun zc9 => ?_)
  · replace zhs := br_T zhs zc9
    refine lv_iconst (v := 0) zhx zhb dX0_warmthOverCut_39 (by decide) ?_
    refine lv_iadd zhx zhb dX0_warmthOverCut_40 ?_
    cases zhs
    exact zhret _ _ _ _ dX0_warmthOverCut_41 (by rfl) zhw
  · replace zhs := br_F zhs zc9
    refine lv_aload_n zhx zhb dX0_warmthOverCut_28 rfl (lv_at zhl 1 rfl) ?_
    refine x_get C zhw inlX0 rfl 23 1 (by decide) kw_4_4 rfl (wX_c23 h cI M) rfl dX0_warmthOverCut_29 ?_
    refine lv_iload_n zhx zhb dX0_warmthOverCut_32 rfl (lv_at zhl 2 rfl) ?_
    refine x_cSNI (As := [.ref (h 25), .int a1]) (rest := [.int ((a2 * (atf 6 (M 24) a1)) + zv1)]) C zhw zhl (c_at l D cI (wX h cI M) 25 6 (h 25) (M 25) (wX_c25 h cI M) (by decide) a1) (by decide) (by decide) (List.mem_of_getElem? (i := 16) rfl) kw_7_7 kw_1_2 kw_7_8 md_X11_at rfl rfl (Nat.le_of_ble_eq_true rfl) dX0_warmthOverCut_33 (fun zH zlocs zhw hn9 => ?_)
    refine lv_goto (tgt := 40) zhx zhb dX0_warmthOverCut_36 (by decide) ?_
    refine lv_iadd zhx zhb dX0_warmthOverCut_40 ?_
    cases zhs
    exact zhret _ _ _ _ dX0_warmthOverCut_41 (by rfl) zhw

