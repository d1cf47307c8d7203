-- OffFirst$Fridge.offBehindCut in (58, ())
def LFridge_offBehindCut_5_33 (N : Nat) (a1 : Int32) (a2 : Int32) (M : Mm) (zx1 : Int32) (zx2 : Int32) : Option ((Int32 × Int32) ⊕ ((Int32))) :=
  (if (M 27 7) ≤ zx2 then some (.inr zx1)
  else (sStock_cellOf zx2 M).bind fun zv18 =>
  (sCells_warmthOverCut_l zv18 a1 a2 M).bind fun zv19 =>
  (sStock_ageOf zx2 M).bind fun zv20 =>
  (sStock_kindOf zx2 M).bind fun zv21 =>
  (sOff_ageing zv21 a1 zv19).bind fun zv22 =>
  ltI (zv20 + zv22) fun zv23 =>
  (sStock_isThere zx2 M).bind fun zv24 =>
  (if zv24 = 0 then ltI (zx2 + 1) fun zv27 =>
  some (.inl (zx1, zv27))
  else (sFridge_limitOf zx2 M).bind fun zv28 =>
  (if zv23 < zv28 then ltI (zx2 + 1) fun zv30 =>
  some (.inl (zx1, zv30))
  else ltI (zx1 ||| (1 <<< (zx2 &&& 31))) fun zv31 =>
  ltI (zx2 + 1) fun zv32 =>
  some (.inl (zv31, zv32)))))
def sFridge_offBehindCut (N : Nat) (a1 : Int32) (a2 : Int32) (M : Mm) : Option Int32 :=
  (itr (fun z : Int32 × Int32 => LFridge_offBehindCut_5_33 N a1 a2 M z.1 z.2) N (0, 0)).bind fun zv34 =>
  some zv34
set_option maxHeartbeats 4000000 in
set_option maxRecDepth 100000 in
theorem cFridge_offBehindCut (l : Launch) (D : va_G) (cI : ClassId) (h : Nat → Nat) (N : Nat) (a1 : Int32) (a2 : Int32) (M : Mm) (r : Int32) (zhs : sFridge_offBehindCut N a1 a2 M = some r) : CtI l yX3_offBehindCut cX3_offBehindCut 7 (some .int) 4 D cI (wX h cI M) (wX h cI M) [.ref (h 58), .int a1, .int a2] r := by
  unfold sFridge_offBehindCut at zhs
  refine CtI_of (by decide +kernel) (Nat.le_of_ble_eq_true rfl) ⟨_, rfl⟩ ?_
  intro p e s m args below meth c A Q zls zH zlocs C zhw zhl zhret
  have zhx := C.1
  have zhb := C.2.1
  have zhown := C.2.2.2.2.1
  have zhtB := C.2.2.2.2.2.2.1
  have zhl : lv_has zls 7 [(0, .ref (h 58)), (1, .int a1), (2, .int a2)] := zhl
  refine lv_iconst (v := 0) zhx zhb dX3_offBehindCut_0 (by decide) ?_
  refine lv_istore_n (lv' := [(3, .int 0), (0, .ref (h 58)), (1, .int a1), (2, .int a2)]) zhx zhb dX3_offBehindCut_1 rfl zhl (by decide) rfl (fun zls zhl => ?_)
  refine lv_iconst (v := 0) zhx zhb dX3_offBehindCut_2 (by decide) ?_
  refine lv_istore (lv' := [(4, .int 0), (3, .int 0), (0, .ref (h 58)), (1, .int a1), (2, .int a2)]) zhx zhb dX3_offBehindCut_3 zhl (by decide) rfl (fun zls zhl => ?_)
  obtain ⟨zq33, zhq33, zhs⟩ := bnd_e zhs
  have hloop33 : ∀ (zn : Nat) (zx1 : Int32) (zx2 : Int32) (zq : (Int32)), itr (fun z : Int32 × Int32 => LFridge_offBehindCut_5_33 N a1 a2 M z.1 z.2) zn (zx1, zx2) = some zq → (∀ (zy1 : Int32), zy1 = zq → ∀ (zH : Heap) (zlocs : List Loc) (zls : Array Slot), lv_has zls 7 [(3, .int zy1)] → Hw D (wX h cI M) A s.heap zH zlocs → W p l e (RM 4) s m args below meth c zH zlocs 0 0 Q (F0 m 106 zls [])) → ∀ (zH : Heap) (zlocs : List Loc) (zls : Array Slot), lv_has zls 7 [(4, .int zx2), (3, .int zx1), (0, .ref (h 58)), (1, .int a1), (2, .int a2)] → Hw D (wX h cI M) A s.heap zH zlocs → W p l e (RM 4) s m args below meth c zH zlocs 0 0 Q (F0 m 5 zls []) := by
    intro zn
    induction zn with
    | zero => intro zx1 zx2 zq zhq; exact absurd zhq (fun h9 => itr_0 h9)
    | succ zn zih =>
        intro zx1 zx2 zq zhq k5_106 zH zlocs zls zhl zhw
        obtain ⟨zy9, zhs, zhq⟩ := itr_s zhq
        replace zhs : LFridge_offBehindCut_5_33 N a1 a2 M zx1 zx2 = some zy9 := zhs
        unfold LFridge_offBehindCut_5_33 at zhs
        refine lv_iload zhx zhb dX3_offBehindCut_5 (lv_at zhl 0 rfl) ?_
        refine lv_aload_n zhx zhb dX3_offBehindCut_7 rfl (lv_at zhl 2 rfl) ?_
        refine x_get C zhw inlX3 rfl 58 0 (by decide) kw_5_11 rfl (wX_c58 h cI M) rfl dX3_offBehindCut_8 ?_
        refine x_getN C zhw inlX10 rfl 22 1 (by decide) (List.mem_of_getElem? (i := 20) rfl) rfl (wX_c22 h cI M) rfl dX3_offBehindCut_11 ?_
        refine x_getN C zhw inlX2 rfl 27 7 (by decide) (List.mem_of_getElem? (i := 8) rfl) rfl (wX_c27 h cI M) rfl dX3_offBehindCut_14 ?_
        refine lv_icmp_ge (tgt := 106) zhx zhb dX3_offBehindCut_17 (by decide) (fun zc9 => ?_) (fun zc9 => ?_)
        · replace zhs := br_T zhs zc9
          cases zhs
          exact k5_106 zx1 (itk_q zhq) zH zlocs zls (lv_sub zhl [1] rfl) zhw
        · replace zhs := br_F zhs zc9
          refine lv_aload_n zhx zhb dX3_offBehindCut_20 rfl (lv_at zhl 2 rfl) ?_
          refine x_get C zhw inlX3 rfl 58 0 (by decide) kw_5_11 rfl (wX_c58 h cI M) rfl dX3_offBehindCut_21 ?_
          refine x_getN C zhw inlX10 rfl 22 0 (by decide) (List.mem_of_getElem? (i := 18) rfl) rfl (wX_c22 h cI M) rfl dX3_offBehindCut_24 ?_
          refine lv_aload_n zhx zhb dX3_offBehindCut_27 rfl (lv_at zhl 2 rfl) ?_
          refine x_get C zhw inlX3 rfl 58 1 (by decide) kw_5_12 rfl (wX_c58 h cI M) rfl dX3_offBehindCut_28 ?_
          refine lv_iload zhx zhb dX3_offBehindCut_31 (lv_at zhl 0 rfl) ?_
          obtain ⟨zv18, zhp, zhs⟩ := bnd_e zhs
          refine x_cVI (As := [.int zx2]) (rest := [.ref (h 23)]) C zhw zhl (cStock_cellOf l D cI h zx2 M zv18 zhp) (by decide) (by decide) kw_22_9 kw_18_12 kw_18_13 kw_2_0 kw_18_14 md_X8_cellOf rfl 40 (wX_c40 h cI M) rfl rfl rfl rfl (Nat.le_of_ble_eq_true rfl) dX3_offBehindCut_33 (fun zH zlocs zhw hn9 => ?_)
          refine lv_iload_n zhx zhb dX3_offBehindCut_36 rfl (lv_at zhl 3 rfl) ?_
          refine lv_iload_n zhx zhb dX3_offBehindCut_37 rfl (lv_at zhl 4 rfl) ?_
          obtain ⟨zv19, zhp, zhs⟩ := bnd_e zhs
          refine x_cVI (As := [.int zv18, .int a1, .int a2]) (rest := []) C zhw zhl (cCells_warmthOverCut_l l D cI h zv18 a1 a2 M zv19 zhp) (by decide) (by decide) kw_40_0 kw_40_1 kw_40_2 kw_3_11 kw_40_3 md_X0_warmthOverCut rfl 23 (wX_c23 h cI M) rfl rfl rfl rfl (Nat.le_of_ble_eq_true rfl) dX3_offBehindCut_38 (fun zH zlocs zhw hn9 => ?_)
          refine lv_istore (lv' := [(5, .int zv19), (4, .int zx2), (3, .int zx1), (0, .ref (h 58)), (1, .int a1), (2, .int a2)]) zhx zhb dX3_offBehindCut_41 zhl (by decide) rfl (fun zls zhl => ?_)
          refine lv_aload_n zhx zhb dX3_offBehindCut_43 rfl (lv_at zhl 3 rfl) ?_
          refine x_get C zhw inlX3 rfl 58 1 (by decide) kw_5_12 rfl (wX_c58 h cI M) rfl dX3_offBehindCut_44 ?_
          refine lv_iload zhx zhb dX3_offBehindCut_47 (lv_at zhl 1 rfl) ?_
          obtain ⟨zv20, zhp, zhs⟩ := bnd_e zhs
          refine x_cVI (As := [.int zx2]) (rest := []) C zhw zhl (cStock_ageOf l D cI h zx2 M zv20 zhp) (by decide) (by decide) kw_19_12 kw_18_16 kw_18_17 kw_2_0 kw_18_18 md_X8_ageOf rfl 40 (wX_c40 h cI M) rfl rfl rfl rfl (Nat.le_of_ble_eq_true rfl) dX3_offBehindCut_49 (fun zH zlocs zhw hn9 => ?_)
          refine lv_aload_n zhx zhb dX3_offBehindCut_52 rfl (lv_at zhl 3 rfl) ?_
          refine x_get C zhw inlX3 rfl 58 1 (by decide) kw_5_12 rfl (wX_c58 h cI M) rfl dX3_offBehindCut_53 ?_
          refine lv_iload zhx zhb dX3_offBehindCut_56 (lv_at zhl 1 rfl) ?_
          obtain ⟨zv21, zhp, zhs⟩ := bnd_e zhs
          refine x_cVI (As := [.int zx2]) (rest := [.int zv20]) C zhw zhl (cStock_kindOf l D cI h zx2 M zv21 zhp) (by decide) (by decide) kw_18_23 kw_18_8 kw_18_9 kw_2_0 kw_18_10 md_X8_kindOf rfl 40 (wX_c40 h cI M) rfl rfl rfl rfl (Nat.le_of_ble_eq_true rfl) dX3_offBehindCut_58 (fun zH zlocs zhw hn9 => ?_)
          refine lv_iload_n zhx zhb dX3_offBehindCut_61 rfl (lv_at zhl 4 rfl) ?_
          refine lv_iload zhx zhb dX3_offBehindCut_62 (lv_at zhl 0 rfl) ?_
          obtain ⟨zv22, zhp, zhs⟩ := bnd_e zhs
          refine x_cSNI (As := [.int zv21, .int a1, .int zv19]) (rest := [.int zv20]) C zhw zhl (cOff_ageing l D cI h zv21 a1 zv19 M zv22 zhp) (by decide) (by decide) (List.mem_of_getElem? (i := 18) rfl) kw_23_1 kw_1_2 kw_23_2 md_X11_ageing rfl rfl (Nat.le_of_ble_eq_true rfl) dX3_offBehindCut_64 (fun zH zlocs zhw hn9 => ?_)
          refine lv_iadd zhx zhb dX3_offBehindCut_67 ?_
          obtain ⟨zv23, ze9, zhs⟩ := ltI_e zhs
          refine lv_topi (fun zy9 ze8 => ?_)
          obtain rfl : zv23 = zy9 := ze9.trans ze8.symm
          clear ze9 ze8
          refine lv_istore (lv' := [(6, .int zv23), (5, .int zv19), (4, .int zx2), (3, .int zx1), (0, .ref (h 58)), (1, .int a1), (2, .int a2)]) zhx zhb dX3_offBehindCut_68 zhl (by decide) rfl (fun zls zhl => ?_)
          refine lv_aload_n zhx zhb dX3_offBehindCut_70 rfl (lv_at zhl 4 rfl) ?_
          refine x_get C zhw inlX3 rfl 58 1 (by decide) kw_5_12 rfl (wX_c58 h cI M) rfl dX3_offBehindCut_71 ?_
          refine lv_iload zhx zhb dX3_offBehindCut_74 (lv_at zhl 2 rfl) ?_
          obtain ⟨zv24, zhp, zhs⟩ := bnd_e zhs
          refine x_cVI (As := [.int zx2]) (rest := []) C zhw zhl (cStock_isThere l D cI h zx2 M zv24 zhp) (by decide) (by decide) kw_22_1 kw_22_2 kw_22_3 kw_2_0 kw_22_4 md_X8_isThere rfl 40 (wX_c40 h cI M) rfl rfl rfl rfl (Nat.le_of_ble_eq_true rfl) dX3_offBehindCut_76 (fun zH zlocs zhw hzv24 => ?_)
          refine lv_if_eq (tgt := 100) zhx zhb dX3_offBehindCut_79 (by decide) (fun zc9 => ?_) (fun zc9 => ?_)
          · replace zhs := br_T zhs zc9
            obtain ⟨zv27, ze9, zhs⟩ := ltI_e zhs
            refine lv_iinc (v := zv27) (lv' := [(4, .int zv27), (6, .int zv23), (5, .int zv19), (3, .int zx1), (0, .ref (h 58)), (1, .int a1), (2, .int a2)]) zhx zhb dX3_offBehindCut_100 zhl (k := 2) rfl (by rw [ze9]; rfl) (by decide) rfl (fun zls zhl => ?_)
            clear ze9
            refine lv_goto (tgt := 5) zhx zhb dX3_offBehindCut_103 (by decide) ?_
            cases zhs
            exact zih zx1 zv27 zq (itk_l zhq) k5_106 zH zlocs zls (lv_sub zhl [0, 3, 4, 5, 6] rfl) zhw
          · replace zhs := br_F zhs zc9
            refine lv_iload zhx zhb dX3_offBehindCut_82 (lv_at zhl 0 rfl) ?_
            refine lv_aload_n zhx zhb dX3_offBehindCut_84 rfl (lv_at zhl 4 rfl) ?_
            refine lv_iload zhx zhb dX3_offBehindCut_85 (lv_at zhl 2 rfl) ?_
            obtain ⟨zv28, zhp, zhs⟩ := bnd_e zhs
            refine x_cVI (As := [.int zx2]) (rest := [.int zv23]) C zhw zhl (cFridge_limitOf l D cI h zx2 M zv28 zhp) (by decide) (by decide) kw_19_13 kw_18_20 kw_18_21 kw_2_6 kw_18_22 md_X3_limitOf rfl 58 (wX_c58 h cI M) rfl rfl rfl rfl (Nat.le_of_ble_eq_true rfl) dX3_offBehindCut_87 (fun zH zlocs zhw hn9 => ?_)
            refine lv_icmp_lt (tgt := 100) zhx zhb dX3_offBehindCut_90 (by decide) (fun zc9 => ?_) (fun zc9 => ?_)
            · replace zhs := br_T zhs zc9
              obtain ⟨zv30, ze9, zhs⟩ := ltI_e zhs
              refine lv_iinc (v := zv30) (lv' := [(4, .int zv30), (6, .int zv23), (5, .int zv19), (3, .int zx1), (0, .ref (h 58)), (1, .int a1), (2, .int a2)]) zhx zhb dX3_offBehindCut_100 zhl (k := 2) rfl (by rw [ze9]; rfl) (by decide) rfl (fun zls zhl => ?_)
              clear ze9
              refine lv_goto (tgt := 5) zhx zhb dX3_offBehindCut_103 (by decide) ?_
              cases zhs
              exact zih zx1 zv30 zq (itk_l zhq) k5_106 zH zlocs zls (lv_sub zhl [0, 3, 4, 5, 6] rfl) zhw
            · replace zhs := br_F zhs zc9
              refine lv_iload_n zhx zhb dX3_offBehindCut_93 rfl (lv_at zhl 3 rfl) ?_
              refine lv_iconst (v := 1) zhx zhb dX3_offBehindCut_94 (by decide) ?_
              refine lv_iload zhx zhb dX3_offBehindCut_95 (lv_at zhl 2 rfl) ?_
              refine lv_ishl zhx zhb dX3_offBehindCut_97 ?_
              refine lv_ior zhx zhb dX3_offBehindCut_98 ?_
              obtain ⟨zv31, ze9, zhs⟩ := ltI_e zhs
              refine lv_topi (fun zy9 ze8 => ?_)
              obtain rfl : zv31 = zy9 := ze9.trans ze8.symm
              clear ze9 ze8
              refine lv_istore_n (lv' := [(3, .int zv31), (6, .int zv23), (5, .int zv19), (4, .int zx2), (0, .ref (h 58)), (1, .int a1), (2, .int a2)]) zhx zhb dX3_offBehindCut_99 rfl zhl (by decide) rfl (fun zls zhl => ?_)
              obtain ⟨zv32, ze9, zhs⟩ := ltI_e zhs
              refine lv_iinc (v := zv32) (lv' := [(4, .int zv32), (3, .int zv31), (6, .int zv23), (5, .int zv19), (0, .ref (h 58)), (1, .int a1), (2, .int a2)]) zhx zhb dX3_offBehindCut_100 zhl (k := 3) rfl (by rw [ze9]; rfl) (by decide) rfl (fun zls zhl => ?_)
              clear ze9
              refine lv_goto (tgt := 5) zhx zhb dX3_offBehindCut_103 (by decide) ?_
              cases zhs
              exact zih zv31 zv32 zq (itk_l zhq) k5_106 zH zlocs zls (lv_sub zhl [0, 1, 4, 5, 6] rfl) zhw
  refine hloop33 N 0 0 zq33 zhq33 (fun zv34 zhqe zH zlocs zls zhl zhw => ?_) zH zlocs zls zhl zhw
  · subst zhqe
    refine lv_iload_n zhx zhb dX3_offBehindCut_106 rfl (lv_at zhl 0 rfl) ?_
    cases zhs
    exact zhret _ _ _ _ dX3_offBehindCut_107 (by rfl) zhw

-- OffFirst.cut in (0, ())
def sOff_cut (N : Nat) (a1 : Int32) (a2 : Int32) (M : Mm) : Option Int32 :=
  (sOff_isWithin a1 1 48).bind fun zv1 =>
  (if zv1 = 0 then some (-1)
  else (sFridge_offBehindCut N a1 a2 M).bind fun zv3 =>
  some zv3)
set_option maxHeartbeats 4000000 in
set_option maxRecDepth 100000 in
theorem cOff_cut (l : Launch) (D : va_G) (cI : ClassId) (h : Nat → Nat) (N : Nat) (a1 : Int32) (a2 : Int32) (M : Mm) (r : Int32) (zhs : sOff_cut N a1 a2 M = some r) : CtI l yX11_cut cX11_cut 3 (some .int) 5 D cI (wX h cI M) (wX h cI M) [.ref (h 0), .int a1, .int a2] r := by
  unfold sOff_cut at zhs
  refine CtI_of (by decide +kernel) (Nat.le_of_ble_eq_true rfl) ⟨_, rfl⟩ ?_
  intro p e s m args below meth c A Q zls zH zlocs C zhw zhl zhret
  have zhx := C.1
  have zhb := C.2.1
  have zhown := C.2.2.2.2.1
  have zhtB := C.2.2.2.2.2.2.1
  have zhl : lv_has zls 3 [(0, .ref (h 0)), (1, .int a1), (2, .int a2)] := zhl
  refine lv_iload_n zhx zhb dX11_cut_0 rfl (lv_at zhl 1 rfl) ?_
  refine lv_iconst (v := 1) zhx zhb dX11_cut_1 (by decide) ?_
  refine lv_bipush (v := 48) zhx zhb dX11_cut_2 (by decide) ?_
  obtain ⟨zv1, zhp, zhs⟩ := bnd_e zhs
  refine x_cSI (As := [.int a1, .int 1, .int 48]) (rest := []) C zhw zhl (cOff_isWithin l D cI h a1 1 48 M zv1 zhp) (by decide) (by decide) kw_9_22 kw_9_23 kw_1_2 kw_10_0 md_X11_isWithin rfl rfl (Nat.le_of_ble_eq_true rfl) dX11_cut_4 (fun zH zlocs zhw hzv1 => ?_)
  refine lv_if_eq (tgt := 22) zhx zhb dX11_cut_7 (by decide) (fun zc9 => ?_) (fun zc9 => ?_)
  · replace zhs := br_T zhs zc9
    refine lv_iconst (v := (-1)) zhx zhb dX11_cut_22 (by decide) ?_
    cases zhs
    exact zhret _ _ _ _ dX11_cut_23 (by rfl) zhw
  · replace zhs := br_F zhs zc9
    refine lv_aload_n zhx zhb dX11_cut_10 rfl (lv_at zhl 0 rfl) ?_
    refine x_get C zhw inlX11 rfl 0 7 (by decide) kw_2_7 rfl (wX_c0 h cI M) rfl dX11_cut_11 ?_
    refine lv_iload_n zhx zhb dX11_cut_14 rfl (lv_at zhl 1 rfl) ?_
    refine lv_iload_n zhx zhb dX11_cut_15 rfl (lv_at zhl 2 rfl) ?_
    obtain ⟨zv3, zhp, zhs⟩ := bnd_e zhs
    refine x_cVI (As := [.int a1, .int a2]) (rest := []) C zhw zhl (cFridge_offBehindCut l D cI h N a1 a2 M zv3 zhp) (by decide) (by decide) kw_39_20 kw_39_21 kw_39_22 kw_2_6 kw_39_23 md_X3_offBehindCut rfl 58 (wX_c58 h cI M) rfl rfl rfl rfl (Nat.le_of_ble_eq_true rfl) dX11_cut_16 (fun zH zlocs zhw hn9 => ?_)
    refine lv_goto (tgt := 23) zhx zhb dX11_cut_19 (by decide) ?_
    cases zhs
    exact zhret _ _ _ _ dX11_cut_23 (by rfl) zhw

-- OffFirst$Stock.hoursSinceLeft in (40, ())
def sStock_hoursSinceLeft (a1 : Int32) (M : Mm) : Option Int32 :=
  some ((M 40 6) - (atf 10 (M 45) a1))
set_option maxHeartbeats 4000000 in
set_option maxRecDepth 100000 in
theorem cStock_hoursSinceLeft (l : Launch) (D : va_G) (cI : ClassId) (h : Nat → Nat) (a1 : Int32) (M : Mm) (r : Int32) (zhs : sStock_hoursSinceLeft a1 M = some r) : CtI l yX8_hoursSinceLeft cX8_hoursSinceLeft 2 (some .int) 2 D cI (wX h cI M) (wX h cI M) [.ref (h 40), .int a1] r := by
  unfold sStock_hoursSinceLeft at zhs
  refine CtI_of (by decide +kernel) (Nat.le_of_ble_eq_true rfl) ⟨_, rfl⟩ ?_
  intro p e s m args below meth c A Q zls zH zlocs C zhw zhl zhret
  have zhx := C.1
  have zhb := C.2.1
  have zhown := C.2.2.2.2.1
  have zhtB := C.2.2.2.2.2.2.1
  have zhl : lv_has zls 2 [(0, .ref (h 40)), (1, .int a1)] := zhl
  refine lv_aload_n zhx zhb dX8_hoursSinceLeft_0 rfl (lv_at zhl 0 rfl) ?_
  refine x_get C zhw inlX8 rfl 40 6 (by decide) kw_7_14 rfl (wX_c40 h cI M) rfl dX8_hoursSinceLeft_1 ?_
  refine lv_aload_n zhx zhb dX8_hoursSinceLeft_4 rfl (lv_at zhl 0 rfl) ?_
  refine x_get C zhw inlX8 rfl 40 4 (by decide) kw_5_6 rfl (wX_c40 h cI M) rfl dX8_hoursSinceLeft_5 ?_
  refine lv_iload_n zhx zhb dX8_hoursSinceLeft_8 rfl (lv_at zhl 1 rfl) ?_
  refine x_cSNI (As := [.ref (h 45), .int a1]) (rest := [.int (M 40 6)]) C zhw zhl (c_at l D cI (wX h cI M) 45 10 (h 45) (M 45) (wX_c45 h cI M) (by decide) a1) (by decide) (by decide) (List.mem_of_getElem? (i := 17) rfl) kw_7_7 kw_1_2 kw_7_8 md_X11_at rfl rfl (Nat.le_of_ble_eq_true rfl) dX8_hoursSinceLeft_9 (fun zH zlocs zhw hn9 => ?_)
  refine lv_isub zhx zhb dX8_hoursSinceLeft_12 ?_
  cases zhs
  exact zhret _ _ _ _ dX8_hoursSinceLeft_13 (by rfl) zhw

-- OffFirst$Fridge.weightOfIll in (58, ())
def sFridge_weightOfIll (a1 : Int32) (M : Mm) : Option Int32 :=
  (sStock_hoursSinceLeft a1 M).bind fun zv1 =>
  (sFridge_limitOf a1 M).bind fun zv2 =>
  (sStock_fateOf a1 M).bind fun zv3 =>
  (if zv3 = 1 then (sOff_isWithin zv1 6 72).bind fun zv4 =>
  (if zv4 = 0 then some 0
  else (if 0 < zv2 then (sStock_ageOf a1 M).bind fun zv5 =>
  dvc zv2 (ltI ((10 * zv5) / zv2) fun zv6 =>
  (if 24 < zv1 then some zv6
  else some (2 * zv6)))
  else some 0))
  else some 0)
set_option maxHeartbeats 4000000 in
set_option maxRecDepth 100000 in
theorem cFridge_weightOfIll (l : Launch) (D : va_G) (cI : ClassId) (h : Nat → Nat) (a1 : Int32) (M : Mm) (r : Int32) (zhs : sFridge_weightOfIll a1 M = some r) : CtI l yX3_weightOfIll cX3_weightOfIll 5 (some .int) 4 D cI (wX h cI M) (wX h cI M) [.ref (h 58), .int a1] r := by
  unfold sFridge_weightOfIll at zhs
  refine CtI_of (by decide +kernel) (Nat.le_of_ble_eq_true rfl) ⟨_, rfl⟩ ?_
  intro p e s m args below meth c A Q zls zH zlocs C zhw zhl zhret
  have zhx := C.1
  have zhb := C.2.1
  have zhown := C.2.2.2.2.1
  have zhtB := C.2.2.2.2.2.2.1
  have zhl : lv_has zls 5 [(0, .ref (h 58)), (1, .int a1)] := zhl
  refine lv_aload_n zhx zhb dX3_weightOfIll_0 rfl (lv_at zhl 0 rfl) ?_
  refine x_get C zhw inlX3 rfl 58 1 (by decide) kw_5_12 rfl (wX_c58 h cI M) rfl dX3_weightOfIll_1 ?_
  refine lv_iload_n zhx zhb dX3_weightOfIll_4 rfl (lv_at zhl 1 rfl) ?_
  obtain ⟨zv1, zhp, zhs⟩ := bnd_e zhs
  refine x_cVI (As := [.int a1]) (rest := []) C zhw zhl (cStock_hoursSinceLeft l D cI h a1 M zv1 zhp) (by decide) (by decide) kw_40_16 kw_40_17 kw_40_18 kw_2_0 kw_40_19 md_X8_hoursSinceLeft rfl 40 (wX_c40 h cI M) rfl rfl rfl rfl (Nat.le_of_ble_eq_true rfl) dX3_weightOfIll_5 (fun zH zlocs zhw hn9 => ?_)
  refine lv_istore_n (lv' := [(2, .int zv1), (0, .ref (h 58)), (1, .int a1)]) zhx zhb dX3_weightOfIll_8 rfl zhl (by decide) rfl (fun zls zhl => ?_)
  refine lv_aload_n zhx zhb dX3_weightOfIll_9 rfl (lv_at zhl 1 rfl) ?_
  refine lv_iload_n zhx zhb dX3_weightOfIll_10 rfl (lv_at zhl 2 rfl) ?_
  obtain ⟨zv2, zhp, zhs⟩ := bnd_e zhs
  refine x_cVI (As := [.int a1]) (rest := []) C zhw zhl (cFridge_limitOf l D cI h a1 M zv2 zhp) (by decide) (by decide) kw_19_13 kw_18_20 kw_18_21 kw_2_6 kw_18_22 md_X3_limitOf rfl 58 (wX_c58 h cI M) rfl rfl rfl rfl (Nat.le_of_ble_eq_true rfl) dX3_weightOfIll_11 (fun zH zlocs zhw hn9 => ?_)
  refine lv_istore_n (lv' := [(3, .int zv2), (2, .int zv1), (0, .ref (h 58)), (1, .int a1)]) zhx zhb dX3_weightOfIll_14 rfl zhl (by decide) rfl (fun zls zhl => ?_)
  refine lv_aload_n zhx zhb dX3_weightOfIll_15 rfl (lv_at zhl 2 rfl) ?_
  refine x_get C zhw inlX3 rfl 58 1 (by decide) kw_5_12 rfl (wX_c58 h cI M) rfl dX3_weightOfIll_16 ?_
  refine lv_iload_n zhx zhb dX3_weightOfIll_19 rfl (lv_at zhl 3 rfl) ?_
  obtain ⟨zv3, zhp, zhs⟩ := bnd_e zhs
  refine x_cVI (As := [.int a1]) (rest := []) C zhw zhl (cStock_fateOf l D cI h a1 M zv3 zhp) (by decide) (by decide) kw_40_20 kw_19_5 kw_19_6 kw_2_0 kw_19_7 md_X8_fateOf rfl 40 (wX_c40 h cI M) rfl rfl rfl rfl (Nat.le_of_ble_eq_true rfl) dX3_weightOfIll_20 (fun zH zlocs zhw hn9 => ?_)
  refine lv_iconst (v := 1) zhx zhb dX3_weightOfIll_23 (by decide) ?_
  refine lv_icmp_ne (tgt := 42) zhx zhb dX3_weightOfIll_24 (by decide) (fun zc9 => ?_) (fun zc9 => ?_)
  · replace zhs := br_F zhs zc9
    refine lv_iconst (v := 0) zhx zhb dX3_weightOfIll_42 (by decide) ?_
    cases zhs
    exact zhret _ _ _ _ dX3_weightOfIll_43 (by rfl) zhw
  · replace zhs := br_T zhs zc9
    refine lv_iload_n zhx zhb dX3_weightOfIll_27 rfl (lv_at zhl 1 rfl) ?_
    refine lv_bipush (v := 6) zhx zhb dX3_weightOfIll_28 (by decide) ?_
    refine lv_bipush (v := 72) zhx zhb dX3_weightOfIll_30 (by decide) ?_
    obtain ⟨zv4, zhp, zhs⟩ := bnd_e zhs
    refine x_cSNI (As := [.int zv1, .int 6, .int 72]) (rest := []) C zhw zhl (cOff_isWithin l D cI h zv1 6 72 M zv4 zhp) (by decide) (by decide) (List.mem_of_getElem? (i := 30) rfl) kw_9_23 kw_1_2 kw_10_0 md_X11_isWithin rfl rfl (Nat.le_of_ble_eq_true rfl) dX3_weightOfIll_32 (fun zH zlocs zhw hzv4 => ?_)
    refine lv_if_eq (tgt := 42) zhx zhb dX3_weightOfIll_35 (by decide) (fun zc9 => ?_) (fun zc9 => ?_)
    · replace zhs := br_T zhs zc9
      refine lv_iconst (v := 0) zhx zhb dX3_weightOfIll_42 (by decide) ?_
      cases zhs
      exact zhret _ _ _ _ dX3_weightOfIll_43 (by rfl) zhw
    · replace zhs := br_F zhs zc9
      refine lv_iload_n zhx zhb dX3_weightOfIll_38 rfl (lv_at zhl 0 rfl) ?_
      refine lv_if_gt (tgt := 44) zhx zhb dX3_weightOfIll_39 (by decide) (fun zc9 => ?_) (fun zc9 => ?_)
      · replace zhs := br_T zhs zc9
        refine lv_bipush (v := 10) zhx zhb dX3_weightOfIll_44 (by decide) ?_
        refine lv_aload_n zhx zhb dX3_weightOfIll_46 rfl (lv_at zhl 2 rfl) ?_
        refine x_get C zhw inlX3 rfl 58 1 (by decide) kw_5_12 rfl (wX_c58 h cI M) rfl dX3_weightOfIll_47 ?_
        refine lv_iload_n zhx zhb dX3_weightOfIll_50 rfl (lv_at zhl 3 rfl) ?_
        obtain ⟨zv5, zhp, zhs⟩ := bnd_e zhs
        refine x_cVI (As := [.int a1]) (rest := [.int 10]) C zhw zhl (cStock_ageOf l D cI h a1 M zv5 zhp) (by decide) (by decide) kw_19_12 kw_18_16 kw_18_17 kw_2_0 kw_18_18 md_X8_ageOf rfl 40 (wX_c40 h cI M) rfl rfl rfl rfl (Nat.le_of_ble_eq_true rfl) dX3_weightOfIll_51 (fun zH zlocs zhw hn9 => ?_)
        refine lv_imul zhx zhb dX3_weightOfIll_54 ?_
        refine lv_iload_n zhx zhb dX3_weightOfIll_55 rfl (lv_at zhl 0 rfl) ?_
        obtain ⟨zhz, zhs⟩ := dvc_e zhs
        refine lv_idiv zhx zhb dX3_weightOfIll_56 zhz ?_
        obtain ⟨zv6, ze9, zhs⟩ := ltI_e zhs
        refine lv_topi (fun zy9 ze8 => ?_)
        obtain rfl : zv6 = zy9 := ze9.trans ze8.symm
        clear ze9 ze8
        refine lv_istore (lv' := [(4, .int zv6), (3, .int zv2), (2, .int zv1), (0, .ref (h 58)), (1, .int a1)]) zhx zhb dX3_weightOfIll_57 zhl (by decide) rfl (fun zls zhl => ?_)
        refine lv_iload_n zhx zhb dX3_weightOfIll_59 rfl (lv_at zhl 2 rfl) ?_
        refine lv_bipush (v := 24) zhx zhb dX3_weightOfIll_60 (by decide) ?_
        refine lv_icmp_gt (tgt := 72) zhx zhb dX3_weightOfIll_62 (by decide) (fun zc9 => ?_) (fun zc9 => ?_)
        · replace zhs := br_T zhs zc9
          refine lv_iload zhx zhb dX3_weightOfIll_72 (lv_at zhl 0 rfl) ?_
          cases zhs
          exact zhret _ _ _ _ dX3_weightOfIll_74 (by rfl) zhw
        · replace zhs := br_F zhs zc9
          refine lv_iconst (v := 2) zhx zhb dX3_weightOfIll_65 (by decide) ?_
          refine lv_iload zhx zhb dX3_weightOfIll_66 (lv_at zhl 0 rfl) ?_
          refine lv_imul zhx zhb dX3_weightOfIll_68 ?_
          refine lv_goto (tgt := 74) zhx zhb dX3_weightOfIll_69 (by decide) ?_
          cases zhs
          exact zhret _ _ _ _ dX3_weightOfIll_74 (by rfl) zhw
      · replace zhs := br_F zhs zc9
        refine lv_iconst (v := 0) zhx zhb dX3_weightOfIll_42 (by decide) ?_
        cases zhs
        exact zhret _ _ _ _ dX3_weightOfIll_43 (by rfl) zhw

-- OffFirst.greatestDivisor in (None, ())
def LOff_greatestDivisor_7_8 (N : Nat) (zx1 : Int32) (zx2 : Int32) (zx3 : Int32) : Option ((Int32 × Int32 × Int32) ⊕ ((Int32))) :=
  (if 64 ≤ zx3 then some (.inr zx1)
  else (if zx2 = 0 then some (.inr zx1)
  else dvc zx2 (ltI (remI zx1 zx2) fun zv6 =>
  ltI (zx3 + 1) fun zv7 =>
  some (.inl (zx2, zv6, zv7)))))
def sOff_greatestDivisor (N : Nat) (a1 : Int32) (a2 : Int32) : Option Int32 :=
  (itr (fun z : Int32 × Int32 × Int32 => LOff_greatestDivisor_7_8 N z.1 z.2.1 z.2.2) N (a1, a2, 0)).bind fun zv9 =>
  some zv9
set_option maxHeartbeats 4000000 in
set_option maxRecDepth 100000 in
theorem cOff_greatestDivisor (l : Launch) (D : va_G) (cI : ClassId) (h : Nat → Nat) (N : Nat) (a1 : Int32) (a2 : Int32) (M : Mm) (r : Int32) (zhs : sOff_greatestDivisor N a1 a2 = some r) : CtI l yX11_greatestDivisor cX11_greatestDivisor 6 (some .int) 1 D cI (wX h cI M) (wX h cI M) [.int a1, .int a2] r := by
  unfold sOff_greatestDivisor at zhs
  refine CtI_of (by decide +kernel) (Nat.le_of_ble_eq_true rfl) ⟨_, rfl⟩ ?_
  intro p e s m args below meth c A Q zls zH zlocs C zhw zhl zhret
  have zhx := C.1
  have zhb := C.2.1
  have zhown := C.2.2.2.2.1
  have zhtB := C.2.2.2.2.2.2.1
  have zhl : lv_has zls 6 [(0, .int a1), (1, .int a2)] := zhl
  refine lv_iload_n zhx zhb dX11_greatestDivisor_0 rfl (lv_at zhl 0 rfl) ?_
  refine lv_istore_n (lv' := [(2, .int a1), (0, .int a1), (1, .int a2)]) zhx zhb dX11_greatestDivisor_1 rfl zhl (by decide) rfl (fun zls zhl => ?_)
  refine lv_iload_n zhx zhb dX11_greatestDivisor_2 rfl (lv_at zhl 2 rfl) ?_
  refine lv_istore_n (lv' := [(3, .int a2), (2, .int a1), (0, .int a1), (1, .int a2)]) zhx zhb dX11_greatestDivisor_3 rfl zhl (by decide) rfl (fun zls zhl => ?_)
  refine lv_iconst (v := 0) zhx zhb dX11_greatestDivisor_4 (by decide) ?_
  refine lv_istore (lv' := [(4, .int 0), (3, .int a2), (2, .int a1), (0, .int a1), (1, .int a2)]) zhx zhb dX11_greatestDivisor_5 zhl (by decide) rfl (fun zls zhl => ?_)
  obtain ⟨zq8, zhq8, zhs⟩ := bnd_e zhs
  have hloop8 : ∀ (zn : Nat) (zx1 : Int32) (zx2 : Int32) (zx3 : Int32) (zq : (Int32)), itr (fun z : Int32 × Int32 × Int32 => LOff_greatestDivisor_7_8 N z.1 z.2.1 z.2.2) zn (zx1, zx2, zx3) = some zq → (∀ (zy1 : Int32), zy1 = zq → ∀ (zH : Heap) (zlocs : List Loc) (zls : Array Slot), lv_has zls 6 [(2, .int zy1)] → Hw D (wX h cI M) A s.heap zH zlocs → W p l e (RM 1) s m args below meth c zH zlocs 0 0 Q (F0 m 34 zls [])) → ∀ (zH : Heap) (zlocs : List Loc) (zls : Array Slot), lv_has zls 6 [(4, .int zx3), (3, .int zx2), (2, .int zx1)] → Hw D (wX h cI M) A s.heap zH zlocs → W p l e (RM 1) s m args below meth c zH zlocs 0 0 Q (F0 m 7 zls []) := by
    intro zn
    induction zn with
    | zero => intro zx1 zx2 zx3 zq zhq; exact absurd zhq (fun h9 => itr_0 h9)
    | succ zn zih =>
        intro zx1 zx2 zx3 zq zhq k7_34 zH zlocs zls zhl zhw
        obtain ⟨zy9, zhs, zhq⟩ := itr_s zhq
        replace zhs : LOff_greatestDivisor_7_8 N zx1 zx2 zx3 = some zy9 := zhs
        unfold LOff_greatestDivisor_7_8 at zhs
        refine lv_iload zhx zhb dX11_greatestDivisor_7 (lv_at zhl 0 rfl) ?_
        refine lv_bipush (v := 64) zhx zhb dX11_greatestDivisor_9 (by decide) ?_
        refine lv_icmp_ge (tgt := 34) zhx zhb dX11_greatestDivisor_11 (by decide) (fun zc9 => ?_) (fun zc9 => ?_)
        · replace zhs := br_T zhs zc9
          cases zhs
          exact k7_34 zx1 (itk_q zhq) zH zlocs zls (lv_sub zhl [2] rfl) zhw
        · replace zhs := br_F zhs zc9
          refine lv_iload_n zhx zhb dX11_greatestDivisor_14 rfl (lv_at zhl 1 rfl) ?_
          refine lv_if_eq (tgt := 34) zhx zhb dX11_greatestDivisor_15 (by decide) (fun zc9 => ?_) (fun zc9 => ?_)
          · replace zhs := br_T zhs zc9
            cases zhs
            exact k7_34 zx1 (itk_q zhq) zH zlocs zls (lv_sub zhl [2] rfl) zhw
          · replace zhs := br_F zhs zc9
            refine lv_iload_n zhx zhb dX11_greatestDivisor_18 rfl (lv_at zhl 2 rfl) ?_
            refine lv_iload_n zhx zhb dX11_greatestDivisor_19 rfl (lv_at zhl 1 rfl) ?_
            obtain ⟨zhz, zhs⟩ := dvc_e zhs
            refine lv_irem zhx zhb dX11_greatestDivisor_20 zhz ?_
            obtain ⟨zv6, ze9, zhs⟩ := ltI_e zhs
            refine lv_topi (fun zy9 ze8 => ?_)
            obtain rfl : zv6 = zy9 := ze9.trans ze8.symm
            clear ze9 ze8
            refine lv_istore (lv' := [(5, .int zv6), (4, .int zx3), (3, .int zx2), (2, .int zx1)]) zhx zhb dX11_greatestDivisor_21 zhl (by decide) rfl (fun zls zhl => ?_)
            refine lv_iload_n zhx zhb dX11_greatestDivisor_23 rfl (lv_at zhl 2 rfl) ?_
            refine lv_istore_n (lv' := [(2, .int zx2), (5, .int zv6), (4, .int zx3), (3, .int zx2)]) zhx zhb dX11_greatestDivisor_24 rfl zhl (by decide) rfl (fun zls zhl => ?_)
            refine lv_iload zhx zhb dX11_greatestDivisor_25 (lv_at zhl 1 rfl) ?_
            refine lv_istore_n (lv' := [(3, .int zv6), (2, .int zx2), (5, .int zv6), (4, .int zx3)]) zhx zhb dX11_greatestDivisor_27 rfl zhl (by decide) rfl (fun zls zhl => ?_)
            obtain ⟨zv7, ze9, zhs⟩ := ltI_e zhs
            refine lv_iinc (v := zv7) (lv' := [(4, .int zv7), (3, .int zv6), (2, .int zx2), (5, .int zv6)]) zhx zhb dX11_greatestDivisor_28 zhl (k := 3) rfl (by rw [ze9]; rfl) (by decide) rfl (fun zls zhl => ?_)
            clear ze9
            refine lv_goto (tgt := 7) zhx zhb dX11_greatestDivisor_31 (by decide) ?_
            cases zhs
            exact zih zx2 zv6 zv7 zq (itk_l zhq) k7_34 zH zlocs zls (lv_sub zhl [0, 1, 2] rfl) zhw
  refine hloop8 N a1 a2 0 zq8 zhq8 (fun zv9 zhqe zH zlocs zls zhl zhw => ?_) zH zlocs zls (lv_sub zhl [0, 1, 2] rfl) zhw
  · subst zhqe
    refine lv_iload_n zhx zhb dX11_greatestDivisor_34 rfl (lv_at zhl 0 rfl) ?_
    cases zhs
    exact zhret _ _ _ _ dX11_greatestDivisor_35 (by rfl) zhw

-- OffFirst.ill in (0, ())
def LOff_ill_27_11 (N : Nat) (M : Mm) (zx3 : Int32) (zx4 : Int32) : Option ((Int32 × Int32) ⊕ ((Int32))) :=
  (if (M 27 7) ≤ zx4 then some (.inr zx3)
  else (sFridge_weightOfIll zx4 M).bind fun zv8 =>
  ltI (zx3 + zv8) fun zv9 =>
  ltI (zx4 + 1) fun zv10 =>
  some (.inl (zv9, zv10)))
def sOff_ill (N : Nat) (a1 : Int32) (a2 : Int32) (M : Mm) : Option Int32 :=
  (sFridge_hasFood a1 M).bind fun zv1 =>
  (if zv1 = 0 then some (-1)
  else (sOff_isWithin a2 0 1).bind fun zv2 =>
  (if zv2 = 0 then some (-1)
  else (itr (fun z : Int32 × Int32 => LOff_ill_27_11 N M z.1 z.2) N (0, 0)).bind fun zv12 =>
  (sFridge_weightOfIll a1 M).bind fun zv13 =>
  (sOff_greatestDivisor N zv12 zv13).bind fun zv14 =>
  (if zv12 ≤ 0 then some (-4)
  else (if 0 < zv14 then (if a2 = 0 then dvc zv14 (some (zv13 / zv14))
  else dvc zv14 (some (zv12 / zv14)))
  else some (-4)))))
set_option maxHeartbeats 4000000 in
set_option maxRecDepth 100000 in
theorem cOff_ill (l : Launch) (D : va_G) (cI : ClassId) (h : Nat → Nat) (N : Nat) (a1 : Int32) (a2 : Int32) (M : Mm) (r : Int32) (zhs : sOff_ill N a1 a2 M = some r) : CtI l yX11_ill cX11_ill 6 (some .int) 5 D cI (wX h cI M) (wX h cI M) [.ref (h 0), .int a1, .int a2] r := by
  unfold sOff_ill at zhs
  refine CtI_of (by decide +kernel) (Nat.le_of_ble_eq_true rfl) ⟨_, rfl⟩ ?_
  intro p e s m args below meth c A Q zls zH zlocs C zhw zhl zhret
  have zhx := C.1
  have zhb := C.2.1
  have zhown := C.2.2.2.2.1
  have zhtB := C.2.2.2.2.2.2.1
  have zhl : lv_has zls 6 [(0, .ref (h 0)), (1, .int a1), (2, .int a2)] := zhl
  refine lv_aload_n zhx zhb dX11_ill_0 rfl (lv_at zhl 0 rfl) ?_
  refine x_get C zhw inlX11 rfl 0 7 (by decide) kw_2_7 rfl (wX_c0 h cI M) rfl dX11_ill_1 ?_
  refine lv_iload_n zhx zhb dX11_ill_4 rfl (lv_at zhl 1 rfl) ?_
  obtain ⟨zv1, zhp, zhs⟩ := bnd_e zhs
  refine x_cVI (As := [.int a1]) (rest := []) C zhw zhl (cFridge_hasFood l D cI h a1 M zv1 zhp) (by decide) (by decide) kw_18_3 kw_18_4 kw_18_5 kw_2_6 kw_18_6 md_X3_hasFood rfl 58 (wX_c58 h cI M) rfl rfl rfl rfl (Nat.le_of_ble_eq_true rfl) dX11_ill_5 (fun zH zlocs zhw hzv1 => ?_)
  refine lv_if_eq (tgt := 20) zhx zhb dX11_ill_8 (by decide) (fun zc9 => ?_) (fun zc9 => ?_)
  · replace zhs := br_T zhs zc9
    refine lv_iconst (v := (-1)) zhx zhb dX11_ill_20 (by decide) ?_
    cases zhs
    exact zhret _ _ _ _ dX11_ill_21 (by rfl) zhw
  · replace zhs := br_F zhs zc9
    refine lv_iload_n zhx zhb dX11_ill_11 rfl (lv_at zhl 2 rfl) ?_
    refine lv_iconst (v := 0) zhx zhb dX11_ill_12 (by decide) ?_
    refine lv_iconst (v := 1) zhx zhb dX11_ill_13 (by decide) ?_
    obtain ⟨zv2, zhp, zhs⟩ := bnd_e zhs
    refine x_cSI (As := [.int a2, .int 0, .int 1]) (rest := []) C zhw zhl (cOff_isWithin l D cI h a2 0 1 M zv2 zhp) (by decide) (by decide) kw_9_22 kw_9_23 kw_1_2 kw_10_0 md_X11_isWithin rfl rfl (Nat.le_of_ble_eq_true rfl) dX11_ill_14 (fun zH zlocs zhw hzv2 => ?_)
    refine lv_if_ne (tgt := 22) zhx zhb dX11_ill_17 (by decide) (fun zc9 => ?_) (fun zc9 => ?_)
    · replace zhs := br_F zhs zc9
      refine lv_iconst (v := 0) zhx zhb dX11_ill_22 (by decide) ?_
      refine lv_istore_n (lv' := [(3, .int 0), (0, .ref (h 0)), (1, .int a1), (2, .int a2)]) zhx zhb dX11_ill_23 rfl zhl (by decide) rfl (fun zls zhl => ?_)
      refine lv_iconst (v := 0) zhx zhb dX11_ill_24 (by decide) ?_
      refine lv_istore (lv' := [(4, .int 0), (3, .int 0), (0, .ref (h 0)), (1, .int a1), (2, .int a2)]) zhx zhb dX11_ill_25 zhl (by decide) rfl (fun zls zhl => ?_)
      obtain ⟨zq11, zhq11, zhs⟩ := bnd_e zhs
      have hloop11 : ∀ (zn : Nat) (zx3 : Int32) (zx4 : Int32) (zq : (Int32)), itr (fun z : Int32 × Int32 => LOff_ill_27_11 N M z.1 z.2) zn (zx3, zx4) = some zq → (∀ (zy1 : Int32), zy1 = zq → ∀ (zH : Heap) (zlocs : List Loc) (zls : Array Slot), lv_has zls 6 [(3, .int zy1), (0, .ref (h 0)), (1, .int a1), (2, .int a2)] → Hw D (wX h cI M) A s.heap zH zlocs → W p l e (RM 5) s m args below meth c zH zlocs 0 0 Q (F0 m 60 zls [])) → ∀ (zH : Heap) (zlocs : List Loc) (zls : Array Slot), lv_has zls 6 [(4, .int zx4), (3, .int zx3), (0, .ref (h 0)), (1, .int a1), (2, .int a2)] → Hw D (wX h cI M) A s.heap zH zlocs → W p l e (RM 5) s m args below meth c zH zlocs 0 0 Q (F0 m 27 zls []) := by
        intro zn
        induction zn with
        | zero => intro zx3 zx4 zq zhq; exact absurd zhq (fun h9 => itr_0 h9)
        | succ zn zih =>
            intro zx3 zx4 zq zhq k27_60 zH zlocs zls zhl zhw
            obtain ⟨zy9, zhs, zhq⟩ := itr_s zhq
            replace zhs : LOff_ill_27_11 N M zx3 zx4 = some zy9 := zhs
            unfold LOff_ill_27_11 at zhs
            refine lv_iload zhx zhb dX11_ill_27 (lv_at zhl 0 rfl) ?_
            refine lv_aload_n zhx zhb dX11_ill_29 rfl (lv_at zhl 2 rfl) ?_
            refine x_get C zhw inlX11 rfl 0 2 (by decide) kw_1_21 rfl (wX_c0 h cI M) rfl dX11_ill_30 ?_
            refine x_getN C zhw inlX10 rfl 22 1 (by decide) (List.mem_of_getElem? (i := 19) rfl) rfl (wX_c22 h cI M) rfl dX11_ill_33 ?_
            refine x_getN C zhw inlX2 rfl 27 7 (by decide) (List.mem_of_getElem? (i := 11) rfl) rfl (wX_c27 h cI M) rfl dX11_ill_36 ?_
            refine lv_icmp_ge (tgt := 60) zhx zhb dX11_ill_39 (by decide) (fun zc9 => ?_) (fun zc9 => ?_)
            · replace zhs := br_T zhs zc9
              cases zhs
              exact k27_60 zx3 (itk_q zhq) zH zlocs zls (lv_sub zhl [1, 2, 3, 4] rfl) zhw
            · replace zhs := br_F zhs zc9
              refine lv_iload_n zhx zhb dX11_ill_42 rfl (lv_at zhl 1 rfl) ?_
              refine lv_aload_n zhx zhb dX11_ill_43 rfl (lv_at zhl 2 rfl) ?_
              refine x_get C zhw inlX11 rfl 0 7 (by decide) kw_2_7 rfl (wX_c0 h cI M) rfl dX11_ill_44 ?_
              refine lv_iload zhx zhb dX11_ill_47 (lv_at zhl 0 rfl) ?_
              obtain ⟨zv8, zhp, zhs⟩ := bnd_e zhs
              refine x_cVI (As := [.int zx4]) (rest := [.int zx3]) C zhw zhl (cFridge_weightOfIll l D cI h zx4 M zv8 zhp) (by decide) (by decide) kw_40_12 kw_40_13 kw_40_14 kw_2_6 kw_40_15 md_X3_weightOfIll rfl 58 (wX_c58 h cI M) rfl rfl rfl rfl (Nat.le_of_ble_eq_true rfl) dX11_ill_49 (fun zH zlocs zhw hn9 => ?_)
              refine lv_iadd zhx zhb dX11_ill_52 ?_
              obtain ⟨zv9, ze9, zhs⟩ := ltI_e zhs
              refine lv_topi (fun zy9 ze8 => ?_)
              obtain rfl : zv9 = zy9 := ze9.trans ze8.symm
              clear ze9 ze8
              refine lv_istore_n (lv' := [(3, .int zv9), (4, .int zx4), (0, .ref (h 0)), (1, .int a1), (2, .int a2)]) zhx zhb dX11_ill_53 rfl zhl (by decide) rfl (fun zls zhl => ?_)
              obtain ⟨zv10, ze9, zhs⟩ := ltI_e zhs
              refine lv_iinc (v := zv10) (lv' := [(4, .int zv10), (3, .int zv9), (0, .ref (h 0)), (1, .int a1), (2, .int a2)]) zhx zhb dX11_ill_54 zhl (k := 1) rfl (by rw [ze9]; rfl) (by decide) rfl (fun zls zhl => ?_)
              clear ze9
              refine lv_goto (tgt := 27) zhx zhb dX11_ill_57 (by decide) ?_
              cases zhs
              exact zih zv9 zv10 zq (itk_l zhq) k27_60 zH zlocs zls zhl zhw
      refine hloop11 N 0 0 zq11 zhq11 (fun zv12 zhqe zH zlocs zls zhl zhw => ?_) zH zlocs zls zhl zhw
      · subst zhqe
        refine lv_aload_n zhx zhb dX11_ill_60 rfl (lv_at zhl 1 rfl) ?_
        refine x_get C zhw inlX11 rfl 0 7 (by decide) kw_2_7 rfl (wX_c0 h cI M) rfl dX11_ill_61 ?_
        refine lv_iload_n zhx zhb dX11_ill_64 rfl (lv_at zhl 2 rfl) ?_
        obtain ⟨zv13, zhp, zhs⟩ := bnd_e zhs
        refine x_cVI (As := [.int a1]) (rest := []) C zhw zhl (cFridge_weightOfIll l D cI h a1 M zv13 zhp) (by decide) (by decide) kw_40_12 kw_40_13 kw_40_14 kw_2_6 kw_40_15 md_X3_weightOfIll rfl 58 (wX_c58 h cI M) rfl rfl rfl rfl (Nat.le_of_ble_eq_true rfl) dX11_ill_65 (fun zH zlocs zhw hn9 => ?_)
        refine lv_istore (lv' := [(4, .int zv13), (3, .int zv12), (0, .ref (h 0)), (1, .int a1), (2, .int a2)]) zhx zhb dX11_ill_68 zhl (by decide) rfl (fun zls zhl => ?_)
        refine lv_iload_n zhx zhb dX11_ill_70 rfl (lv_at zhl 1 rfl) ?_
        refine lv_iload zhx zhb dX11_ill_71 (lv_at zhl 0 rfl) ?_
        obtain ⟨zv14, zhp, zhs⟩ := bnd_e zhs
        refine x_cSI (As := [.int zv12, .int zv13]) (rest := []) C zhw zhl (cOff_greatestDivisor l D cI h N zv12 zv13 M zv14 zhp) (by decide) (by decide) kw_40_21 kw_40_22 kw_1_2 kw_40_23 md_X11_greatestDivisor rfl rfl (Nat.le_of_ble_eq_true rfl) dX11_ill_73 (fun zH zlocs zhw hn9 => ?_)
        refine lv_istore (lv' := [(5, .int zv14), (4, .int zv13), (3, .int zv12), (0, .ref (h 0)), (1, .int a1), (2, .int a2)]) zhx zhb dX11_ill_76 zhl (by decide) rfl (fun zls zhl => ?_)
        refine lv_iload_n zhx zhb dX11_ill_78 rfl (lv_at zhl 2 rfl) ?_
        refine lv_if_le (tgt := 87) zhx zhb dX11_ill_79 (by decide) (fun zc9 => ?_) (fun zc9 => ?_)
        · replace zhs := br_T zhs zc9
          refine lv_bipush (v := (-4)) zhx zhb dX11_ill_87 (by decide) ?_
          cases zhs
          exact zhret _ _ _ _ dX11_ill_89 (by rfl) zhw
        · replace zhs := br_F zhs zc9
          refine lv_iload zhx zhb dX11_ill_82 (lv_at zhl 0 rfl) ?_
          refine lv_if_gt (tgt := 90) zhx zhb dX11_ill_84 (by decide) (fun zc9 => ?_) (fun zc9 => ?_)
          · replace zhs := br_T zhs zc9
            refine lv_iload_n zhx zhb dX11_ill_90 rfl (lv_at zhl 5 rfl) ?_
            refine lv_if_ne (tgt := 102) zhx zhb dX11_ill_91 (by decide) (fun zc9 => ?_) (fun zc9 => ?_)
            · replace zhs := br_F zhs zc9
              refine lv_iload_n zhx zhb dX11_ill_102 rfl (lv_at zhl 2 rfl) ?_
              refine lv_iload zhx zhb dX11_ill_103 (lv_at zhl 0 rfl) ?_
              obtain ⟨zhz, zhs⟩ := dvc_e zhs
              refine lv_idiv zhx zhb dX11_ill_105 zhz ?_
              cases zhs
              exact zhret _ _ _ _ dX11_ill_106 (by rfl) zhw
            · replace zhs := br_T zhs zc9
              refine lv_iload zhx zhb dX11_ill_94 (lv_at zhl 1 rfl) ?_
              refine lv_iload zhx zhb dX11_ill_96 (lv_at zhl 0 rfl) ?_
              obtain ⟨zhz, zhs⟩ := dvc_e zhs
              refine lv_idiv zhx zhb dX11_ill_98 zhz ?_
              refine lv_goto (tgt := 106) zhx zhb dX11_ill_99 (by decide) ?_
              cases zhs
              exact zhret _ _ _ _ dX11_ill_106 (by rfl) zhw
          · replace zhs := br_F zhs zc9
            refine lv_bipush (v := (-4)) zhx zhb dX11_ill_87 (by decide) ?_
            cases zhs
            exact zhret _ _ _ _ dX11_ill_89 (by rfl) zhw
    · replace zhs := br_T zhs zc9
      refine lv_iconst (v := (-1)) zhx zhb dX11_ill_20 (by decide) ?_
      cases zhs
      exact zhret _ _ _ _ dX11_ill_21 (by rfl) zhw

-- OffFirst$Spans.add in (71, ())
def sSpans_add (a1 : Int32) (a2 : Int32) (M : Mm) : Option (Int32 × Mm) :=
  (if (M 71 2) < 8 then ltM (putf 8 M 72 (M 71 2) a1) fun zM1 =>
  ltM (putf 8 zM1 73 (zM1 71 2) a2) fun zM2 =>
  ltM (mset zM2 71 2 ((zM2 71 2) + 1)) fun zM3 =>
  some (1, zM3)
  else some (0, M))
set_option maxHeartbeats 4000000 in
set_option maxRecDepth 100000 in
theorem cSpans_add (l : Launch) (D : va_G) (cI : ClassId) (h : Nat → Nat) (a1 : Int32) (a2 : Int32) (M : Mm) (r : Int32) (M' : Mm) (zhs : sSpans_add a1 a2 M = some (r, M')) : CtI l yX7_add cX7_add 3 (some .boolean) 2 D cI (wX h cI M) (wX h cI M') [.ref (h 71), .int a1, .int a2] r := by
  unfold sSpans_add at zhs
  refine CtI_of (by decide +kernel) (Nat.le_of_ble_eq_true rfl) ⟨_, rfl⟩ ?_
  intro p e s m args below meth c A Q zls zH zlocs C zhw zhl zhret
  have zhx := C.1
  have zhb := C.2.1
  have zhown := C.2.2.2.2.1
  have zhtB := C.2.2.2.2.2.2.1
  have zhl : lv_has zls 3 [(0, .ref (h 71)), (1, .int a1), (2, .int a2)] := zhl
  refine lv_aload_n zhx zhb dX7_add_0 rfl (lv_at zhl 0 rfl) ?_
  refine x_get C zhw inlX7 rfl 71 2 (by decide) kw_41_17 rfl (wX_c71 h cI M) rfl dX7_add_1 ?_
  refine lv_bipush (v := 8) zhx zhb dX7_add_4 (by decide) ?_
  refine lv_icmp_lt (tgt := 11) zhx zhb dX7_add_6 (by decide) (fun zc9 => ?_) (fun zc9 => ?_)
  · replace zhs := br_T zhs zc9
    refine lv_aload_n zhx zhb dX7_add_11 rfl (lv_at zhl 0 rfl) ?_
    refine x_get C zhw inlX7 rfl 71 0 (by decide) kw_6_17 rfl (wX_c71 h cI M) rfl dX7_add_12 ?_
    refine lv_aload_n zhx zhb dX7_add_15 rfl (lv_at zhl 0 rfl) ?_
    refine x_get C zhw inlX7 rfl 71 2 (by decide) kw_41_17 rfl (wX_c71 h cI M) rfl dX7_add_16 ?_
    refine lv_iload_n zhx zhb dX7_add_19 rfl (lv_at zhl 1 rfl) ?_
    refine x_cSNV (As := [.ref (h 72), .int (M 71 2), .int a1]) (rest := []) C zhw zhl (c_put l D cI (wX h cI) M 72 8 (h 72) (wX_c72 h cI M) (fun j v => wX_a72 h cI M j v) (by decide) (M 71 2) a1) (by decide) (by decide) (List.mem_of_getElem? (i := 31) rfl) kw_7_0 kw_1_2 kw_7_1 md_X11_put rfl rfl (Nat.le_of_ble_eq_true rfl) dX7_add_20 (fun zH zlocs zhw => ?_)
    obtain ⟨zM1, ze9, zhs⟩ := ltM_e zhs
    rw [← ze9] at zhw; clear ze9
    refine lv_aload_n zhx zhb dX7_add_23 rfl (lv_at zhl 0 rfl) ?_
    refine x_get C zhw inlX7 rfl 71 1 (by decide) kw_6_18 rfl (wX_c71 h cI zM1) rfl dX7_add_24 ?_
    refine lv_aload_n zhx zhb dX7_add_27 rfl (lv_at zhl 0 rfl) ?_
    refine x_get C zhw inlX7 rfl 71 2 (by decide) kw_41_17 rfl (wX_c71 h cI zM1) rfl dX7_add_28 ?_
    refine lv_iload_n zhx zhb dX7_add_31 rfl (lv_at zhl 2 rfl) ?_
    refine x_cSNV (As := [.ref (h 73), .int (zM1 71 2), .int a2]) (rest := []) C zhw zhl (c_put l D cI (wX h cI) zM1 73 8 (h 73) (wX_c73 h cI zM1) (fun j v => wX_a73 h cI zM1 j v) (by decide) (zM1 71 2) a2) (by decide) (by decide) (List.mem_of_getElem? (i := 31) rfl) kw_7_0 kw_1_2 kw_7_1 md_X11_put rfl rfl (Nat.le_of_ble_eq_true rfl) dX7_add_32 (fun zH zlocs zhw => ?_)
    obtain ⟨zM2, ze9, zhs⟩ := ltM_e zhs
    rw [← ze9] at zhw; clear ze9
    refine lv_aload_n zhx zhb dX7_add_35 rfl (lv_at zhl 0 rfl) ?_
    refine lv_dup zhx zhb dX7_add_36 rfl ?_
    refine x_get C zhw inlX7 rfl 71 2 (by decide) kw_41_17 rfl (wX_c71 h cI zM2) rfl dX7_add_37 ?_
    refine lv_iconst (v := 1) zhx zhb dX7_add_40 (by decide) ?_
    refine lv_iadd zhx zhb dX7_add_41 ?_
    refine x_put C zhw inlX7 rfl tyX7_ok nmX7 71 2 (by decide) kw_41_17 rfl rfl rfl (wX_c71 h cI zM2) (Nat.le_of_ble_eq_true rfl) (wX_s71_2 h cI zM2 _) dX7_add_42 (fun zH zlocs zhw => ?_)
    obtain ⟨zM3, ze9, zhs⟩ := ltM_e zhs
    rw [← ze9] at zhw; clear ze9
    refine lv_iconst (v := 1) zhx zhb dX7_add_45 (by decide) ?_
    cases zhs
    exact zhret _ _ _ _ dX7_add_46 (by rfl) zhw
  · replace zhs := br_F zhs zc9
    refine lv_iconst (v := 0) zhx zhb dX7_add_9 (by decide) ?_
    cases zhs
    exact zhret _ _ _ _ dX7_add_10 (by rfl) zhw

-- OffFirst.span in (0, ())
def sOff_span (a1 : Int32) (a2 : Int32) (M : Mm) : Option (Int32 × Mm) :=
  (sOff_isWithin a1 0 300).bind fun zv1 =>
  (if zv1 = 0 then some ((-1), M)
  else (sOff_isWithin a2 1 300).bind fun zv2 =>
  (if zv2 = 0 then some ((-1), M)
  else (sSpans_add a1 a2 M).bind fun (zv3, zM4) =>
  (if zv3 = 0 then some ((-3), zM4)
  else some ((zM4 71 2), zM4))))
set_option maxHeartbeats 4000000 in
set_option maxRecDepth 100000 in
theorem cOff_span (l : Launch) (D : va_G) (cI : ClassId) (h : Nat → Nat) (a1 : Int32) (a2 : Int32) (M : Mm) (r : Int32) (M' : Mm) (zhs : sOff_span a1 a2 M = some (r, M')) : CtI l yX11_span cX11_span 3 (some .int) 3 D cI (wX h cI M) (wX h cI M') [.ref (h 0), .int a1, .int a2] r := by
  unfold sOff_span at zhs
  refine CtI_of (by decide +kernel) (Nat.le_of_ble_eq_true rfl) ⟨_, rfl⟩ ?_
  intro p e s m args below meth c A Q zls zH zlocs C zhw zhl zhret
  have zhx := C.1
  have zhb := C.2.1
  have zhown := C.2.2.2.2.1
  have zhtB := C.2.2.2.2.2.2.1
  have zhl : lv_has zls 3 [(0, .ref (h 0)), (1, .int a1), (2, .int a2)] := zhl
  refine lv_iload_n zhx zhb dX11_span_0 rfl (lv_at zhl 1 rfl) ?_
  refine lv_iconst (v := 0) zhx zhb dX11_span_1 (by decide) ?_
  refine lv_sipush (v := 300) zhx zhb dX11_span_2 (by decide) ?_
  obtain ⟨zv1, zhp, zhs⟩ := bnd_e zhs
  refine x_cSI (As := [.int a1, .int 0, .int 300]) (rest := []) C zhw zhl (cOff_isWithin l D cI h a1 0 300 M zv1 zhp) (by decide) (by decide) kw_9_22 kw_9_23 kw_1_2 kw_10_0 md_X11_isWithin rfl rfl (Nat.le_of_ble_eq_true rfl) dX11_span_5 (fun zH zlocs zhw hzv1 => ?_)
  refine lv_if_eq (tgt := 22) zhx zhb dX11_span_8 (by decide) (fun zc9 => ?_) (fun zc9 => ?_)
  · replace zhs := br_T zhs zc9
    refine lv_iconst (v := (-1)) zhx zhb dX11_span_22 (by decide) ?_
    cases zhs
    exact zhret _ _ _ _ dX11_span_23 (by rfl) zhw
  · replace zhs := br_F zhs zc9
    refine lv_iload_n zhx zhb dX11_span_11 rfl (lv_at zhl 2 rfl) ?_
    refine lv_iconst (v := 1) zhx zhb dX11_span_12 (by decide) ?_
    refine lv_sipush (v := 300) zhx zhb dX11_span_13 (by decide) ?_
    obtain ⟨zv2, zhp, zhs⟩ := bnd_e zhs
    refine x_cSI (As := [.int a2, .int 1, .int 300]) (rest := []) C zhw zhl (cOff_isWithin l D cI h a2 1 300 M zv2 zhp) (by decide) (by decide) kw_9_22 kw_9_23 kw_1_2 kw_10_0 md_X11_isWithin rfl rfl (Nat.le_of_ble_eq_true rfl) dX11_span_16 (fun zH zlocs zhw hzv2 => ?_)
    refine lv_if_ne (tgt := 24) zhx zhb dX11_span_19 (by decide) (fun zc9 => ?_) (fun zc9 => ?_)
    · replace zhs := br_F zhs zc9
      refine lv_aload_n zhx zhb dX11_span_24 rfl (lv_at zhl 0 rfl) ?_
      refine x_get C zhw inlX11 rfl 0 11 (by decide) kw_2_23 rfl (wX_c0 h cI M) rfl dX11_span_25 ?_
      refine lv_iload_n zhx zhb dX11_span_28 rfl (lv_at zhl 1 rfl) ?_
      refine lv_iload_n zhx zhb dX11_span_29 rfl (lv_at zhl 2 rfl) ?_
      obtain ⟨⟨zv3, zM4⟩, zhp, zhs⟩ := bnd_e zhs
      try dsimp only at zhs
      refine x_cVI (As := [.int a1, .int a2]) (rest := []) C zhw zhl (cSpans_add l D cI h a1 a2 M zv3 zM4 zhp) (by decide) (by decide) kw_41_13 kw_41_14 kw_41_15 kw_2_22 kw_41_16 md_X7_add rfl 71 (wX_c71 h cI M) rfl rfl rfl rfl (Nat.le_of_ble_eq_true rfl) dX11_span_30 (fun zH zlocs zhw hzv3 => ?_)
      refine lv_if_eq (tgt := 46) zhx zhb dX11_span_33 (by decide) (fun zc9 => ?_) (fun zc9 => ?_)
      · replace zhs := br_T zhs zc9
        refine lv_bipush (v := (-3)) zhx zhb dX11_span_46 (by decide) ?_
        cases zhs
        exact zhret _ _ _ _ dX11_span_48 (by rfl) zhw
      · replace zhs := br_F zhs zc9
        refine lv_aload_n zhx zhb dX11_span_36 rfl (lv_at zhl 0 rfl) ?_
        refine x_get C zhw inlX11 rfl 0 11 (by decide) kw_2_23 rfl (wX_c0 h cI zM4) rfl dX11_span_37 ?_
        refine x_getN C zhw inlX7 rfl 71 2 (by decide) (List.mem_of_getElem? (i := 40) rfl) rfl (wX_c71 h cI zM4) rfl dX11_span_40 ?_
        refine lv_goto (tgt := 48) zhx zhb dX11_span_43 (by decide) ?_
        cases zhs
        exact zhret _ _ _ _ dX11_span_48 (by rfl) zhw
    · replace zhs := br_T zhs zc9
      refine lv_iconst (v := (-1)) zhx zhb dX11_span_22 (by decide) ?_
      cases zhs
      exact zhret _ _ _ _ dX11_span_23 (by rfl) zhw

-- OffFirst.noSpans in (0, ())
def sOff_noSpans (M : Mm) : Option (Int32 × Mm) :=
  ltI (M 71 2) fun zv1 =>
  ltM (mset M 71 2 0) fun zM2 =>
  some (zv1, zM2)
set_option maxHeartbeats 4000000 in
set_option maxRecDepth 100000 in
theorem cOff_noSpans (l : Launch) (D : va_G) (cI : ClassId) (h : Nat → Nat) (M : Mm) (r : Int32) (M' : Mm) (zhs : sOff_noSpans M = some (r, M')) : CtI l yX11_noSpans cX11_noSpans 2 (some .int) 1 D cI (wX h cI M) (wX h cI M') [.ref (h 0)] r := by
  unfold sOff_noSpans at zhs
  refine CtI_of (by decide +kernel) (Nat.le_of_ble_eq_true rfl) ⟨_, rfl⟩ ?_
  intro p e s m args below meth c A Q zls zH zlocs C zhw zhl zhret
  have zhx := C.1
  have zhb := C.2.1
  have zhown := C.2.2.2.2.1
  have zhtB := C.2.2.2.2.2.2.1
  have zhl : lv_has zls 2 [(0, .ref (h 0))] := zhl
  refine lv_aload_n zhx zhb dX11_noSpans_0 rfl (lv_at zhl 0 rfl) ?_
  refine x_get C zhw inlX11 rfl 0 11 (by decide) kw_2_23 rfl (wX_c0 h cI M) rfl dX11_noSpans_1 ?_
  refine x_getN C zhw inlX7 rfl 71 2 (by decide) (List.mem_of_getElem? (i := 40) rfl) rfl (wX_c71 h cI M) rfl dX11_noSpans_4 ?_
  obtain ⟨zv1, ze9, zhs⟩ := ltI_e zhs
  refine lv_topi (fun zy9 ze8 => ?_)
  obtain rfl : zv1 = zy9 := ze9.trans ze8.symm
  clear ze9 ze8
  refine lv_istore_n (lv' := [(1, .int zv1), (0, .ref (h 0))]) zhx zhb dX11_noSpans_7 rfl zhl (by decide) rfl (fun zls zhl => ?_)
  refine lv_aload_n zhx zhb dX11_noSpans_8 rfl (lv_at zhl 1 rfl) ?_
  refine x_get C zhw inlX11 rfl 0 11 (by decide) kw_2_23 rfl (wX_c0 h cI M) rfl dX11_noSpans_9 ?_
  refine lv_iconst (v := 0) zhx zhb dX11_noSpans_12 (by decide) ?_
  refine x_putN C zhw inlX7 rfl tyX7_ok nmX7 71 2 (by decide) (List.mem_of_getElem? (i := 40) rfl) rfl rfl rfl (wX_c71 h cI M) (Nat.le_of_ble_eq_true rfl) (wX_s71_2 h cI M _) dX11_noSpans_13 (fun zH zlocs zhw => ?_)
  obtain ⟨zM2, ze9, zhs⟩ := ltM_e zhs
  rw [← ze9] at zhw; clear ze9
  refine lv_iload_n zhx zhb dX11_noSpans_16 rfl (lv_at zhl 0 rfl) ?_
  cases zhs
  exact zhret _ _ _ _ dX11_noSpans_17 (by rfl) zhw

-- OffFirst$Spans.fittedBy in (71, ())
def LSpans_fittedBy_4_19 (N : Nat) (a1 : Int32) (M : Mm) (zx1 : Int32) (zx2 : Int32) : Option ((Int32 × Int32) ⊕ ((Int32))) :=
  (if (M 71 2) ≤ zx2 then some (.inr zx1)
  else ltI (a1 + (atf 8 (M 72) zx2)) fun zv11 =>
  ltI (atf 8 (M 73) zx2) fun zv12 =>
  (if (zv11 * zv12) < 2400 then ltI (zx2 + 1) fun zv14 =>
  some (.inl (zx1, zv14))
  else (if 2400 ≤ (zv11 * (zv12 - 1)) then ltI (zx2 + 1) fun zv16 =>
  some (.inl (zx1, zv16))
  else ltI (zx1 + 1) fun zv17 =>
  ltI (zx2 + 1) fun zv18 =>
  some (.inl (zv17, zv18)))))
def sSpans_fittedBy (N : Nat) (a1 : Int32) (M : Mm) : Option Int32 :=
  (itr (fun z : Int32 × Int32 => LSpans_fittedBy_4_19 N a1 M z.1 z.2) N (0, 0)).bind fun zv20 =>
  some zv20
set_option maxHeartbeats 4000000 in
set_option maxRecDepth 100000 in
theorem cSpans_fittedBy (l : Launch) (D : va_G) (cI : ClassId) (h : Nat → Nat) (N : Nat) (a1 : Int32) (M : Mm) (r : Int32) (zhs : sSpans_fittedBy N a1 M = some r) : CtI l yX7_fittedBy cX7_fittedBy 6 (some .int) 2 D cI (wX h cI M) (wX h cI M) [.ref (h 71), .int a1] r := by
  unfold sSpans_fittedBy at zhs
  refine CtI_of (by decide +kernel) (Nat.le_of_ble_eq_true rfl) ⟨_, rfl⟩ ?_
  intro p e s m args below meth c A Q zls zH zlocs C zhw zhl zhret
  have zhx := C.1
  have zhb := C.2.1
  have zhown := C.2.2.2.2.1
  have zhtB := C.2.2.2.2.2.2.1
  have zhl : lv_has zls 6 [(0, .ref (h 71)), (1, .int a1)] := zhl
  refine lv_iconst (v := 0) zhx zhb dX7_fittedBy_0 (by decide) ?_
  refine lv_istore_n (lv' := [(2, .int 0), (0, .ref (h 71)), (1, .int a1)]) zhx zhb dX7_fittedBy_1 rfl zhl (by decide) rfl (fun zls zhl => ?_)
  refine lv_iconst (v := 0) zhx zhb dX7_fittedBy_2 (by decide) ?_
  refine lv_istore_n (lv' := [(3, .int 0), (2, .int 0), (0, .ref (h 71)), (1, .int a1)]) zhx zhb dX7_fittedBy_3 rfl zhl (by decide) rfl (fun zls zhl => ?_)
  obtain ⟨zq19, zhq19, zhs⟩ := bnd_e zhs
  have hloop19 : ∀ (zn : Nat) (zx1 : Int32) (zx2 : Int32) (zq : (Int32)), itr (fun z : Int32 × Int32 => LSpans_fittedBy_4_19 N a1 M z.1 z.2) zn (zx1, zx2) = some zq → (∀ (zy1 : Int32), zy1 = zq → ∀ (zH : Heap) (zlocs : List Loc) (zls : Array Slot), lv_has zls 6 [(2, .int zy1)] → Hw D (wX h cI M) A s.heap zH zlocs → W p l e (RM 2) s m args below meth c zH zlocs 0 0 Q (F0 m 67 zls [])) → ∀ (zH : Heap) (zlocs : List Loc) (zls : Array Slot), lv_has zls 6 [(3, .int zx2), (2, .int zx1), (0, .ref (h 71)), (1, .int a1)] → Hw D (wX h cI M) A s.heap zH zlocs → W p l e (RM 2) s m args below meth c zH zlocs 0 0 Q (F0 m 4 zls []) := by
    intro zn
    induction zn with
    | zero => intro zx1 zx2 zq zhq; exact absurd zhq (fun h9 => itr_0 h9)
    | succ zn zih =>
        intro zx1 zx2 zq zhq k4_67 zH zlocs zls zhl zhw
        obtain ⟨zy9, zhs, zhq⟩ := itr_s zhq
        replace zhs : LSpans_fittedBy_4_19 N a1 M zx1 zx2 = some zy9 := zhs
        unfold LSpans_fittedBy_4_19 at zhs
        refine lv_iload_n zhx zhb dX7_fittedBy_4 rfl (lv_at zhl 0 rfl) ?_
        refine lv_aload_n zhx zhb dX7_fittedBy_5 rfl (lv_at zhl 2 rfl) ?_
        refine x_get C zhw inlX7 rfl 71 2 (by decide) kw_41_17 rfl (wX_c71 h cI M) rfl dX7_fittedBy_6 ?_
        refine lv_icmp_ge (tgt := 67) zhx zhb dX7_fittedBy_9 (by decide) (fun zc9 => ?_) (fun zc9 => ?_)
        · replace zhs := br_T zhs zc9
          cases zhs
          exact k4_67 zx1 (itk_q zhq) zH zlocs zls (lv_sub zhl [1] rfl) zhw
        · replace zhs := br_F zhs zc9
          refine lv_iload_n zhx zhb dX7_fittedBy_12 rfl (lv_at zhl 3 rfl) ?_
          refine lv_aload_n zhx zhb dX7_fittedBy_13 rfl (lv_at zhl 2 rfl) ?_
          refine x_get C zhw inlX7 rfl 71 0 (by decide) kw_6_17 rfl (wX_c71 h cI M) rfl dX7_fittedBy_14 ?_
          refine lv_iload_n zhx zhb dX7_fittedBy_17 rfl (lv_at zhl 0 rfl) ?_
          refine x_cSNI (As := [.ref (h 72), .int zx2]) (rest := [.int a1]) C zhw zhl (c_at l D cI (wX h cI M) 72 8 (h 72) (M 72) (wX_c72 h cI M) (by decide) zx2) (by decide) (by decide) (List.mem_of_getElem? (i := 32) rfl) kw_7_7 kw_1_2 kw_7_8 md_X11_at rfl rfl (Nat.le_of_ble_eq_true rfl) dX7_fittedBy_18 (fun zH zlocs zhw hn9 => ?_)
          refine lv_iadd zhx zhb dX7_fittedBy_21 ?_
          obtain ⟨zv11, ze9, zhs⟩ := ltI_e zhs
          refine lv_topi (fun zy9 ze8 => ?_)
          obtain rfl : zv11 = zy9 := ze9.trans ze8.symm
          clear ze9 ze8
          refine lv_istore (lv' := [(4, .int zv11), (3, .int zx2), (2, .int zx1), (0, .ref (h 71)), (1, .int a1)]) zhx zhb dX7_fittedBy_22 zhl (by decide) rfl (fun zls zhl => ?_)
          refine lv_aload_n zhx zhb dX7_fittedBy_24 rfl (lv_at zhl 3 rfl) ?_
          refine x_get C zhw inlX7 rfl 71 1 (by decide) kw_6_18 rfl (wX_c71 h cI M) rfl dX7_fittedBy_25 ?_
          refine lv_iload_n zhx zhb dX7_fittedBy_28 rfl (lv_at zhl 1 rfl) ?_
          refine x_cSNI (As := [.ref (h 73), .int zx2]) (rest := []) C zhw zhl (c_at l D cI (wX h cI M) 73 8 (h 73) (M 73) (wX_c73 h cI M) (by decide) zx2) (by decide) (by decide) (List.mem_of_getElem? (i := 32) rfl) kw_7_7 kw_1_2 kw_7_8 md_X11_at rfl rfl (Nat.le_of_ble_eq_true rfl) dX7_fittedBy_29 (fun zH zlocs zhw hn9 => ?_)
          obtain ⟨zv12, ze9, zhs⟩ := ltI_e zhs
          refine lv_topi (fun zy9 ze8 => ?_)
          obtain rfl : zv12 = zy9 := ze9.trans ze8.symm
          clear ze9 ze8
          refine lv_istore (lv' := [(5, .int zv12), (4, .int zv11), (3, .int zx2), (2, .int zx1), (0, .ref (h 71)), (1, .int a1)]) zhx zhb dX7_fittedBy_32 zhl (by decide) rfl (fun zls zhl => ?_)
          refine lv_iload zhx zhb dX7_fittedBy_34 (lv_at zhl 1 rfl) ?_
          refine lv_iload zhx zhb dX7_fittedBy_36 (lv_at zhl 0 rfl) ?_
          refine lv_imul zhx zhb dX7_fittedBy_38 ?_
          refine lv_sipush (v := 2400) zhx zhb dX7_fittedBy_39 (by decide) ?_
          refine lv_icmp_lt (tgt := 61) zhx zhb dX7_fittedBy_42 (by decide) (fun zc9 => ?_) (fun zc9 => ?_)
          · replace zhs := br_T zhs zc9
            obtain ⟨zv14, ze9, zhs⟩ := ltI_e zhs
            refine lv_iinc (v := zv14) (lv' := [(3, .int zv14), (5, .int zv12), (4, .int zv11), (2, .int zx1), (0, .ref (h 71)), (1, .int a1)]) zhx zhb dX7_fittedBy_61 zhl (k := 2) rfl (by rw [ze9]; rfl) (by decide) rfl (fun zls zhl => ?_)
            clear ze9
            refine lv_goto (tgt := 4) zhx zhb dX7_fittedBy_64 (by decide) ?_
            cases zhs
            exact zih zx1 zv14 zq (itk_l zhq) k4_67 zH zlocs zls (lv_sub zhl [0, 3, 4, 5] rfl) zhw
          · replace zhs := br_F zhs zc9
            refine lv_iload zhx zhb dX7_fittedBy_45 (lv_at zhl 1 rfl) ?_
            refine lv_iload zhx zhb dX7_fittedBy_47 (lv_at zhl 0 rfl) ?_
            refine lv_iconst (v := 1) zhx zhb dX7_fittedBy_49 (by decide) ?_
            refine lv_isub zhx zhb dX7_fittedBy_50 ?_
            refine lv_imul zhx zhb dX7_fittedBy_51 ?_
            refine lv_sipush (v := 2400) zhx zhb dX7_fittedBy_52 (by decide) ?_
            refine lv_icmp_ge (tgt := 61) zhx zhb dX7_fittedBy_55 (by decide) (fun zc9 => ?_) (fun zc9 => ?_)
            · replace zhs := br_T zhs zc9
              obtain ⟨zv16, ze9, zhs⟩ := ltI_e zhs
              refine lv_iinc (v := zv16) (lv' := [(3, .int zv16), (5, .int zv12), (4, .int zv11), (2, .int zx1), (0, .ref (h 71)), (1, .int a1)]) zhx zhb dX7_fittedBy_61 zhl (k := 2) rfl (by rw [ze9]; rfl) (by decide) rfl (fun zls zhl => ?_)
              clear ze9
              refine lv_goto (tgt := 4) zhx zhb dX7_fittedBy_64 (by decide) ?_
              cases zhs
              exact zih zx1 zv16 zq (itk_l zhq) k4_67 zH zlocs zls (lv_sub zhl [0, 3, 4, 5] rfl) zhw
            · replace zhs := br_F zhs zc9
              obtain ⟨zv17, ze9, zhs⟩ := ltI_e zhs
              refine lv_iinc (v := zv17) (lv' := [(2, .int zv17), (5, .int zv12), (4, .int zv11), (3, .int zx2), (0, .ref (h 71)), (1, .int a1)]) zhx zhb dX7_fittedBy_58 zhl (k := 3) rfl (by rw [ze9]; rfl) (by decide) rfl (fun zls zhl => ?_)
              clear ze9
              obtain ⟨zv18, ze9, zhs⟩ := ltI_e zhs
              refine lv_iinc (v := zv18) (lv' := [(3, .int zv18), (2, .int zv17), (5, .int zv12), (4, .int zv11), (0, .ref (h 71)), (1, .int a1)]) zhx zhb dX7_fittedBy_61 zhl (k := 3) rfl (by rw [ze9]; rfl) (by decide) rfl (fun zls zhl => ?_)
              clear ze9
              refine lv_goto (tgt := 4) zhx zhb dX7_fittedBy_64 (by decide) ?_
              cases zhs
              exact zih zv17 zv18 zq (itk_l zhq) k4_67 zH zlocs zls (lv_sub zhl [0, 1, 4, 5] rfl) zhw
  refine hloop19 N 0 0 zq19 zhq19 (fun zv20 zhqe zH zlocs zls zhl zhw => ?_) zH zlocs zls zhl zhw
  · subst zhqe
    refine lv_iload_n zhx zhb dX7_fittedBy_67 rfl (lv_at zhl 0 rfl) ?_
    cases zhs
    exact zhret _ _ _ _ dX7_fittedBy_68 (by rfl) zhw

-- OffFirst$Spans.bestLaw in (71, ())
def LSpans_bestLaw_4_11 (N : Nat) (M : Mm) (zx1 : Int32) (zx2 : Int32) : Option ((Int32 × Int32) ⊕ ((Int32))) :=
  (if 40 < zx2 then some (.inr zx1)
  else (sSpans_fittedBy N zx2 M).bind fun zv7 =>
  (sSpans_fittedBy N zx1 M).bind fun zv8 =>
  (if zv7 ≤ zv8 then ltI (zx2 + 1) fun zv9 =>
  some (.inl (zx1, zv9))
  else ltI (zx2 + 1) fun zv10 =>
  some (.inl (zx2, zv10))))
def sSpans_bestLaw (N : Nat) (M : Mm) : Option Int32 :=
  (itr (fun z : Int32 × Int32 => LSpans_bestLaw_4_11 N M z.1 z.2) N (0, 1)).bind fun zv12 =>
  some zv12
set_option maxHeartbeats 4000000 in
set_option maxRecDepth 100000 in
theorem cSpans_bestLaw (l : Launch) (D : va_G) (cI : ClassId) (h : Nat → Nat) (N : Nat) (M : Mm) (r : Int32) (zhs : sSpans_bestLaw N M = some r) : CtI l yX7_bestLaw cX7_bestLaw 3 (some .int) 3 D cI (wX h cI M) (wX h cI M) [.ref (h 71)] r := by
  unfold sSpans_bestLaw at zhs
  refine CtI_of (by decide +kernel) (Nat.le_of_ble_eq_true rfl) ⟨_, rfl⟩ ?_
  intro p e s m args below meth c A Q zls zH zlocs C zhw zhl zhret
  have zhx := C.1
  have zhb := C.2.1
  have zhown := C.2.2.2.2.1
  have zhtB := C.2.2.2.2.2.2.1
  have zhl : lv_has zls 3 [(0, .ref (h 71))] := zhl
  refine lv_iconst (v := 0) zhx zhb dX7_bestLaw_0 (by decide) ?_
  refine lv_istore_n (lv' := [(1, .int 0), (0, .ref (h 71))]) zhx zhb dX7_bestLaw_1 rfl zhl (by decide) rfl (fun zls zhl => ?_)
  refine lv_iconst (v := 1) zhx zhb dX7_bestLaw_2 (by decide) ?_
  refine lv_istore_n (lv' := [(2, .int 1), (1, .int 0), (0, .ref (h 71))]) zhx zhb dX7_bestLaw_3 rfl zhl (by decide) rfl (fun zls zhl => ?_)
  obtain ⟨zq11, zhq11, zhs⟩ := bnd_e zhs
  have hloop11 : ∀ (zn : Nat) (zx1 : Int32) (zx2 : Int32) (zq : (Int32)), itr (fun z : Int32 × Int32 => LSpans_bestLaw_4_11 N M z.1 z.2) zn (zx1, zx2) = some zq → (∀ (zy1 : Int32), zy1 = zq → ∀ (zH : Heap) (zlocs : List Loc) (zls : Array Slot), lv_has zls 3 [(1, .int zy1)] → Hw D (wX h cI M) A s.heap zH zlocs → W p l e (RM 3) s m args below meth c zH zlocs 0 0 Q (F0 m 31 zls [])) → ∀ (zH : Heap) (zlocs : List Loc) (zls : Array Slot), lv_has zls 3 [(2, .int zx2), (1, .int zx1), (0, .ref (h 71))] → Hw D (wX h cI M) A s.heap zH zlocs → W p l e (RM 3) s m args below meth c zH zlocs 0 0 Q (F0 m 4 zls []) := by
    intro zn
    induction zn with
    | zero => intro zx1 zx2 zq zhq; exact absurd zhq (fun h9 => itr_0 h9)
    | succ zn zih =>
        intro zx1 zx2 zq zhq k4_31 zH zlocs zls zhl zhw
        obtain ⟨zy9, zhs, zhq⟩ := itr_s zhq
        replace zhs : LSpans_bestLaw_4_11 N M zx1 zx2 = some zy9 := zhs
        unfold LSpans_bestLaw_4_11 at zhs
        refine lv_iload_n zhx zhb dX7_bestLaw_4 rfl (lv_at zhl 0 rfl) ?_
        refine lv_bipush (v := 40) zhx zhb dX7_bestLaw_5 (by decide) ?_
        refine lv_icmp_gt (tgt := 31) zhx zhb dX7_bestLaw_7 (by decide) (fun zc9 => ?_) (fun zc9 => ?_)
        · replace zhs := br_T zhs zc9
          cases zhs
          exact k4_31 zx1 (itk_q zhq) zH zlocs zls (lv_sub zhl [1] rfl) zhw
        · replace zhs := br_F zhs zc9
          refine lv_aload_n zhx zhb dX7_bestLaw_10 rfl (lv_at zhl 2 rfl) ?_
          refine lv_iload_n zhx zhb dX7_bestLaw_11 rfl (lv_at zhl 0 rfl) ?_
          obtain ⟨zv7, zhp, zhs⟩ := bnd_e zhs
          refine x_cVI (As := [.int zx2]) (rest := []) C zhw zhl (cSpans_fittedBy l D cI h N zx2 M zv7 zhp) (by decide) (by decide) kw_42_15 kw_42_16 kw_42_17 kw_2_22 kw_42_18 md_X7_fittedBy rfl 71 (wX_c71 h cI M) rfl rfl rfl rfl (Nat.le_of_ble_eq_true rfl) dX7_bestLaw_12 (fun zH zlocs zhw hn9 => ?_)
          refine lv_aload_n zhx zhb dX7_bestLaw_15 rfl (lv_at zhl 2 rfl) ?_
          refine lv_iload_n zhx zhb dX7_bestLaw_16 rfl (lv_at zhl 1 rfl) ?_
          obtain ⟨zv8, zhp, zhs⟩ := bnd_e zhs
          refine x_cVI (As := [.int zx1]) (rest := [.int zv7]) C zhw zhl (cSpans_fittedBy l D cI h N zx1 M zv8 zhp) (by decide) (by decide) kw_42_15 kw_42_16 kw_42_17 kw_2_22 kw_42_18 md_X7_fittedBy rfl 71 (wX_c71 h cI M) rfl rfl rfl rfl (Nat.le_of_ble_eq_true rfl) dX7_bestLaw_17 (fun zH zlocs zhw hn9 => ?_)
          refine lv_icmp_le (tgt := 25) zhx zhb dX7_bestLaw_20 (by decide) (fun zc9 => ?_) (fun zc9 => ?_)
          · replace zhs := br_T zhs zc9
            obtain ⟨zv9, ze9, zhs⟩ := ltI_e zhs
            refine lv_iinc (v := zv9) (lv' := [(2, .int zv9), (1, .int zx1), (0, .ref (h 71))]) zhx zhb dX7_bestLaw_25 zhl (k := 0) rfl (by rw [ze9]; rfl) (by decide) rfl (fun zls zhl => ?_)
            clear ze9
            refine lv_goto (tgt := 4) zhx zhb dX7_bestLaw_28 (by decide) ?_
            cases zhs
            exact zih zx1 zv9 zq (itk_l zhq) k4_31 zH zlocs zls zhl zhw
          · replace zhs := br_F zhs zc9
            refine lv_iload_n zhx zhb dX7_bestLaw_23 rfl (lv_at zhl 0 rfl) ?_
            refine lv_istore_n (lv' := [(1, .int zx2), (2, .int zx2), (0, .ref (h 71))]) zhx zhb dX7_bestLaw_24 rfl zhl (by decide) rfl (fun zls zhl => ?_)
            obtain ⟨zv10, ze9, zhs⟩ := ltI_e zhs
            refine lv_iinc (v := zv10) (lv' := [(2, .int zv10), (1, .int zx2), (0, .ref (h 71))]) zhx zhb dX7_bestLaw_25 zhl (k := 1) rfl (by rw [ze9]; rfl) (by decide) rfl (fun zls zhl => ?_)
            clear ze9
            refine lv_goto (tgt := 4) zhx zhb dX7_bestLaw_28 (by decide) ?_
            cases zhs
            exact zih zx2 zv10 zq (itk_l zhq) k4_31 zH zlocs zls zhl zhw
  refine hloop11 N 0 1 zq11 zhq11 (fun zv12 zhqe zH zlocs zls zhl zhw => ?_) zH zlocs zls zhl zhw
  · subst zhqe
    refine lv_iload_n zhx zhb dX7_bestLaw_31 rfl (lv_at zhl 0 rfl) ?_
    cases zhs
    exact zhret _ _ _ _ dX7_bestLaw_32 (by rfl) zhw

