-- OffFirst$Told.read in (22, (1,))
def LTold_read_l_8_15 (N : Nat) (zx2 : Int32) (zx3 : Int32) (zM4 : Mm) : Option ((Int32 × Int32 × Mm) ⊕ ((Int32 × Mm) ⊕ (Mm))) :=
  (if 400 ≤ zx3 then some (.inr (.inr zM4))
  else (if (zM4 1 1) ≤ zx2 then some (.inr (.inr zM4))
  else (sText_readItem N zx2 zM4).bind fun (zv10, zM11) =>
  (if zv10 < 0 then some (.inr (.inl (zx2, zM11)))
  else (sTold_takeItem_l zM11).bind fun (zv12, zM13) =>
  (if zv12 = 0 then some (.inr (.inl (zx2, zM13)))
  else ltI (zx3 + 1) fun zv14 =>
  some (.inl (zv10, zv14, zM13))))))
def sTold_read_l (N : Nat) (M : Mm) : Option (Int32 × Mm) :=
  (sTold_clear_l N M).bind fun zM1 =>
  ((itr (fun z : Int32 × Int32 × Mm => LTold_read_l_8_15 N z.1 z.2.1 z.2.2) N (0, 0, zM1)).bind fun q => match q with
  | .inl (zv16, zM17) => some (zv16, zM17)
  | .inr zM18 => some ((-4), zM18))
set_option maxHeartbeats 4000000 in
set_option maxRecDepth 100000 in
theorem cTold_read_l (l : Launch) (D : va_G) (cI : ClassId) (h : Nat → Nat) (N : Nat) (M : Mm) (r : Int32) (M' : Mm) (zhs : sTold_read_l N M = some (r, M')) : CtI l yX10_read cX10_read 5 (some .int) 6 D cI (wX h cI M) (wX h cI M') [.ref (h 22), .ref (h 1)] r := by
  unfold sTold_read_l at zhs
  refine CtI_of (by decide +kernel) (Nat.le_of_ble_eq_true rfl) ⟨_, rfl⟩ ?_
  intro p e s m args below meth c A Q zls zH zlocs C zhw zhl zhret
  have zhx := C.1
  have zhb := C.2.1
  have zhown := C.2.2.2.2.1
  have zhtB := C.2.2.2.2.2.2.1
  have zhl : lv_has zls 5 [(0, .ref (h 22)), (1, .ref (h 1))] := zhl
  refine lv_aload_n zhx zhb dX10_read_0 rfl (lv_at zhl 0 rfl) ?_
  obtain ⟨zM1, zhp, zhs⟩ := bnd_e zhs
  refine x_cVV (As := []) (rest := []) C zhw zhl (cTold_clear_l l D cI h N M zM1 zhp) (by decide) (by decide) kw_11_9 kw_11_10 kw_11_11 kw_1_19 kw_11_12 md_X10_clear rfl 22 (wX_c22 h cI M) rfl rfl rfl rfl (Nat.le_of_ble_eq_true rfl) dX10_read_1 (fun zH zlocs zhw => ?_)
  refine lv_iconst (v := 0) zhx zhb dX10_read_4 (by decide) ?_
  refine lv_istore_n (lv' := [(2, .int 0), (0, .ref (h 22)), (1, .ref (h 1))]) zhx zhb dX10_read_5 rfl zhl (by decide) rfl (fun zls zhl => ?_)
  refine lv_iconst (v := 0) zhx zhb dX10_read_6 (by decide) ?_
  refine lv_istore_n (lv' := [(3, .int 0), (2, .int 0), (0, .ref (h 22)), (1, .ref (h 1))]) zhx zhb dX10_read_7 rfl zhl (by decide) rfl (fun zls zhl => ?_)
  obtain ⟨zq15, zhq15, zhs⟩ := bnd_e zhs
  have hloop15 : ∀ (zn : Nat) (zx2 : Int32) (zx3 : Int32) (zM4 : Mm) (zq : (Int32 × Mm) ⊕ (Mm)), itr (fun z : Int32 × Int32 × Mm => LTold_read_l_8_15 N z.1 z.2.1 z.2.2) zn (zx2, zx3, zM4) = some zq → (∀ (zy1 : Int32) (zy2 : Mm), (.inl (zy1, zy2)) = zq → ∀ (zH : Heap) (zlocs : List Loc) (zls : Array Slot), lv_has zls 5 [(2, .int zy1)] → Hw D (wX h cI zy2) A s.heap zH zlocs → W p l e (RM 6) s m args below meth c zH zlocs 0 0 Q (F0 m 43 zls [])) → (∀ (zy1 : Mm), (.inr zy1) = zq → ∀ (zH : Heap) (zlocs : List Loc) (zls : Array Slot), lv_has zls 5 [] → Hw D (wX h cI zy1) A s.heap zH zlocs → W p l e (RM 6) s m args below meth c zH zlocs 0 0 Q (F0 m 54 zls [])) → ∀ (zH : Heap) (zlocs : List Loc) (zls : Array Slot), lv_has zls 5 [(3, .int zx3), (2, .int zx2), (0, .ref (h 22)), (1, .ref (h 1))] → Hw D (wX h cI zM4) A s.heap zH zlocs → W p l e (RM 6) s m args below meth c zH zlocs 0 0 Q (F0 m 8 zls []) := by
    intro zn
    induction zn with
    | zero => intro zx2 zx3 zM4 zq zhq; exact absurd zhq (fun h9 => itr_0 h9)
    | succ zn zih =>
        intro zx2 zx3 zM4 zq zhq k8_43 k8_54 zH zlocs zls zhl zhw
        obtain ⟨zy9, zhs, zhq⟩ := itr_s zhq
        replace zhs : LTold_read_l_8_15 N zx2 zx3 zM4 = some zy9 := zhs
        unfold LTold_read_l_8_15 at zhs
        refine lv_iload_n zhx zhb dX10_read_8 rfl (lv_at zhl 0 rfl) ?_
        refine lv_sipush (v := 400) zhx zhb dX10_read_9 (by decide) ?_
        refine lv_icmp_ge (tgt := 54) zhx zhb dX10_read_12 (by decide) (fun zc9 => ?_) (fun zc9 => ?_)
        · replace zhs := br_T zhs zc9
          cases zhs
          exact k8_54 zM4 (itk_q zhq) zH zlocs zls (lv_sub zhl [] rfl) zhw
        · replace zhs := br_F zhs zc9
          refine lv_iload_n zhx zhb dX10_read_15 rfl (lv_at zhl 1 rfl) ?_
          refine lv_aload_n zhx zhb dX10_read_16 rfl (lv_at zhl 3 rfl) ?_
          refine x_getN C zhw inlX9 rfl 1 1 (by decide) (List.mem_of_getElem? (i := 0) rfl) rfl (wX_c1 h cI zM4) rfl dX10_read_17 ?_
          refine lv_icmp_ge (tgt := 54) zhx zhb dX10_read_20 (by decide) (fun zc9 => ?_) (fun zc9 => ?_)
          · replace zhs := br_T zhs zc9
            cases zhs
            exact k8_54 zM4 (itk_q zhq) zH zlocs zls (lv_sub zhl [] rfl) zhw
          · replace zhs := br_F zhs zc9
            refine lv_aload_n zhx zhb dX10_read_23 rfl (lv_at zhl 3 rfl) ?_
            refine lv_iload_n zhx zhb dX10_read_24 rfl (lv_at zhl 1 rfl) ?_
            obtain ⟨⟨zv10, zM11⟩, zhp, zhs⟩ := bnd_e zhs
            try dsimp only at zhs
            refine x_cVI (As := [.int zx2]) (rest := []) C zhw zhl (cText_readItem l D cI h N zx2 zM4 zv10 zM11 zhp) (by decide) (by decide) kw_12_5 kw_12_6 kw_12_7 kw_1_15 kw_12_8 md_X9_readItem rfl 1 (wX_c1 h cI zM4) rfl rfl rfl rfl (Nat.le_of_ble_eq_true rfl) dX10_read_25 (fun zH zlocs zhw hn9 => ?_)
            refine lv_istore (lv' := [(4, .int zv10), (3, .int zx3), (2, .int zx2), (0, .ref (h 22)), (1, .ref (h 1))]) zhx zhb dX10_read_28 zhl (by decide) rfl (fun zls zhl => ?_)
            refine lv_iload zhx zhb dX10_read_30 (lv_at zhl 0 rfl) ?_
            refine lv_if_lt (tgt := 43) zhx zhb dX10_read_32 (by decide) (fun zc9 => ?_) (fun zc9 => ?_)
            · replace zhs := br_T zhs zc9
              cases zhs
              exact k8_43 zx2 zM11 (itk_q zhq) zH zlocs zls (lv_sub zhl [2] rfl) zhw
            · replace zhs := br_F zhs zc9
              refine lv_aload_n zhx zhb dX10_read_35 rfl (lv_at zhl 3 rfl) ?_
              refine lv_aload_n zhx zhb dX10_read_36 rfl (lv_at zhl 4 rfl) ?_
              obtain ⟨⟨zv12, zM13⟩, zhp, zhs⟩ := bnd_e zhs
              try dsimp only at zhs
              refine x_cVI (As := [.ref (h 1)]) (rest := []) C zhw zhl (cTold_takeItem_l l D cI h zM11 zv12 zM13 zhp) (by decide) (by decide) kw_12_22 kw_12_23 kw_13_0 kw_1_19 kw_13_1 md_X10_takeItem rfl 22 (wX_c22 h cI zM11) rfl rfl rfl rfl (Nat.le_of_ble_eq_true rfl) dX10_read_37 (fun zH zlocs zhw hzv12 => ?_)
              refine lv_if_ne (tgt := 45) zhx zhb dX10_read_40 (by decide) (fun zc9 => ?_) (fun zc9 => ?_)
              · replace zhs := br_F zhs zc9
                refine lv_iload zhx zhb dX10_read_45 (lv_at zhl 0 rfl) ?_
                refine lv_istore_n (lv' := [(2, .int zv10), (4, .int zv10), (3, .int zx3), (0, .ref (h 22)), (1, .ref (h 1))]) zhx zhb dX10_read_47 rfl zhl (by decide) rfl (fun zls zhl => ?_)
                obtain ⟨zv14, ze9, zhs⟩ := ltI_e zhs
                refine lv_iinc (v := zv14) (lv' := [(3, .int zv14), (2, .int zv10), (4, .int zv10), (0, .ref (h 22)), (1, .ref (h 1))]) zhx zhb dX10_read_48 zhl (k := 2) rfl (by rw [ze9]; rfl) (by decide) rfl (fun zls zhl => ?_)
                clear ze9
                refine lv_goto (tgt := 8) zhx zhb dX10_read_51 (by decide) ?_
                cases zhs
                exact zih zv10 zv14 zM13 zq (itk_l zhq) k8_43 k8_54 zH zlocs zls (lv_sub zhl [0, 1, 3, 4] rfl) zhw
              · replace zhs := br_T zhs zc9
                cases zhs
                exact k8_43 zx2 zM13 (itk_q zhq) zH zlocs zls (lv_sub zhl [2] rfl) zhw
  refine hloop15 N 0 0 zM1 zq15 zhq15 (fun zv16 zM17 zhqe zH zlocs zls zhl zhw => ?_) (fun zM18 zhqe zH zlocs zls zhl zhw => ?_) zH zlocs zls zhl zhw
  · subst zhqe
    try dsimp only at zhs
    refine lv_iload_n zhx zhb dX10_read_43 rfl (lv_at zhl 0 rfl) ?_
    cases zhs
    exact zhret _ _ _ _ dX10_read_44 (by rfl) zhw
  · subst zhqe
    try dsimp only at zhs
    refine lv_bipush (v := (-4)) zhx zhb dX10_read_54 (by decide) ?_
    cases zhs
    exact zhret _ _ _ _ dX10_read_56 (by rfl) zhw

-- OffFirst$Foods.kindOf in (27, ())
def sFoods_kindOf_l (a1 : Int32) (M : Mm) : Option Int32 :=
  some (atf 10 (M 28) a1)
set_option maxHeartbeats 4000000 in
set_option maxRecDepth 100000 in
theorem cFoods_kindOf_l (l : Launch) (D : va_G) (cI : ClassId) (h : Nat → Nat) (a1 : Int32) (M : Mm) (r : Int32) (zhs : sFoods_kindOf_l a1 M = some r) : CtI l yX2_kindOf cX2_kindOf 2 (some .int) 2 D cI (wX h cI M) (wX h cI M) [.ref (h 27), .int a1] r := by
  unfold sFoods_kindOf_l at zhs
  refine CtI_of (by decide +kernel) (Nat.le_of_ble_eq_true rfl) ⟨_, rfl⟩ ?_
  intro p e s m args below meth c A Q zls zH zlocs C zhw zhl zhret
  have zhx := C.1
  have zhb := C.2.1
  have zhown := C.2.2.2.2.1
  have zhtB := C.2.2.2.2.2.2.1
  have zhl : lv_has zls 2 [(0, .ref (h 27)), (1, .int a1)] := zhl
  refine lv_aload_n zhx zhb dX2_kindOf_0 rfl (lv_at zhl 0 rfl) ?_
  refine x_get C zhw inlX2 rfl 27 0 (by decide) kw_4_9 rfl (wX_c27 h cI M) rfl dX2_kindOf_1 ?_
  refine lv_iload_n zhx zhb dX2_kindOf_4 rfl (lv_at zhl 1 rfl) ?_
  refine x_cSNI (As := [.ref (h 28), .int a1]) (rest := []) C zhw zhl (c_at l D cI (wX h cI M) 28 10 (h 28) (M 28) (wX_c28 h cI M) (by decide) a1) (by decide) (by decide) (List.mem_of_getElem? (i := 9) rfl) kw_7_7 kw_1_2 kw_7_8 md_X11_at rfl rfl (Nat.le_of_ble_eq_true rfl) dX2_kindOf_5 (fun zH zlocs zhw hn9 => ?_)
  cases zhs
  exact zhret _ _ _ _ dX2_kindOf_8 (by rfl) zhw

-- OffFirst$Foods.cellOf in (27, ())
def sFoods_cellOf_l (a1 : Int32) (M : Mm) : Option Int32 :=
  some (atf 10 (M 29) a1)
set_option maxHeartbeats 4000000 in
set_option maxRecDepth 100000 in
theorem cFoods_cellOf_l (l : Launch) (D : va_G) (cI : ClassId) (h : Nat → Nat) (a1 : Int32) (M : Mm) (r : Int32) (zhs : sFoods_cellOf_l a1 M = some r) : CtI l yX2_cellOf cX2_cellOf 2 (some .int) 2 D cI (wX h cI M) (wX h cI M) [.ref (h 27), .int a1] r := by
  unfold sFoods_cellOf_l at zhs
  refine CtI_of (by decide +kernel) (Nat.le_of_ble_eq_true rfl) ⟨_, rfl⟩ ?_
  intro p e s m args below meth c A Q zls zH zlocs C zhw zhl zhret
  have zhx := C.1
  have zhb := C.2.1
  have zhown := C.2.2.2.2.1
  have zhtB := C.2.2.2.2.2.2.1
  have zhl : lv_has zls 2 [(0, .ref (h 27)), (1, .int a1)] := zhl
  refine lv_aload_n zhx zhb dX2_cellOf_0 rfl (lv_at zhl 0 rfl) ?_
  refine x_get C zhw inlX2 rfl 27 1 (by decide) kw_4_10 rfl (wX_c27 h cI M) rfl dX2_cellOf_1 ?_
  refine lv_iload_n zhx zhb dX2_cellOf_4 rfl (lv_at zhl 1 rfl) ?_
  refine x_cSNI (As := [.ref (h 29), .int a1]) (rest := []) C zhw zhl (c_at l D cI (wX h cI M) 29 10 (h 29) (M 29) (wX_c29 h cI M) (by decide) a1) (by decide) (by decide) (List.mem_of_getElem? (i := 9) rfl) kw_7_7 kw_1_2 kw_7_8 md_X11_at rfl rfl (Nat.le_of_ble_eq_true rfl) dX2_cellOf_5 (fun zH zlocs zhw hn9 => ?_)
  cases zhs
  exact zhret _ _ _ _ dX2_cellOf_8 (by rfl) zhw

-- OffFirst$Stock.start in (40, (27,))
def LStock_start_15_21 (N : Nat) (zx3 : Int32) (zM4 : Mm) : Option ((Int32 × Mm) ⊕ ((Mm))) :=
  (if (zM4 40 5) ≤ zx3 then some (.inr zM4)
  else (sFoods_kindOf_l zx3 zM4).bind fun zv13 =>
  ltM (putf 10 zM4 41 zx3 zv13) fun zM14 =>
  (sFoods_cellOf_l zx3 zM14).bind fun zv15 =>
  ltM (putf 10 zM14 42 zx3 zv15) fun zM16 =>
  ltM (putf 10 zM16 43 zx3 0) fun zM17 =>
  ltM (putf 10 zM17 44 zx3 0) fun zM18 =>
  ltM (putf 10 zM18 45 zx3 0) fun zM19 =>
  ltI (zx3 + 1) fun zv20 =>
  some (.inl (zv20, zM19)))
def sStock_start (N : Nat) (M : Mm) : Option Mm :=
  ltM (mset M 40 5 (M 27 7)) fun zM1 =>
  ltM (mset zM1 40 6 0) fun zM2 =>
  (itr (fun z : Int32 × Mm => LStock_start_15_21 N z.1 z.2) N (0, zM2)).bind fun zM22 =>
  some zM22
set_option maxHeartbeats 4000000 in
set_option maxRecDepth 100000 in
theorem cStock_start (l : Launch) (D : va_G) (cI : ClassId) (h : Nat → Nat) (N : Nat) (M : Mm) (M' : Mm) (zhs : sStock_start N M = some M') : CtV l yX8_start cX8_start 3 3 D cI (wX h cI M) (wX h cI M') [.ref (h 40), .ref (h 27)] := by
  unfold sStock_start at zhs
  refine CtV_of (by decide +kernel) (Nat.le_of_ble_eq_true rfl) ?_
  intro p e s m args below meth c A Q zls zH zlocs C zhw zhl zhret
  have zhx := C.1
  have zhb := C.2.1
  have zhown := C.2.2.2.2.1
  have zhtB := C.2.2.2.2.2.2.1
  have zhl : lv_has zls 3 [(0, .ref (h 40)), (1, .ref (h 27))] := zhl
  refine lv_aload_n zhx zhb dX8_start_0 rfl (lv_at zhl 0 rfl) ?_
  refine lv_aload_n zhx zhb dX8_start_1 rfl (lv_at zhl 1 rfl) ?_
  refine x_getN C zhw inlX2 rfl 27 7 (by decide) (List.mem_of_getElem? (i := 7) rfl) rfl (wX_c27 h cI M) rfl dX8_start_2 ?_
  refine x_put C zhw inlX8 rfl tyX8_ok nmX8 40 5 (by decide) kw_7_13 rfl rfl rfl (wX_c40 h cI M) (Nat.le_of_ble_eq_true rfl) (wX_s40_5 h cI M _) dX8_start_5 (fun zH zlocs zhw => ?_)
  obtain ⟨zM1, ze9, zhs⟩ := ltM_e zhs
  rw [← ze9] at zhw; clear ze9
  refine lv_aload_n zhx zhb dX8_start_8 rfl (lv_at zhl 0 rfl) ?_
  refine lv_iconst (v := 0) zhx zhb dX8_start_9 (by decide) ?_
  refine x_put C zhw inlX8 rfl tyX8_ok nmX8 40 6 (by decide) kw_7_14 rfl rfl rfl (wX_c40 h cI zM1) (Nat.le_of_ble_eq_true rfl) (wX_s40_6 h cI zM1 _) dX8_start_10 (fun zH zlocs zhw => ?_)
  obtain ⟨zM2, ze9, zhs⟩ := ltM_e zhs
  rw [← ze9] at zhw; clear ze9
  refine lv_iconst (v := 0) zhx zhb dX8_start_13 (by decide) ?_
  refine lv_istore_n (lv' := [(2, .int 0), (0, .ref (h 40)), (1, .ref (h 27))]) zhx zhb dX8_start_14 rfl zhl (by decide) rfl (fun zls zhl => ?_)
  obtain ⟨zq21, zhq21, zhs⟩ := bnd_e zhs
  have hloop21 : ∀ (zn : Nat) (zx3 : Int32) (zM4 : Mm) (zq : (Mm)), itr (fun z : Int32 × Mm => LStock_start_15_21 N z.1 z.2) zn (zx3, zM4) = some zq → (∀ (zy1 : Mm), zy1 = zq → ∀ (zH : Heap) (zlocs : List Loc) (zls : Array Slot), lv_has zls 3 [] → Hw D (wX h cI zy1) A s.heap zH zlocs → W p l e (RM 3) s m args below meth c zH zlocs 0 0 Q (F0 m 82 zls [])) → ∀ (zH : Heap) (zlocs : List Loc) (zls : Array Slot), lv_has zls 3 [(2, .int zx3), (0, .ref (h 40)), (1, .ref (h 27))] → Hw D (wX h cI zM4) A s.heap zH zlocs → W p l e (RM 3) s m args below meth c zH zlocs 0 0 Q (F0 m 15 zls []) := by
    intro zn
    induction zn with
    | zero => intro zx3 zM4 zq zhq; exact absurd zhq (fun h9 => itr_0 h9)
    | succ zn zih =>
        intro zx3 zM4 zq zhq k15_82 zH zlocs zls zhl zhw
        obtain ⟨zy9, zhs, zhq⟩ := itr_s zhq
        replace zhs : LStock_start_15_21 N zx3 zM4 = some zy9 := zhs
        unfold LStock_start_15_21 at zhs
        refine lv_iload_n zhx zhb dX8_start_15 rfl (lv_at zhl 0 rfl) ?_
        refine lv_aload_n zhx zhb dX8_start_16 rfl (lv_at zhl 1 rfl) ?_
        refine x_get C zhw inlX8 rfl 40 5 (by decide) kw_7_13 rfl (wX_c40 h cI zM4) rfl dX8_start_17 ?_
        refine lv_icmp_ge (tgt := 82) zhx zhb dX8_start_20 (by decide) (fun zc9 => ?_) (fun zc9 => ?_)
        · replace zhs := br_T zhs zc9
          cases zhs
          exact k15_82 zM4 (itk_q zhq) zH zlocs zls (lv_sub zhl [] rfl) zhw
        · replace zhs := br_F zhs zc9
          refine lv_aload_n zhx zhb dX8_start_23 rfl (lv_at zhl 1 rfl) ?_
          refine x_get C zhw inlX8 rfl 40 0 (by decide) kw_5_2 rfl (wX_c40 h cI zM4) rfl dX8_start_24 ?_
          refine lv_iload_n zhx zhb dX8_start_27 rfl (lv_at zhl 0 rfl) ?_
          refine lv_aload_n zhx zhb dX8_start_28 rfl (lv_at zhl 2 rfl) ?_
          refine lv_iload_n zhx zhb dX8_start_29 rfl (lv_at zhl 0 rfl) ?_
          obtain ⟨zv13, zhp, zhs⟩ := bnd_e zhs
          refine x_cVI (As := [.int zx3]) (rest := [.int zx3, .ref (h 41)]) C zhw zhl (cFoods_kindOf_l l D cI h zx3 zM4 zv13 zhp) (by decide) (by decide) kw_7_15 kw_7_16 kw_7_17 kw_3_15 kw_7_18 md_X2_kindOf rfl 27 (wX_c27 h cI zM4) rfl rfl rfl rfl (Nat.le_of_ble_eq_true rfl) dX8_start_30 (fun zH zlocs zhw hn9 => ?_)
          refine x_cSNV (As := [.ref (h 41), .int zx3, .int zv13]) (rest := []) C zhw zhl (c_put l D cI (wX h cI) zM4 41 10 (h 41) (wX_c41 h cI zM4) (fun j v => wX_a41 h cI zM4 j v) (by decide) zx3 zv13) (by decide) (by decide) (List.mem_of_getElem? (i := 10) rfl) kw_7_0 kw_1_2 kw_7_1 md_X11_put rfl rfl (Nat.le_of_ble_eq_true rfl) dX8_start_33 (fun zH zlocs zhw => ?_)
          obtain ⟨zM14, ze9, zhs⟩ := ltM_e zhs
          rw [← ze9] at zhw; clear ze9
          refine lv_aload_n zhx zhb dX8_start_36 rfl (lv_at zhl 1 rfl) ?_
          refine x_get C zhw inlX8 rfl 40 1 (by decide) kw_5_3 rfl (wX_c40 h cI zM14) rfl dX8_start_37 ?_
          refine lv_iload_n zhx zhb dX8_start_40 rfl (lv_at zhl 0 rfl) ?_
          refine lv_aload_n zhx zhb dX8_start_41 rfl (lv_at zhl 2 rfl) ?_
          refine lv_iload_n zhx zhb dX8_start_42 rfl (lv_at zhl 0 rfl) ?_
          obtain ⟨zv15, zhp, zhs⟩ := bnd_e zhs
          refine x_cVI (As := [.int zx3]) (rest := [.int zx3, .ref (h 42)]) C zhw zhl (cFoods_cellOf_l l D cI h zx3 zM14 zv15 zhp) (by decide) (by decide) kw_7_19 kw_7_20 kw_7_21 kw_3_15 kw_7_22 md_X2_cellOf rfl 27 (wX_c27 h cI zM14) rfl rfl rfl rfl (Nat.le_of_ble_eq_true rfl) dX8_start_43 (fun zH zlocs zhw hn9 => ?_)
          refine x_cSNV (As := [.ref (h 42), .int zx3, .int zv15]) (rest := []) C zhw zhl (c_put l D cI (wX h cI) zM14 42 10 (h 42) (wX_c42 h cI zM14) (fun j v => wX_a42 h cI zM14 j v) (by decide) zx3 zv15) (by decide) (by decide) (List.mem_of_getElem? (i := 10) rfl) kw_7_0 kw_1_2 kw_7_1 md_X11_put rfl rfl (Nat.le_of_ble_eq_true rfl) dX8_start_46 (fun zH zlocs zhw => ?_)
          obtain ⟨zM16, ze9, zhs⟩ := ltM_e zhs
          rw [← ze9] at zhw; clear ze9
          refine lv_aload_n zhx zhb dX8_start_49 rfl (lv_at zhl 1 rfl) ?_
          refine x_get C zhw inlX8 rfl 40 2 (by decide) kw_5_4 rfl (wX_c40 h cI zM16) rfl dX8_start_50 ?_
          refine lv_iload_n zhx zhb dX8_start_53 rfl (lv_at zhl 0 rfl) ?_
          refine lv_iconst (v := 0) zhx zhb dX8_start_54 (by decide) ?_
          refine x_cSNV (As := [.ref (h 43), .int zx3, .int 0]) (rest := []) C zhw zhl (c_put l D cI (wX h cI) zM16 43 10 (h 43) (wX_c43 h cI zM16) (fun j v => wX_a43 h cI zM16 j v) (by decide) zx3 0) (by decide) (by decide) (List.mem_of_getElem? (i := 10) rfl) kw_7_0 kw_1_2 kw_7_1 md_X11_put rfl rfl (Nat.le_of_ble_eq_true rfl) dX8_start_55 (fun zH zlocs zhw => ?_)
          obtain ⟨zM17, ze9, zhs⟩ := ltM_e zhs
          rw [← ze9] at zhw; clear ze9
          refine lv_aload_n zhx zhb dX8_start_58 rfl (lv_at zhl 1 rfl) ?_
          refine x_get C zhw inlX8 rfl 40 3 (by decide) kw_5_5 rfl (wX_c40 h cI zM17) rfl dX8_start_59 ?_
          refine lv_iload_n zhx zhb dX8_start_62 rfl (lv_at zhl 0 rfl) ?_
          refine lv_iconst (v := 0) zhx zhb dX8_start_63 (by decide) ?_
          refine x_cSNV (As := [.ref (h 44), .int zx3, .int 0]) (rest := []) C zhw zhl (c_put l D cI (wX h cI) zM17 44 10 (h 44) (wX_c44 h cI zM17) (fun j v => wX_a44 h cI zM17 j v) (by decide) zx3 0) (by decide) (by decide) (List.mem_of_getElem? (i := 10) rfl) kw_7_0 kw_1_2 kw_7_1 md_X11_put rfl rfl (Nat.le_of_ble_eq_true rfl) dX8_start_64 (fun zH zlocs zhw => ?_)
          obtain ⟨zM18, ze9, zhs⟩ := ltM_e zhs
          rw [← ze9] at zhw; clear ze9
          refine lv_aload_n zhx zhb dX8_start_67 rfl (lv_at zhl 1 rfl) ?_
          refine x_get C zhw inlX8 rfl 40 4 (by decide) kw_5_6 rfl (wX_c40 h cI zM18) rfl dX8_start_68 ?_
          refine lv_iload_n zhx zhb dX8_start_71 rfl (lv_at zhl 0 rfl) ?_
          refine lv_iconst (v := 0) zhx zhb dX8_start_72 (by decide) ?_
          refine x_cSNV (As := [.ref (h 45), .int zx3, .int 0]) (rest := []) C zhw zhl (c_put l D cI (wX h cI) zM18 45 10 (h 45) (wX_c45 h cI zM18) (fun j v => wX_a45 h cI zM18 j v) (by decide) zx3 0) (by decide) (by decide) (List.mem_of_getElem? (i := 10) rfl) kw_7_0 kw_1_2 kw_7_1 md_X11_put rfl rfl (Nat.le_of_ble_eq_true rfl) dX8_start_73 (fun zH zlocs zhw => ?_)
          obtain ⟨zM19, ze9, zhs⟩ := ltM_e zhs
          rw [← ze9] at zhw; clear ze9
          obtain ⟨zv20, ze9, zhs⟩ := ltI_e zhs
          refine lv_iinc (v := zv20) (lv' := [(2, .int zv20), (0, .ref (h 40)), (1, .ref (h 27))]) zhx zhb dX8_start_76 zhl (k := 0) rfl (by rw [ze9]; rfl) (by decide) rfl (fun zls zhl => ?_)
          clear ze9
          refine lv_goto (tgt := 15) zhx zhb dX8_start_79 (by decide) ?_
          cases zhs
          exact zih zv20 zM19 zq (itk_l zhq) k15_82 zH zlocs zls zhl zhw
  refine hloop21 N 0 zM2 zq21 zhq21 (fun zM22 zhqe zH zlocs zls zhl zhw => ?_) zH zlocs zls zhl zhw
  · subst zhqe
    cases zhs
    exact zhret _ _ _ _ dX8_start_82 zhw

-- OffFirst.lay in (0, ())
def sOff_lay (N : Nat) (M : Mm) : Option (Int32 × Mm) :=
  (sTold_read_d N M).bind fun (zv1, zM2) =>
  (if zv1 = (-4) then (sTold_canBeLaid_d N zM2).bind fun zv3 =>
  (if zv3 = 0 then some ((-2), zM2)
  else (sTold_read_l N zM2).bind fun (zv4, zM5) =>
  (sStock_start N zM5).bind fun zM6 =>
  ltM (mset zM6 71 2 0) fun zM7 =>
  ltM (mset zM7 0 6 0) fun zM8 =>
  some ((zM8 27 7), zM8))
  else some ((-2), zM2))
set_option maxHeartbeats 4000000 in
set_option maxRecDepth 100000 in
theorem cOff_lay (l : Launch) (D : va_G) (cI : ClassId) (h : Nat → Nat) (N : Nat) (M : Mm) (r : Int32) (M' : Mm) (zhs : sOff_lay N M = some (r, M')) : CtI l yX11_lay cX11_lay 1 (some .int) 7 D cI (wX h cI M) (wX h cI M') [.ref (h 0)] r := by
  unfold sOff_lay at zhs
  refine CtI_of (by decide +kernel) (Nat.le_of_ble_eq_true rfl) ⟨_, rfl⟩ ?_
  intro p e s m args below meth c A Q zls zH zlocs C zhw zhl zhret
  have zhx := C.1
  have zhb := C.2.1
  have zhown := C.2.2.2.2.1
  have zhtB := C.2.2.2.2.2.2.1
  have zhl : lv_has zls 1 [(0, .ref (h 0))] := zhl
  refine lv_aload_n zhx zhb dX11_lay_0 rfl (lv_at zhl 0 rfl) ?_
  refine x_get C zhw inlX11 rfl 0 1 (by decide) kw_1_20 rfl (wX_c0 h cI M) rfl dX11_lay_1 ?_
  refine lv_aload_n zhx zhb dX11_lay_4 rfl (lv_at zhl 0 rfl) ?_
  refine x_get C zhw inlX11 rfl 0 0 (by decide) kw_1_16 rfl (wX_c0 h cI M) rfl dX11_lay_5 ?_
  obtain ⟨⟨zv1, zM2⟩, zhp, zhs⟩ := bnd_e zhs
  try dsimp only at zhs
  refine x_cVI (As := [.ref (h 1)]) (rest := []) C zhw zhl (cTold_read_d l D cI h N M zv1 zM2 zhp) (by decide) (by decide) kw_11_5 kw_11_6 kw_11_7 kw_1_19 kw_11_8 md_X10_read rfl 4 (wX_c4 h cI M) rfl rfl rfl rfl (Nat.le_of_ble_eq_true rfl) dX11_lay_8 (fun zH zlocs zhw hn9 => ?_)
  refine lv_bipush (v := (-4)) zhx zhb dX11_lay_11 (by decide) ?_
  refine lv_icmp_ne (tgt := 26) zhx zhb dX11_lay_13 (by decide) (fun zc9 => ?_) (fun zc9 => ?_)
  · replace zhs := br_F zhs zc9
    refine lv_bipush (v := (-2)) zhx zhb dX11_lay_26 (by decide) ?_
    cases zhs
    exact zhret _ _ _ _ dX11_lay_28 (by rfl) zhw
  · replace zhs := br_T zhs zc9
    refine lv_aload_n zhx zhb dX11_lay_16 rfl (lv_at zhl 0 rfl) ?_
    refine x_get C zhw inlX11 rfl 0 1 (by decide) kw_1_20 rfl (wX_c0 h cI zM2) rfl dX11_lay_17 ?_
    obtain ⟨zv3, zhp, zhs⟩ := bnd_e zhs
    refine x_cVI (As := []) (rest := []) C zhw zhl (cTold_canBeLaid_d l D cI h N zM2 zv3 zhp) (by decide) (by decide) kw_17_3 kw_17_4 kw_17_5 kw_1_19 kw_17_6 md_X10_canBeLaid rfl 4 (wX_c4 h cI zM2) rfl rfl rfl rfl (Nat.le_of_ble_eq_true rfl) dX11_lay_20 (fun zH zlocs zhw hzv3 => ?_)
    refine lv_if_ne (tgt := 29) zhx zhb dX11_lay_23 (by decide) (fun zc9 => ?_) (fun zc9 => ?_)
    · replace zhs := br_F zhs zc9
      refine lv_aload_n zhx zhb dX11_lay_29 rfl (lv_at zhl 0 rfl) ?_
      refine x_get C zhw inlX11 rfl 0 2 (by decide) kw_1_21 rfl (wX_c0 h cI zM2) rfl dX11_lay_30 ?_
      refine lv_aload_n zhx zhb dX11_lay_33 rfl (lv_at zhl 0 rfl) ?_
      refine x_get C zhw inlX11 rfl 0 0 (by decide) kw_1_16 rfl (wX_c0 h cI zM2) rfl dX11_lay_34 ?_
      obtain ⟨⟨zv4, zM5⟩, zhp, zhs⟩ := bnd_e zhs
      try dsimp only at zhs
      refine x_cVI (As := [.ref (h 1)]) (rest := []) C zhw zhl (cTold_read_l l D cI h N zM2 zv4 zM5 zhp) (by decide) (by decide) kw_11_5 kw_11_6 kw_11_7 kw_1_19 kw_11_8 md_X10_read rfl 22 (wX_c22 h cI zM2) rfl rfl rfl rfl (Nat.le_of_ble_eq_true rfl) dX11_lay_37 (fun zH zlocs zhw hn9 => ?_)
      refine lv_pop zhx zhb dX11_lay_40 rfl ?_
      refine lv_aload_n zhx zhb dX11_lay_41 rfl (lv_at zhl 0 rfl) ?_
      refine x_get C zhw inlX11 rfl 0 3 (by decide) kw_2_1 rfl (wX_c0 h cI zM5) rfl dX11_lay_42 ?_
      refine lv_aload_n zhx zhb dX11_lay_45 rfl (lv_at zhl 0 rfl) ?_
      refine x_get C zhw inlX11 rfl 0 2 (by decide) kw_1_21 rfl (wX_c0 h cI zM5) rfl dX11_lay_46 ?_
      refine x_getN C zhw inlX10 rfl 22 1 (by decide) (List.mem_of_getElem? (i := 19) rfl) rfl (wX_c22 h cI zM5) rfl dX11_lay_49 ?_
      obtain ⟨zM6, zhp, zhs⟩ := bnd_e zhs
      refine x_cVV (As := [.ref (h 27)]) (rest := []) C zhw zhl (cStock_start l D cI h N zM5 zM6 zhp) (by decide) (by decide) kw_7_9 kw_7_10 kw_7_11 kw_2_0 kw_7_12 md_X8_start rfl 40 (wX_c40 h cI zM5) rfl rfl rfl rfl (Nat.le_of_ble_eq_true rfl) dX11_lay_52 (fun zH zlocs zhw => ?_)
      refine lv_aload_n zhx zhb dX11_lay_55 rfl (lv_at zhl 0 rfl) ?_
      refine x_get C zhw inlX11 rfl 0 11 (by decide) kw_2_23 rfl (wX_c0 h cI zM6) rfl dX11_lay_56 ?_
      refine lv_iconst (v := 0) zhx zhb dX11_lay_59 (by decide) ?_
      refine x_putN C zhw inlX7 rfl tyX7_ok nmX7 71 2 (by decide) (List.mem_of_getElem? (i := 40) rfl) rfl rfl rfl (wX_c71 h cI zM6) (Nat.le_of_ble_eq_true rfl) (wX_s71_2 h cI zM6 _) dX11_lay_60 (fun zH zlocs zhw => ?_)
      obtain ⟨zM7, ze9, zhs⟩ := ltM_e zhs
      rw [← ze9] at zhw; clear ze9
      refine lv_aload_n zhx zhb dX11_lay_63 rfl (lv_at zhl 0 rfl) ?_
      refine lv_iconst (v := 0) zhx zhb dX11_lay_64 (by decide) ?_
      refine x_put C zhw inlX11 rfl tyX11_ok nmX11 0 6 (by decide) kw_17_2 rfl rfl rfl (wX_c0 h cI zM7) (Nat.le_of_ble_eq_true rfl) (wX_s0_6 h cI zM7 _) dX11_lay_65 (fun zH zlocs zhw => ?_)
      obtain ⟨zM8, ze9, zhs⟩ := ltM_e zhs
      rw [← ze9] at zhw; clear ze9
      refine lv_aload_n zhx zhb dX11_lay_68 rfl (lv_at zhl 0 rfl) ?_
      refine x_get C zhw inlX11 rfl 0 2 (by decide) kw_1_21 rfl (wX_c0 h cI zM8) rfl dX11_lay_69 ?_
      refine x_getN C zhw inlX10 rfl 22 1 (by decide) (List.mem_of_getElem? (i := 19) rfl) rfl (wX_c22 h cI zM8) rfl dX11_lay_72 ?_
      refine x_getN C zhw inlX2 rfl 27 7 (by decide) (List.mem_of_getElem? (i := 11) rfl) rfl (wX_c27 h cI zM8) rfl dX11_lay_75 ?_
      cases zhs
      exact zhret _ _ _ _ dX11_lay_78 (by rfl) zhw
    · replace zhs := br_T zhs zc9
      refine lv_bipush (v := (-2)) zhx zhb dX11_lay_26 (by decide) ?_
      cases zhs
      exact zhret _ _ _ _ dX11_lay_28 (by rfl) zhw

-- OffFirst$Fridge.hasFood in (58, ())
def sFridge_hasFood (a1 : Int32) (M : Mm) : Option Int32 :=
  (if a1 < 0 then some 0
  else (if (M 27 7) ≤ a1 then some 0
  else some 1))
set_option maxHeartbeats 4000000 in
set_option maxRecDepth 100000 in
theorem cFridge_hasFood (l : Launch) (D : va_G) (cI : ClassId) (h : Nat → Nat) (a1 : Int32) (M : Mm) (r : Int32) (zhs : sFridge_hasFood a1 M = some r) : CtI l yX3_hasFood cX3_hasFood 2 (some .boolean) 1 D cI (wX h cI M) (wX h cI M) [.ref (h 58), .int a1] r := by
  unfold sFridge_hasFood at zhs
  refine CtI_of (by decide +kernel) (Nat.le_of_ble_eq_true rfl) ⟨_, rfl⟩ ?_
  intro p e s m args below meth c A Q zls zH zlocs C zhw zhl zhret
  have zhx := C.1
  have zhb := C.2.1
  have zhown := C.2.2.2.2.1
  have zhtB := C.2.2.2.2.2.2.1
  have zhl : lv_has zls 2 [(0, .ref (h 58)), (1, .int a1)] := zhl
  refine lv_iload_n zhx zhb dX3_hasFood_0 rfl (lv_at zhl 1 rfl) ?_
  refine lv_if_lt (tgt := 22) zhx zhb dX3_hasFood_1 (by decide) (fun zc9 => ?_) (fun zc9 => ?_)
  · replace zhs := br_T zhs zc9
    refine lv_iconst (v := 0) zhx zhb dX3_hasFood_22 (by decide) ?_
    cases zhs
    exact zhret _ _ _ _ dX3_hasFood_23 (by rfl) zhw
  · replace zhs := br_F zhs zc9
    refine lv_iload_n zhx zhb dX3_hasFood_4 rfl (lv_at zhl 1 rfl) ?_
    refine lv_aload_n zhx zhb dX3_hasFood_5 rfl (lv_at zhl 0 rfl) ?_
    refine x_get C zhw inlX3 rfl 58 0 (by decide) kw_5_11 rfl (wX_c58 h cI M) rfl dX3_hasFood_6 ?_
    refine x_getN C zhw inlX10 rfl 22 1 (by decide) (List.mem_of_getElem? (i := 20) rfl) rfl (wX_c22 h cI M) rfl dX3_hasFood_9 ?_
    refine x_getN C zhw inlX2 rfl 27 7 (by decide) (List.mem_of_getElem? (i := 8) rfl) rfl (wX_c27 h cI M) rfl dX3_hasFood_12 ?_
    refine lv_icmp_ge (tgt := 22) zhx zhb dX3_hasFood_15 (by decide) (fun zc9 => ?_) (fun zc9 => ?_)
    · replace zhs := br_T zhs zc9
      refine lv_iconst (v := 0) zhx zhb dX3_hasFood_22 (by decide) ?_
      cases zhs
      exact zhret _ _ _ _ dX3_hasFood_23 (by rfl) zhw
    · replace zhs := br_F zhs zc9
      refine lv_iconst (v := 1) zhx zhb dX3_hasFood_18 (by decide) ?_
      refine lv_goto (tgt := 23) zhx zhb dX3_hasFood_19 (by decide) ?_
      cases zhs
      exact zhret _ _ _ _ dX3_hasFood_23 (by rfl) zhw

-- OffFirst$Stock.kindOf in (40, ())
def sStock_kindOf (a1 : Int32) (M : Mm) : Option Int32 :=
  some (atf 10 (M 41) a1)
set_option maxHeartbeats 4000000 in
set_option maxRecDepth 100000 in
theorem cStock_kindOf (l : Launch) (D : va_G) (cI : ClassId) (h : Nat → Nat) (a1 : Int32) (M : Mm) (r : Int32) (zhs : sStock_kindOf a1 M = some r) : CtI l yX8_kindOf cX8_kindOf 2 (some .int) 2 D cI (wX h cI M) (wX h cI M) [.ref (h 40), .int a1] r := by
  unfold sStock_kindOf at zhs
  refine CtI_of (by decide +kernel) (Nat.le_of_ble_eq_true rfl) ⟨_, rfl⟩ ?_
  intro p e s m args below meth c A Q zls zH zlocs C zhw zhl zhret
  have zhx := C.1
  have zhb := C.2.1
  have zhown := C.2.2.2.2.1
  have zhtB := C.2.2.2.2.2.2.1
  have zhl : lv_has zls 2 [(0, .ref (h 40)), (1, .int a1)] := zhl
  refine lv_aload_n zhx zhb dX8_kindOf_0 rfl (lv_at zhl 0 rfl) ?_
  refine x_get C zhw inlX8 rfl 40 0 (by decide) kw_5_2 rfl (wX_c40 h cI M) rfl dX8_kindOf_1 ?_
  refine lv_iload_n zhx zhb dX8_kindOf_4 rfl (lv_at zhl 1 rfl) ?_
  refine x_cSNI (As := [.ref (h 41), .int a1]) (rest := []) C zhw zhl (c_at l D cI (wX h cI M) 41 10 (h 41) (M 41) (wX_c41 h cI M) (by decide) a1) (by decide) (by decide) (List.mem_of_getElem? (i := 17) rfl) kw_7_7 kw_1_2 kw_7_8 md_X11_at rfl rfl (Nat.le_of_ble_eq_true rfl) dX8_kindOf_5 (fun zH zlocs zhw hn9 => ?_)
  cases zhs
  exact zhret _ _ _ _ dX8_kindOf_8 (by rfl) zhw

-- OffFirst$Stock.cellOf in (40, ())
def sStock_cellOf (a1 : Int32) (M : Mm) : Option Int32 :=
  some (atf 10 (M 42) a1)
set_option maxHeartbeats 4000000 in
set_option maxRecDepth 100000 in
theorem cStock_cellOf (l : Launch) (D : va_G) (cI : ClassId) (h : Nat → Nat) (a1 : Int32) (M : Mm) (r : Int32) (zhs : sStock_cellOf a1 M = some r) : CtI l yX8_cellOf cX8_cellOf 2 (some .int) 2 D cI (wX h cI M) (wX h cI M) [.ref (h 40), .int a1] r := by
  unfold sStock_cellOf at zhs
  refine CtI_of (by decide +kernel) (Nat.le_of_ble_eq_true rfl) ⟨_, rfl⟩ ?_
  intro p e s m args below meth c A Q zls zH zlocs C zhw zhl zhret
  have zhx := C.1
  have zhb := C.2.1
  have zhown := C.2.2.2.2.1
  have zhtB := C.2.2.2.2.2.2.1
  have zhl : lv_has zls 2 [(0, .ref (h 40)), (1, .int a1)] := zhl
  refine lv_aload_n zhx zhb dX8_cellOf_0 rfl (lv_at zhl 0 rfl) ?_
  refine x_get C zhw inlX8 rfl 40 1 (by decide) kw_5_3 rfl (wX_c40 h cI M) rfl dX8_cellOf_1 ?_
  refine lv_iload_n zhx zhb dX8_cellOf_4 rfl (lv_at zhl 1 rfl) ?_
  refine x_cSNI (As := [.ref (h 42), .int a1]) (rest := []) C zhw zhl (c_at l D cI (wX h cI M) 42 10 (h 42) (M 42) (wX_c42 h cI M) (by decide) a1) (by decide) (by decide) (List.mem_of_getElem? (i := 17) rfl) kw_7_7 kw_1_2 kw_7_8 md_X11_at rfl rfl (Nat.le_of_ble_eq_true rfl) dX8_cellOf_5 (fun zH zlocs zhw hn9 => ?_)
  cases zhs
  exact zhret _ _ _ _ dX8_cellOf_8 (by rfl) zhw

-- OffFirst$Stock.ageOf in (40, ())
def sStock_ageOf (a1 : Int32) (M : Mm) : Option Int32 :=
  some (atf 10 (M 43) a1)
set_option maxHeartbeats 4000000 in
set_option maxRecDepth 100000 in
theorem cStock_ageOf (l : Launch) (D : va_G) (cI : ClassId) (h : Nat → Nat) (a1 : Int32) (M : Mm) (r : Int32) (zhs : sStock_ageOf a1 M = some r) : CtI l yX8_ageOf cX8_ageOf 2 (some .int) 2 D cI (wX h cI M) (wX h cI M) [.ref (h 40), .int a1] r := by
  unfold sStock_ageOf at zhs
  refine CtI_of (by decide +kernel) (Nat.le_of_ble_eq_true rfl) ⟨_, rfl⟩ ?_
  intro p e s m args below meth c A Q zls zH zlocs C zhw zhl zhret
  have zhx := C.1
  have zhb := C.2.1
  have zhown := C.2.2.2.2.1
  have zhtB := C.2.2.2.2.2.2.1
  have zhl : lv_has zls 2 [(0, .ref (h 40)), (1, .int a1)] := zhl
  refine lv_aload_n zhx zhb dX8_ageOf_0 rfl (lv_at zhl 0 rfl) ?_
  refine x_get C zhw inlX8 rfl 40 2 (by decide) kw_5_4 rfl (wX_c40 h cI M) rfl dX8_ageOf_1 ?_
  refine lv_iload_n zhx zhb dX8_ageOf_4 rfl (lv_at zhl 1 rfl) ?_
  refine x_cSNI (As := [.ref (h 43), .int a1]) (rest := []) C zhw zhl (c_at l D cI (wX h cI M) 43 10 (h 43) (M 43) (wX_c43 h cI M) (by decide) a1) (by decide) (by decide) (List.mem_of_getElem? (i := 17) rfl) kw_7_7 kw_1_2 kw_7_8 md_X11_at rfl rfl (Nat.le_of_ble_eq_true rfl) dX8_ageOf_5 (fun zH zlocs zhw hn9 => ?_)
  cases zhs
  exact zhret _ _ _ _ dX8_ageOf_8 (by rfl) zhw

-- OffFirst$Foods.limitAs in (27, ())
def sFoods_limitAs_l (a1 : Int32) (a2 : Int32) (M : Mm) : Option Int32 :=
  (if a2 = 2 then some (50 * ((atf 10 (M 31) a1) + 96))
  else some (50 * (atf 10 (M 31) a1)))
set_option maxHeartbeats 4000000 in
set_option maxRecDepth 100000 in
theorem cFoods_limitAs_l (l : Launch) (D : va_G) (cI : ClassId) (h : Nat → Nat) (a1 : Int32) (a2 : Int32) (M : Mm) (r : Int32) (zhs : sFoods_limitAs_l a1 a2 M = some r) : CtI l yX2_limitAs cX2_limitAs 3 (some .int) 2 D cI (wX h cI M) (wX h cI M) [.ref (h 27), .int a1, .int a2] r := by
  unfold sFoods_limitAs_l at zhs
  refine CtI_of (by decide +kernel) (Nat.le_of_ble_eq_true rfl) ⟨_, rfl⟩ ?_
  intro p e s m args below meth c A Q zls zH zlocs C zhw zhl zhret
  have zhx := C.1
  have zhb := C.2.1
  have zhown := C.2.2.2.2.1
  have zhtB := C.2.2.2.2.2.2.1
  have zhl : lv_has zls 3 [(0, .ref (h 27)), (1, .int a1), (2, .int a2)] := zhl
  refine lv_bipush (v := 50) zhx zhb dX2_limitAs_0 (by decide) ?_
  refine lv_iload_n zhx zhb dX2_limitAs_2 rfl (lv_at zhl 2 rfl) ?_
  refine lv_iconst (v := 2) zhx zhb dX2_limitAs_3 (by decide) ?_
  refine lv_icmp_ne (tgt := 21) zhx zhb dX2_limitAs_4 (by decide) (fun zc9 => ?_) (fun zc9 => ?_)
  · replace zhs := br_F zhs zc9
    refine lv_aload_n zhx zhb dX2_limitAs_21 rfl (lv_at zhl 0 rfl) ?_
    refine x_get C zhw inlX2 rfl 27 3 (by decide) kw_4_12 rfl (wX_c27 h cI M) rfl dX2_limitAs_22 ?_
    refine lv_iload_n zhx zhb dX2_limitAs_25 rfl (lv_at zhl 1 rfl) ?_
    refine x_cSNI (As := [.ref (h 31), .int a1]) (rest := [.int 50]) C zhw zhl (c_at l D cI (wX h cI M) 31 10 (h 31) (M 31) (wX_c31 h cI M) (by decide) a1) (by decide) (by decide) (List.mem_of_getElem? (i := 9) rfl) kw_7_7 kw_1_2 kw_7_8 md_X11_at rfl rfl (Nat.le_of_ble_eq_true rfl) dX2_limitAs_26 (fun zH zlocs zhw hn9 => ?_)
    refine lv_imul zhx zhb dX2_limitAs_29 ?_
    cases zhs
    exact zhret _ _ _ _ dX2_limitAs_30 (by rfl) zhw
  · replace zhs := br_T zhs zc9
    refine lv_aload_n zhx zhb dX2_limitAs_7 rfl (lv_at zhl 0 rfl) ?_
    refine x_get C zhw inlX2 rfl 27 3 (by decide) kw_4_12 rfl (wX_c27 h cI M) rfl dX2_limitAs_8 ?_
    refine lv_iload_n zhx zhb dX2_limitAs_11 rfl (lv_at zhl 1 rfl) ?_
    refine x_cSNI (As := [.ref (h 31), .int a1]) (rest := [.int 50]) C zhw zhl (c_at l D cI (wX h cI M) 31 10 (h 31) (M 31) (wX_c31 h cI M) (by decide) a1) (by decide) (by decide) (List.mem_of_getElem? (i := 9) rfl) kw_7_7 kw_1_2 kw_7_8 md_X11_at rfl rfl (Nat.le_of_ble_eq_true rfl) dX2_limitAs_12 (fun zH zlocs zhw hn9 => ?_)
    refine lv_bipush (v := 96) zhx zhb dX2_limitAs_15 (by decide) ?_
    refine lv_iadd zhx zhb dX2_limitAs_17 ?_
    refine lv_goto (tgt := 29) zhx zhb dX2_limitAs_18 (by decide) ?_
    refine lv_imul zhx zhb dX2_limitAs_29 ?_
    cases zhs
    exact zhret _ _ _ _ dX2_limitAs_30 (by rfl) zhw

-- OffFirst$Fridge.limitOf in (58, ())
def sFridge_limitOf (a1 : Int32) (M : Mm) : Option Int32 :=
  (sStock_kindOf a1 M).bind fun zv1 =>
  (sFoods_limitAs_l a1 zv1 M).bind fun zv2 =>
  some zv2
set_option maxHeartbeats 4000000 in
set_option maxRecDepth 100000 in
theorem cFridge_limitOf (l : Launch) (D : va_G) (cI : ClassId) (h : Nat → Nat) (a1 : Int32) (M : Mm) (r : Int32) (zhs : sFridge_limitOf a1 M = some r) : CtI l yX3_limitOf cX3_limitOf 2 (some .int) 3 D cI (wX h cI M) (wX h cI M) [.ref (h 58), .int a1] r := by
  unfold sFridge_limitOf at zhs
  refine CtI_of (by decide +kernel) (Nat.le_of_ble_eq_true rfl) ⟨_, rfl⟩ ?_
  intro p e s m args below meth c A Q zls zH zlocs C zhw zhl zhret
  have zhx := C.1
  have zhb := C.2.1
  have zhown := C.2.2.2.2.1
  have zhtB := C.2.2.2.2.2.2.1
  have zhl : lv_has zls 2 [(0, .ref (h 58)), (1, .int a1)] := zhl
  refine lv_aload_n zhx zhb dX3_limitOf_0 rfl (lv_at zhl 0 rfl) ?_
  refine x_get C zhw inlX3 rfl 58 0 (by decide) kw_5_11 rfl (wX_c58 h cI M) rfl dX3_limitOf_1 ?_
  refine x_getN C zhw inlX10 rfl 22 1 (by decide) (List.mem_of_getElem? (i := 20) rfl) rfl (wX_c22 h cI M) rfl dX3_limitOf_4 ?_
  refine lv_iload_n zhx zhb dX3_limitOf_7 rfl (lv_at zhl 1 rfl) ?_
  refine lv_aload_n zhx zhb dX3_limitOf_8 rfl (lv_at zhl 0 rfl) ?_
  refine x_get C zhw inlX3 rfl 58 1 (by decide) kw_5_12 rfl (wX_c58 h cI M) rfl dX3_limitOf_9 ?_
  refine lv_iload_n zhx zhb dX3_limitOf_12 rfl (lv_at zhl 1 rfl) ?_
  obtain ⟨zv1, zhp, zhs⟩ := bnd_e zhs
  refine x_cVI (As := [.int a1]) (rest := [.int a1, .ref (h 27)]) C zhw zhl (cStock_kindOf l D cI h a1 M zv1 zhp) (by decide) (by decide) kw_18_23 kw_18_8 kw_18_9 kw_2_0 kw_18_10 md_X8_kindOf rfl 40 (wX_c40 h cI M) rfl rfl rfl rfl (Nat.le_of_ble_eq_true rfl) dX3_limitOf_13 (fun zH zlocs zhw hn9 => ?_)
  obtain ⟨zv2, zhp, zhs⟩ := bnd_e zhs
  refine x_cVI (As := [.int a1, .int zv1]) (rest := []) C zhw zhl (cFoods_limitAs_l l D cI h a1 zv1 M zv2 zhp) (by decide) (by decide) kw_19_0 kw_19_1 kw_19_2 kw_3_15 kw_19_3 md_X2_limitAs rfl 27 (wX_c27 h cI M) rfl rfl rfl rfl (Nat.le_of_ble_eq_true rfl) dX3_limitOf_16 (fun zH zlocs zhw hn9 => ?_)
  cases zhs
  exact zhret _ _ _ _ dX3_limitOf_19 (by rfl) zhw

-- OffFirst$Stock.fateOf in (40, ())
def sStock_fateOf (a1 : Int32) (M : Mm) : Option Int32 :=
  some (atf 10 (M 44) a1)
set_option maxHeartbeats 4000000 in
set_option maxRecDepth 100000 in
theorem cStock_fateOf (l : Launch) (D : va_G) (cI : ClassId) (h : Nat → Nat) (a1 : Int32) (M : Mm) (r : Int32) (zhs : sStock_fateOf a1 M = some r) : CtI l yX8_fateOf cX8_fateOf 2 (some .int) 2 D cI (wX h cI M) (wX h cI M) [.ref (h 40), .int a1] r := by
  unfold sStock_fateOf at zhs
  refine CtI_of (by decide +kernel) (Nat.le_of_ble_eq_true rfl) ⟨_, rfl⟩ ?_
  intro p e s m args below meth c A Q zls zH zlocs C zhw zhl zhret
  have zhx := C.1
  have zhb := C.2.1
  have zhown := C.2.2.2.2.1
  have zhtB := C.2.2.2.2.2.2.1
  have zhl : lv_has zls 2 [(0, .ref (h 40)), (1, .int a1)] := zhl
  refine lv_aload_n zhx zhb dX8_fateOf_0 rfl (lv_at zhl 0 rfl) ?_
  refine x_get C zhw inlX8 rfl 40 3 (by decide) kw_5_5 rfl (wX_c40 h cI M) rfl dX8_fateOf_1 ?_
  refine lv_iload_n zhx zhb dX8_fateOf_4 rfl (lv_at zhl 1 rfl) ?_
  refine x_cSNI (As := [.ref (h 44), .int a1]) (rest := []) C zhw zhl (c_at l D cI (wX h cI M) 44 10 (h 44) (M 44) (wX_c44 h cI M) (by decide) a1) (by decide) (by decide) (List.mem_of_getElem? (i := 17) rfl) kw_7_7 kw_1_2 kw_7_8 md_X11_at rfl rfl (Nat.le_of_ble_eq_true rfl) dX8_fateOf_5 (fun zH zlocs zhw hn9 => ?_)
  cases zhs
  exact zhret _ _ _ _ dX8_fateOf_8 (by rfl) zhw

-- OffFirst$Fridge.isOff in (58, ())
def sFridge_isOff (a1 : Int32) (M : Mm) : Option Int32 :=
  (sStock_ageOf a1 M).bind fun zv1 =>
  (sFridge_limitOf a1 M).bind fun zv2 =>
  (if zv1 < zv2 then some 0
  else some 1)
set_option maxHeartbeats 4000000 in
set_option maxRecDepth 100000 in
theorem cFridge_isOff (l : Launch) (D : va_G) (cI : ClassId) (h : Nat → Nat) (a1 : Int32) (M : Mm) (r : Int32) (zhs : sFridge_isOff a1 M = some r) : CtI l yX3_isOff cX3_isOff 2 (some .boolean) 4 D cI (wX h cI M) (wX h cI M) [.ref (h 58), .int a1] r := by
  unfold sFridge_isOff at zhs
  refine CtI_of (by decide +kernel) (Nat.le_of_ble_eq_true rfl) ⟨_, rfl⟩ ?_
  intro p e s m args below meth c A Q zls zH zlocs C zhw zhl zhret
  have zhx := C.1
  have zhb := C.2.1
  have zhown := C.2.2.2.2.1
  have zhtB := C.2.2.2.2.2.2.1
  have zhl : lv_has zls 2 [(0, .ref (h 58)), (1, .int a1)] := zhl
  refine lv_aload_n zhx zhb dX3_isOff_0 rfl (lv_at zhl 0 rfl) ?_
  refine x_get C zhw inlX3 rfl 58 1 (by decide) kw_5_12 rfl (wX_c58 h cI M) rfl dX3_isOff_1 ?_
  refine lv_iload_n zhx zhb dX3_isOff_4 rfl (lv_at zhl 1 rfl) ?_
  obtain ⟨zv1, zhp, zhs⟩ := bnd_e zhs
  refine x_cVI (As := [.int a1]) (rest := []) C zhw zhl (cStock_ageOf l D cI h a1 M zv1 zhp) (by decide) (by decide) kw_19_12 kw_18_16 kw_18_17 kw_2_0 kw_18_18 md_X8_ageOf rfl 40 (wX_c40 h cI M) rfl rfl rfl rfl (Nat.le_of_ble_eq_true rfl) dX3_isOff_5 (fun zH zlocs zhw hn9 => ?_)
  refine lv_aload_n zhx zhb dX3_isOff_8 rfl (lv_at zhl 0 rfl) ?_
  refine lv_iload_n zhx zhb dX3_isOff_9 rfl (lv_at zhl 1 rfl) ?_
  obtain ⟨zv2, zhp, zhs⟩ := bnd_e zhs
  refine x_cVI (As := [.int a1]) (rest := [.int zv1]) C zhw zhl (cFridge_limitOf l D cI h a1 M zv2 zhp) (by decide) (by decide) kw_19_13 kw_18_20 kw_18_21 kw_2_6 kw_18_22 md_X3_limitOf rfl 58 (wX_c58 h cI M) rfl rfl rfl rfl (Nat.le_of_ble_eq_true rfl) dX3_isOff_10 (fun zH zlocs zhw hn9 => ?_)
  refine lv_icmp_lt (tgt := 20) zhx zhb dX3_isOff_13 (by decide) (fun zc9 => ?_) (fun zc9 => ?_)
  · replace zhs := br_T zhs zc9
    refine lv_iconst (v := 0) zhx zhb dX3_isOff_20 (by decide) ?_
    cases zhs
    exact zhret _ _ _ _ dX3_isOff_21 (by rfl) zhw
  · replace zhs := br_F zhs zc9
    refine lv_iconst (v := 1) zhx zhb dX3_isOff_16 (by decide) ?_
    refine lv_goto (tgt := 21) zhx zhb dX3_isOff_17 (by decide) ?_
    cases zhs
    exact zhret _ _ _ _ dX3_isOff_21 (by rfl) zhw

-- OffFirst$Foods.sortOf in (27, ())
def sFoods_sortOf_l (a1 : Int32) (M : Mm) : Option Int32 :=
  some (atf 10 (M 33) a1)
set_option maxHeartbeats 4000000 in
set_option maxRecDepth 100000 in
theorem cFoods_sortOf_l (l : Launch) (D : va_G) (cI : ClassId) (h : Nat → Nat) (a1 : Int32) (M : Mm) (r : Int32) (zhs : sFoods_sortOf_l a1 M = some r) : CtI l yX2_sortOf cX2_sortOf 2 (some .int) 2 D cI (wX h cI M) (wX h cI M) [.ref (h 27), .int a1] r := by
  unfold sFoods_sortOf_l at zhs
  refine CtI_of (by decide +kernel) (Nat.le_of_ble_eq_true rfl) ⟨_, rfl⟩ ?_
  intro p e s m args below meth c A Q zls zH zlocs C zhw zhl zhret
  have zhx := C.1
  have zhb := C.2.1
  have zhown := C.2.2.2.2.1
  have zhtB := C.2.2.2.2.2.2.1
  have zhl : lv_has zls 2 [(0, .ref (h 27)), (1, .int a1)] := zhl
  refine lv_aload_n zhx zhb dX2_sortOf_0 rfl (lv_at zhl 0 rfl) ?_
  refine x_get C zhw inlX2 rfl 27 5 (by decide) kw_4_14 rfl (wX_c27 h cI M) rfl dX2_sortOf_1 ?_
  refine lv_iload_n zhx zhb dX2_sortOf_4 rfl (lv_at zhl 1 rfl) ?_
  refine x_cSNI (As := [.ref (h 33), .int a1]) (rest := []) C zhw zhl (c_at l D cI (wX h cI M) 33 10 (h 33) (M 33) (wX_c33 h cI M) (by decide) a1) (by decide) (by decide) (List.mem_of_getElem? (i := 9) rfl) kw_7_7 kw_1_2 kw_7_8 md_X11_at rfl rfl (Nat.le_of_ble_eq_true rfl) dX2_sortOf_5 (fun zH zlocs zhw hn9 => ?_)
  cases zhs
  exact zhret _ _ _ _ dX2_sortOf_8 (by rfl) zhw

-- OffFirst.food in (0, ())
def sOff_food (a1 : Int32) (a2 : Int32) (M : Mm) : Option Int32 :=
  (sFridge_hasFood a1 M).bind fun zv1 =>
  (if zv1 = 0 then some (-1)
  else (if a2 = 0 then (sStock_kindOf a1 M).bind fun zv2 =>
  some zv2
  else (if a2 = 1 then (sStock_cellOf a1 M).bind fun zv3 =>
  some zv3
  else (if a2 = 2 then (sStock_ageOf a1 M).bind fun zv4 =>
  some zv4
  else (if a2 = 3 then (sFridge_limitOf a1 M).bind fun zv5 =>
  some zv5
  else (if a2 = 4 then (sStock_fateOf a1 M).bind fun zv6 =>
  some zv6
  else (if a2 = 5 then (sFridge_isOff a1 M).bind fun zv7 =>
  (if zv7 = 0 then some 0
  else some 1)
  else (if a2 = 6 then (sFoods_sortOf_l a1 M).bind fun zv8 =>
  some zv8
  else some (-1)))))))))
set_option maxHeartbeats 4000000 in
set_option maxRecDepth 100000 in
theorem cOff_food (l : Launch) (D : va_G) (cI : ClassId) (h : Nat → Nat) (a1 : Int32) (a2 : Int32) (M : Mm) (r : Int32) (zhs : sOff_food a1 a2 M = some r) : CtI l yX11_food cX11_food 3 (some .int) 5 D cI (wX h cI M) (wX h cI M) [.ref (h 0), .int a1, .int a2] r := by
  unfold sOff_food at zhs
  refine CtI_of (by decide +kernel) (Nat.le_of_ble_eq_true rfl) ⟨_, rfl⟩ ?_
  intro p e s m args below meth c A Q zls zH zlocs C zhw zhl zhret
  have zhx := C.1
  have zhb := C.2.1
  have zhown := C.2.2.2.2.1
  have zhtB := C.2.2.2.2.2.2.1
  have zhl : lv_has zls 3 [(0, .ref (h 0)), (1, .int a1), (2, .int a2)] := zhl
  refine lv_aload_n zhx zhb dX11_food_0 rfl (lv_at zhl 0 rfl) ?_
  refine x_get C zhw inlX11 rfl 0 7 (by decide) kw_2_7 rfl (wX_c0 h cI M) rfl dX11_food_1 ?_
  refine lv_iload_n zhx zhb dX11_food_4 rfl (lv_at zhl 1 rfl) ?_
  obtain ⟨zv1, zhp, zhs⟩ := bnd_e zhs
  refine x_cVI (As := [.int a1]) (rest := []) C zhw zhl (cFridge_hasFood l D cI h a1 M zv1 zhp) (by decide) (by decide) kw_18_3 kw_18_4 kw_18_5 kw_2_6 kw_18_6 md_X3_hasFood rfl 58 (wX_c58 h cI M) rfl rfl rfl rfl (Nat.le_of_ble_eq_true rfl) dX11_food_5 (fun zH zlocs zhw hzv1 => ?_)
  refine lv_if_ne (tgt := 13) zhx zhb dX11_food_8 (by decide) (fun zc9 => ?_) (fun zc9 => ?_)
  · replace zhs := br_F zhs zc9
    refine lv_iload_n zhx zhb dX11_food_13 rfl (lv_at zhl 2 rfl) ?_
    rcases Decidable.em (a2 = 0) with zc9 | c1000
    · replace zhs := br_T zhs zc9
      refine lv_tableIn (tgt := 56) (off := 42) zhx zhb dX11_food_14 (by rw [zc9]; decide) (by rw [zc9]; decide) (by rw [zc9]; decide) (by decide) ?_
      refine lv_aload_n zhx zhb dX11_food_56 rfl (lv_at zhl 0 rfl) ?_
      refine x_get C zhw inlX11 rfl 0 3 (by decide) kw_2_1 rfl (wX_c0 h cI M) rfl dX11_food_57 ?_
      refine lv_iload_n zhx zhb dX11_food_60 rfl (lv_at zhl 1 rfl) ?_
      obtain ⟨zv2, zhp, zhs⟩ := bnd_e zhs
      refine x_cVI (As := [.int a1]) (rest := []) C zhw zhl (cStock_kindOf l D cI h a1 M zv2 zhp) (by decide) (by decide) kw_18_7 kw_18_8 kw_18_9 kw_2_0 kw_18_10 md_X8_kindOf rfl 40 (wX_c40 h cI M) rfl rfl rfl rfl (Nat.le_of_ble_eq_true rfl) dX11_food_61 (fun zH zlocs zhw hn9 => ?_)
      cases zhs
      exact zhret _ _ _ _ dX11_food_64 (by rfl) zhw
    replace zhs := br_F zhs c1000
    rcases Decidable.em (a2 = 1) with zc9 | c1001
    · replace zhs := br_T zhs zc9
      refine lv_tableIn (tgt := 65) (off := 51) zhx zhb dX11_food_14 (by rw [zc9]; decide) (by rw [zc9]; decide) (by rw [zc9]; decide) (by decide) ?_
      refine lv_aload_n zhx zhb dX11_food_65 rfl (lv_at zhl 0 rfl) ?_
      refine x_get C zhw inlX11 rfl 0 3 (by decide) kw_2_1 rfl (wX_c0 h cI M) rfl dX11_food_66 ?_
      refine lv_iload_n zhx zhb dX11_food_69 rfl (lv_at zhl 1 rfl) ?_
      obtain ⟨zv3, zhp, zhs⟩ := bnd_e zhs
      refine x_cVI (As := [.int a1]) (rest := []) C zhw zhl (cStock_cellOf l D cI h a1 M zv3 zhp) (by decide) (by decide) kw_18_11 kw_18_12 kw_18_13 kw_2_0 kw_18_14 md_X8_cellOf rfl 40 (wX_c40 h cI M) rfl rfl rfl rfl (Nat.le_of_ble_eq_true rfl) dX11_food_70 (fun zH zlocs zhw hn9 => ?_)
      cases zhs
      exact zhret _ _ _ _ dX11_food_73 (by rfl) zhw
    replace zhs := br_F zhs c1001
    rcases Decidable.em (a2 = 2) with zc9 | c1002
    · replace zhs := br_T zhs zc9
      refine lv_tableIn (tgt := 74) (off := 60) zhx zhb dX11_food_14 (by rw [zc9]; decide) (by rw [zc9]; decide) (by rw [zc9]; decide) (by decide) ?_
      refine lv_aload_n zhx zhb dX11_food_74 rfl (lv_at zhl 0 rfl) ?_
      refine x_get C zhw inlX11 rfl 0 3 (by decide) kw_2_1 rfl (wX_c0 h cI M) rfl dX11_food_75 ?_
      refine lv_iload_n zhx zhb dX11_food_78 rfl (lv_at zhl 1 rfl) ?_
      obtain ⟨zv4, zhp, zhs⟩ := bnd_e zhs
      refine x_cVI (As := [.int a1]) (rest := []) C zhw zhl (cStock_ageOf l D cI h a1 M zv4 zhp) (by decide) (by decide) kw_18_15 kw_18_16 kw_18_17 kw_2_0 kw_18_18 md_X8_ageOf rfl 40 (wX_c40 h cI M) rfl rfl rfl rfl (Nat.le_of_ble_eq_true rfl) dX11_food_79 (fun zH zlocs zhw hn9 => ?_)
      cases zhs
      exact zhret _ _ _ _ dX11_food_82 (by rfl) zhw
    replace zhs := br_F zhs c1002
    rcases Decidable.em (a2 = 3) with zc9 | c1003
    · replace zhs := br_T zhs zc9
      refine lv_tableIn (tgt := 83) (off := 69) zhx zhb dX11_food_14 (by rw [zc9]; decide) (by rw [zc9]; decide) (by rw [zc9]; decide) (by decide) ?_
      refine lv_aload_n zhx zhb dX11_food_83 rfl (lv_at zhl 0 rfl) ?_
      refine x_get C zhw inlX11 rfl 0 7 (by decide) kw_2_7 rfl (wX_c0 h cI M) rfl dX11_food_84 ?_
      refine lv_iload_n zhx zhb dX11_food_87 rfl (lv_at zhl 1 rfl) ?_
      obtain ⟨zv5, zhp, zhs⟩ := bnd_e zhs
      refine x_cVI (As := [.int a1]) (rest := []) C zhw zhl (cFridge_limitOf l D cI h a1 M zv5 zhp) (by decide) (by decide) kw_18_19 kw_18_20 kw_18_21 kw_2_6 kw_18_22 md_X3_limitOf rfl 58 (wX_c58 h cI M) rfl rfl rfl rfl (Nat.le_of_ble_eq_true rfl) dX11_food_88 (fun zH zlocs zhw hn9 => ?_)
      cases zhs
      exact zhret _ _ _ _ dX11_food_91 (by rfl) zhw
    replace zhs := br_F zhs c1003
    rcases Decidable.em (a2 = 4) with zc9 | c1004
    · replace zhs := br_T zhs zc9
      refine lv_tableIn (tgt := 92) (off := 78) zhx zhb dX11_food_14 (by rw [zc9]; decide) (by rw [zc9]; decide) (by rw [zc9]; decide) (by decide) ?_
      refine lv_aload_n zhx zhb dX11_food_92 rfl (lv_at zhl 0 rfl) ?_
      refine x_get C zhw inlX11 rfl 0 3 (by decide) kw_2_1 rfl (wX_c0 h cI M) rfl dX11_food_93 ?_
      refine lv_iload_n zhx zhb dX11_food_96 rfl (lv_at zhl 1 rfl) ?_
      obtain ⟨zv6, zhp, zhs⟩ := bnd_e zhs
      refine x_cVI (As := [.int a1]) (rest := []) C zhw zhl (cStock_fateOf l D cI h a1 M zv6 zhp) (by decide) (by decide) kw_19_4 kw_19_5 kw_19_6 kw_2_0 kw_19_7 md_X8_fateOf rfl 40 (wX_c40 h cI M) rfl rfl rfl rfl (Nat.le_of_ble_eq_true rfl) dX11_food_97 (fun zH zlocs zhw hn9 => ?_)
      cases zhs
      exact zhret _ _ _ _ dX11_food_100 (by rfl) zhw
    replace zhs := br_F zhs c1004
    rcases Decidable.em (a2 = 5) with zc9 | c1005
    · replace zhs := br_T zhs zc9
      refine lv_tableIn (tgt := 101) (off := 87) zhx zhb dX11_food_14 (by rw [zc9]; decide) (by rw [zc9]; decide) (by rw [zc9]; decide) (by decide) ?_
      refine lv_aload_n zhx zhb dX11_food_101 rfl (lv_at zhl 0 rfl) ?_
      refine x_get C zhw inlX11 rfl 0 7 (by decide) kw_2_7 rfl (wX_c0 h cI M) rfl dX11_food_102 ?_
      refine lv_iload_n zhx zhb dX11_food_105 rfl (lv_at zhl 1 rfl) ?_
      obtain ⟨zv7, zhp, zhs⟩ := bnd_e zhs
      refine x_cVI (As := [.int a1]) (rest := []) C zhw zhl (cFridge_isOff l D cI h a1 M zv7 zhp) (by decide) (by decide) kw_19_8 kw_19_9 kw_19_10 kw_2_6 kw_19_11 md_X3_isOff rfl 58 (wX_c58 h cI M) rfl rfl rfl rfl (Nat.le_of_ble_eq_true rfl) dX11_food_106 (fun zH zlocs zhw hzv7 => ?_)
      refine lv_if_eq (tgt := 116) zhx zhb dX11_food_109 (by decide) (fun zc9 => ?_) (fun zc9 => ?_)
      · replace zhs := br_T zhs zc9
        refine lv_iconst (v := 0) zhx zhb dX11_food_116 (by decide) ?_
        cases zhs
        exact zhret _ _ _ _ dX11_food_117 (by rfl) zhw
      · replace zhs := br_F zhs zc9
        refine lv_iconst (v := 1) zhx zhb dX11_food_112 (by decide) ?_
        refine lv_goto (tgt := 117) zhx zhb dX11_food_113 (by decide) ?_
        cases zhs
        exact zhret _ _ _ _ dX11_food_117 (by rfl) zhw
    replace zhs := br_F zhs c1005
    rcases Decidable.em (a2 = 6) with zc9 | c1006
    · replace zhs := br_T zhs zc9
      refine lv_tableIn (tgt := 118) (off := 104) zhx zhb dX11_food_14 (by rw [zc9]; decide) (by rw [zc9]; decide) (by rw [zc9]; decide) (by decide) ?_
      refine lv_aload_n zhx zhb dX11_food_118 rfl (lv_at zhl 0 rfl) ?_
      refine x_get C zhw inlX11 rfl 0 2 (by decide) kw_1_21 rfl (wX_c0 h cI M) rfl dX11_food_119 ?_
      refine x_getN C zhw inlX10 rfl 22 1 (by decide) (List.mem_of_getElem? (i := 19) rfl) rfl (wX_c22 h cI M) rfl dX11_food_122 ?_
      refine lv_iload_n zhx zhb dX11_food_125 rfl (lv_at zhl 1 rfl) ?_
      obtain ⟨zv8, zhp, zhs⟩ := bnd_e zhs
      refine x_cVI (As := [.int a1]) (rest := []) C zhw zhl (cFoods_sortOf_l l D cI h a1 M zv8 zhp) (by decide) (by decide) kw_19_14 kw_19_15 kw_19_16 kw_3_15 kw_19_17 md_X2_sortOf rfl 27 (wX_c27 h cI M) rfl rfl rfl rfl (Nat.le_of_ble_eq_true rfl) dX11_food_126 (fun zH zlocs zhw hn9 => ?_)
      cases zhs
      exact zhret _ _ _ _ dX11_food_129 (by rfl) zhw
    replace zhs := br_F zhs c1006
    have zhout : a2.toInt < 0 ∨ 6 < a2.toInt := by
      have f0 : ¬ a2.toInt = 0 := fun zq9 => c1000 (Int32.toInt_inj.mp (zq9.trans rfl))
      have f1 : ¬ a2.toInt = 1 := fun zq9 => c1001 (Int32.toInt_inj.mp (zq9.trans rfl))
      have f2 : ¬ a2.toInt = 2 := fun zq9 => c1002 (Int32.toInt_inj.mp (zq9.trans rfl))
      have f3 : ¬ a2.toInt = 3 := fun zq9 => c1003 (Int32.toInt_inj.mp (zq9.trans rfl))
      have f4 : ¬ a2.toInt = 4 := fun zq9 => c1004 (Int32.toInt_inj.mp (zq9.trans rfl))
      have f5 : ¬ a2.toInt = 5 := fun zq9 => c1005 (Int32.toInt_inj.mp (zq9.trans rfl))
      have f6 : ¬ a2.toInt = 6 := fun zq9 => c1006 (Int32.toInt_inj.mp (zq9.trans rfl))
      omega
    refine lv_tableOut (tgt := 130) zhx zhb dX11_food_14 zhout (by decide) ?_
    refine lv_iconst (v := (-1)) zhx zhb dX11_food_130 (by decide) ?_
    cases zhs
    exact zhret _ _ _ _ dX11_food_131 (by rfl) zhw
  · replace zhs := br_T zhs zc9
    refine lv_iconst (v := (-1)) zhx zhb dX11_food_11 (by decide) ?_
    cases zhs
    exact zhret _ _ _ _ dX11_food_12 (by rfl) zhw

-- OffFirst$Cells.isOpenedIn in (23, ())
def sCells_isOpenedIn_l (a1 : Int32) (M : Mm) : Option Int32 :=
  (if (((M 23 4) >>> ((remI a1 24) &&& 31)) &&& 1) = 1 then some 1
  else some 0)
set_option maxHeartbeats 4000000 in
set_option maxRecDepth 100000 in
theorem cCells_isOpenedIn_l (l : Launch) (D : va_G) (cI : ClassId) (h : Nat → Nat) (a1 : Int32) (M : Mm) (r : Int32) (zhs : sCells_isOpenedIn_l a1 M = some r) : CtI l yX0_isOpenedIn cX0_isOpenedIn 2 (some .boolean) 1 D cI (wX h cI M) (wX h cI M) [.ref (h 23), .int a1] r := by
  unfold sCells_isOpenedIn_l at zhs
  refine CtI_of (by decide +kernel) (Nat.le_of_ble_eq_true rfl) ⟨_, rfl⟩ ?_
  intro p e s m args below meth c A Q zls zH zlocs C zhw zhl zhret
  have zhx := C.1
  have zhb := C.2.1
  have zhown := C.2.2.2.2.1
  have zhtB := C.2.2.2.2.2.2.1
  have zhl : lv_has zls 2 [(0, .ref (h 23)), (1, .int a1)] := zhl
  refine lv_aload_n zhx zhb dX0_isOpenedIn_0 rfl (lv_at zhl 0 rfl) ?_
  refine x_get C zhw inlX0 rfl 23 4 (by decide) kw_11_19 rfl (wX_c23 h cI M) rfl dX0_isOpenedIn_1 ?_
  refine lv_iload_n zhx zhb dX0_isOpenedIn_4 rfl (lv_at zhl 1 rfl) ?_
  refine lv_bipush (v := 24) zhx zhb dX0_isOpenedIn_5 (by decide) ?_
  refine lv_irem zhx zhb dX0_isOpenedIn_7 (by decide) ?_
  refine lv_ishr zhx zhb dX0_isOpenedIn_8 ?_
  refine lv_iconst (v := 1) zhx zhb dX0_isOpenedIn_9 (by decide) ?_
  refine lv_iand zhx zhb dX0_isOpenedIn_10 ?_
  refine lv_iconst (v := 1) zhx zhb dX0_isOpenedIn_11 (by decide) ?_
  refine lv_icmp_ne (tgt := 19) zhx zhb dX0_isOpenedIn_12 (by decide) (fun zc9 => ?_) (fun zc9 => ?_)
  · replace zhs := br_F zhs zc9
    refine lv_iconst (v := 0) zhx zhb dX0_isOpenedIn_19 (by decide) ?_
    cases zhs
    exact zhret _ _ _ _ dX0_isOpenedIn_20 (by rfl) zhw
  · replace zhs := br_T zhs zc9
    refine lv_iconst (v := 1) zhx zhb dX0_isOpenedIn_15 (by decide) ?_
    refine lv_goto (tgt := 20) zhx zhb dX0_isOpenedIn_16 (by decide) ?_
    cases zhs
    exact zhret _ _ _ _ dX0_isOpenedIn_20 (by rfl) zhw

-- OffFirst$Cells.warmIn in (23, ())
def sCells_warmIn_l (a1 : Int32) (a2 : Int32) (M : Mm) : Option Int32 :=
  (sCells_isOpenedIn_l a2 M).bind fun zv1 =>
  (if zv1 = 0 then some (atf 6 (M 24) a1)
  else some ((atf 6 (M 24) a1) + (atf 6 (M 25) a1)))
set_option maxHeartbeats 4000000 in
set_option maxRecDepth 100000 in
theorem cCells_warmIn_l (l : Launch) (D : va_G) (cI : ClassId) (h : Nat → Nat) (a1 : Int32) (a2 : Int32) (M : Mm) (r : Int32) (zhs : sCells_warmIn_l a1 a2 M = some r) : CtI l yX0_warmIn cX0_warmIn 3 (some .int) 2 D cI (wX h cI M) (wX h cI M) [.ref (h 23), .int a1, .int a2] r := by
  unfold sCells_warmIn_l at zhs
  refine CtI_of (by decide +kernel) (Nat.le_of_ble_eq_true rfl) ⟨_, rfl⟩ ?_
  intro p e s m args below meth c A Q zls zH zlocs C zhw zhl zhret
  have zhx := C.1
  have zhb := C.2.1
  have zhown := C.2.2.2.2.1
  have zhtB := C.2.2.2.2.2.2.1
  have zhl : lv_has zls 3 [(0, .ref (h 23)), (1, .int a1), (2, .int a2)] := zhl
  refine lv_aload_n zhx zhb dX0_warmIn_0 rfl (lv_at zhl 0 rfl) ?_
  refine lv_iload_n zhx zhb dX0_warmIn_1 rfl (lv_at zhl 2 rfl) ?_
  obtain ⟨zv1, zhp, zhs⟩ := bnd_e zhs
  refine x_cVI (As := [.int a2]) (rest := []) C zhw zhl (cCells_isOpenedIn_l l D cI h a2 M zv1 zhp) (by decide) (by decide) kw_20_21 kw_20_22 kw_20_23 kw_3_11 kw_21_0 md_X0_isOpenedIn rfl 23 (wX_c23 h cI M) rfl rfl rfl rfl (Nat.le_of_ble_eq_true rfl) dX0_warmIn_2 (fun zH zlocs zhw hzv1 => ?_)
  refine lv_if_eq (tgt := 28) zhx zhb dX0_warmIn_5 (by decide) (fun zc9 => ?_) (fun zc9 => ?_)
  · replace zhs := br_T zhs zc9
    refine lv_aload_n zhx zhb dX0_warmIn_28 rfl (lv_at zhl 0 rfl) ?_
    refine x_get C zhw inlX0 rfl 23 0 (by decide) kw_4_3 rfl (wX_c23 h cI M) rfl dX0_warmIn_29 ?_
    refine lv_iload_n zhx zhb dX0_warmIn_32 rfl (lv_at zhl 1 rfl) ?_
    refine x_cSNI (As := [.ref (h 24), .int a1]) (rest := []) C zhw zhl (c_at l D cI (wX h cI M) 24 6 (h 24) (M 24) (wX_c24 h cI M) (by decide) a1) (by decide) (by decide) (List.mem_of_getElem? (i := 16) rfl) kw_7_7 kw_1_2 kw_7_8 md_X11_at rfl rfl (Nat.le_of_ble_eq_true rfl) dX0_warmIn_33 (fun zH zlocs zhw hn9 => ?_)
    cases zhs
    exact zhret _ _ _ _ dX0_warmIn_36 (by rfl) zhw
  · replace zhs := br_F zhs zc9
    refine lv_aload_n zhx zhb dX0_warmIn_8 rfl (lv_at zhl 0 rfl) ?_
    refine x_get C zhw inlX0 rfl 23 0 (by decide) kw_4_3 rfl (wX_c23 h cI M) rfl dX0_warmIn_9 ?_
    refine lv_iload_n zhx zhb dX0_warmIn_12 rfl (lv_at zhl 1 rfl) ?_
    refine x_cSNI (As := [.ref (h 24), .int a1]) (rest := []) C zhw zhl (c_at l D cI (wX h cI M) 24 6 (h 24) (M 24) (wX_c24 h cI M) (by decide) a1) (by decide) (by decide) (List.mem_of_getElem? (i := 16) rfl) kw_7_7 kw_1_2 kw_7_8 md_X11_at rfl rfl (Nat.le_of_ble_eq_true rfl) dX0_warmIn_13 (fun zH zlocs zhw hn9 => ?_)
    refine lv_aload_n zhx zhb dX0_warmIn_16 rfl (lv_at zhl 0 rfl) ?_
    refine x_get C zhw inlX0 rfl 23 1 (by decide) kw_4_4 rfl (wX_c23 h cI M) rfl dX0_warmIn_17 ?_
    refine lv_iload_n zhx zhb dX0_warmIn_20 rfl (lv_at zhl 1 rfl) ?_
    refine x_cSNI (As := [.ref (h 25), .int a1]) (rest := [.int (atf 6 (M 24) a1)]) C zhw zhl (c_at l D cI (wX h cI M) 25 6 (h 25) (M 25) (wX_c25 h cI M) (by decide) a1) (by decide) (by decide) (List.mem_of_getElem? (i := 16) rfl) kw_7_7 kw_1_2 kw_7_8 md_X11_at rfl rfl (Nat.le_of_ble_eq_true rfl) dX0_warmIn_21 (fun zH zlocs zhw hn9 => ?_)
    refine lv_iadd zhx zhb dX0_warmIn_24 ?_
    refine lv_goto (tgt := 36) zhx zhb dX0_warmIn_25 (by decide) ?_
    cases zhs
    exact zhret _ _ _ _ dX0_warmIn_36 (by rfl) zhw

-- OffFirst.warmth in (0, ())
def sOff_warmth (a1 : Int32) (a2 : Int32) (M : Mm) : Option Int32 :=
  (sCells_has_l a1 M).bind fun zv1 =>
  (if zv1 = 0 then some (-1)
  else (sOff_isWithin a2 0 99999).bind fun zv2 =>
  (if zv2 = 0 then some (-1)
  else (sCells_warmIn_l a1 a2 M).bind fun zv3 =>
  some zv3))
set_option maxHeartbeats 4000000 in
set_option maxRecDepth 100000 in
theorem cOff_warmth (l : Launch) (D : va_G) (cI : ClassId) (h : Nat → Nat) (a1 : Int32) (a2 : Int32) (M : Mm) (r : Int32) (zhs : sOff_warmth a1 a2 M = some r) : CtI l yX11_warmth cX11_warmth 3 (some .int) 3 D cI (wX h cI M) (wX h cI M) [.ref (h 0), .int a1, .int a2] r := by
  unfold sOff_warmth at zhs
  refine CtI_of (by decide +kernel) (Nat.le_of_ble_eq_true rfl) ⟨_, rfl⟩ ?_
  intro p e s m args below meth c A Q zls zH zlocs C zhw zhl zhret
  have zhx := C.1
  have zhb := C.2.1
  have zhown := C.2.2.2.2.1
  have zhtB := C.2.2.2.2.2.2.1
  have zhl : lv_has zls 3 [(0, .ref (h 0)), (1, .int a1), (2, .int a2)] := zhl
  refine lv_aload_n zhx zhb dX11_warmth_0 rfl (lv_at zhl 0 rfl) ?_
  refine x_get C zhw inlX11 rfl 0 2 (by decide) kw_1_21 rfl (wX_c0 h cI M) rfl dX11_warmth_1 ?_
  refine x_getN C zhw inlX10 rfl 22 0 (by decide) (List.mem_of_getElem? (i := 16) rfl) rfl (wX_c22 h cI M) rfl dX11_warmth_4 ?_
  refine lv_iload_n zhx zhb dX11_warmth_7 rfl (lv_at zhl 1 rfl) ?_
  obtain ⟨zv1, zhp, zhs⟩ := bnd_e zhs
  refine x_cVI (As := [.int a1]) (rest := []) C zhw zhl (cCells_has_l l D cI h a1 M zv1 zhp) (by decide) (by decide) kw_20_16 kw_14_5 kw_14_6 kw_3_11 kw_14_7 md_X0_has rfl 23 (wX_c23 h cI M) rfl rfl rfl rfl (Nat.le_of_ble_eq_true rfl) dX11_warmth_8 (fun zH zlocs zhw hzv1 => ?_)
  refine lv_if_eq (tgt := 24) zhx zhb dX11_warmth_11 (by decide) (fun zc9 => ?_) (fun zc9 => ?_)
  · replace zhs := br_T zhs zc9
    refine lv_iconst (v := (-1)) zhx zhb dX11_warmth_24 (by decide) ?_
    cases zhs
    exact zhret _ _ _ _ dX11_warmth_25 (by rfl) zhw
  · replace zhs := br_F zhs zc9
    refine lv_iload_n zhx zhb dX11_warmth_14 rfl (lv_at zhl 2 rfl) ?_
    refine lv_iconst (v := 0) zhx zhb dX11_warmth_15 (by decide) ?_
    refine lv_ldc zhx zhb zhown (zhtB _ kw_20_15) dX11_warmth_16 ?_
    obtain ⟨zv2, zhp, zhs⟩ := bnd_e zhs
    refine x_cSI (As := [.int a2, .int 0, .int 99999]) (rest := []) C zhw zhl (cOff_isWithin l D cI h a2 0 99999 M zv2 zhp) (by decide) (by decide) kw_9_22 kw_9_23 kw_1_2 kw_10_0 md_X11_isWithin rfl rfl (Nat.le_of_ble_eq_true rfl) dX11_warmth_18 (fun zH zlocs zhw hzv2 => ?_)
    refine lv_if_ne (tgt := 26) zhx zhb dX11_warmth_21 (by decide) (fun zc9 => ?_) (fun zc9 => ?_)
    · replace zhs := br_F zhs zc9
      refine lv_aload_n zhx zhb dX11_warmth_26 rfl (lv_at zhl 0 rfl) ?_
      refine x_get C zhw inlX11 rfl 0 2 (by decide) kw_1_21 rfl (wX_c0 h cI M) rfl dX11_warmth_27 ?_
      refine x_getN C zhw inlX10 rfl 22 0 (by decide) (List.mem_of_getElem? (i := 16) rfl) rfl (wX_c22 h cI M) rfl dX11_warmth_30 ?_
      refine lv_iload_n zhx zhb dX11_warmth_33 rfl (lv_at zhl 1 rfl) ?_
      refine lv_iload_n zhx zhb dX11_warmth_34 rfl (lv_at zhl 2 rfl) ?_
      obtain ⟨zv3, zhp, zhs⟩ := bnd_e zhs
      refine x_cVI (As := [.int a1, .int a2]) (rest := []) C zhw zhl (cCells_warmIn_l l D cI h a1 a2 M zv3 zhp) (by decide) (by decide) kw_20_17 kw_20_18 kw_20_19 kw_3_11 kw_20_20 md_X0_warmIn rfl 23 (wX_c23 h cI M) rfl rfl rfl rfl (Nat.le_of_ble_eq_true rfl) dX11_warmth_35 (fun zH zlocs zhw hn9 => ?_)
      cases zhs
      exact zhret _ _ _ _ dX11_warmth_38 (by rfl) zhw
    · replace zhs := br_T zhs zc9
      refine lv_iconst (v := (-1)) zhx zhb dX11_warmth_24 (by decide) ?_
      cases zhs
      exact zhret _ _ _ _ dX11_warmth_25 (by rfl) zhw

