-- OffFirst$Stock.copyFrom in (40, (46,))
def LStock_copyFrom_01_18_17 (N : Nat) (zx3 : Int32) (zM4 : Mm) : Option ((Int32 × Mm) ⊕ ((Mm))) :=
  (if (zM4 40 5) ≤ zx3 then some (.inr zM4)
  else ltM (putf 10 zM4 41 zx3 (atf 10 (zM4 47) zx3)) fun zM11 =>
  ltM (putf 10 zM11 42 zx3 (atf 10 (zM11 48) zx3)) fun zM12 =>
  ltM (putf 10 zM12 43 zx3 (atf 10 (zM12 49) zx3)) fun zM13 =>
  ltM (putf 10 zM13 44 zx3 (atf 10 (zM13 50) zx3)) fun zM14 =>
  ltM (putf 10 zM14 45 zx3 (atf 10 (zM14 51) zx3)) fun zM15 =>
  ltI (zx3 + 1) fun zv16 =>
  some (.inl (zv16, zM15)))
def sStock_copyFrom_01 (N : Nat) (M : Mm) : Option Mm :=
  ltM (mset M 40 5 (M 46 5)) fun zM1 =>
  ltM (mset zM1 40 6 (zM1 46 6)) fun zM2 =>
  (itr (fun z : Int32 × Mm => LStock_copyFrom_01_18_17 N z.1 z.2) N (0, zM2)).bind fun zM18 =>
  some zM18
set_option maxHeartbeats 4000000 in
set_option maxRecDepth 100000 in
theorem cStock_copyFrom_01 (l : Launch) (D : va_G) (cI : ClassId) (h : Nat → Nat) (N : Nat) (M : Mm) (M' : Mm) (zhs : sStock_copyFrom_01 N M = some M') : CtV l yX8_copyFrom cX8_copyFrom 3 2 D cI (wX h cI M) (wX h cI M') [.ref (h 40), .ref (h 46)] := by
  unfold sStock_copyFrom_01 at zhs
  refine CtV_of (by decide +kernel) (Nat.le_of_ble_eq_true rfl) ?_
  intro p e s m args below meth c A Q zls zH zlocs C zhw zhl zhret
  have zhx := C.1
  have zhb := C.2.1
  have zhown := C.2.2.2.2.1
  have zhtB := C.2.2.2.2.2.2.1
  have zhl : lv_has zls 3 [(0, .ref (h 40)), (1, .ref (h 46))] := zhl
  refine lv_aload_n zhx zhb dX8_copyFrom_0 rfl (lv_at zhl 0 rfl) ?_
  refine lv_aload_n zhx zhb dX8_copyFrom_1 rfl (lv_at zhl 1 rfl) ?_
  refine x_get C zhw inlX8 rfl 46 5 (by decide) kw_7_13 rfl (wX_c46 h cI M) rfl dX8_copyFrom_2 ?_
  refine x_put C zhw inlX8 rfl tyX8_ok nmX8 40 5 (by decide) kw_7_13 rfl rfl rfl (wX_c40 h cI M) (Nat.le_of_ble_eq_true rfl) (wX_s40_5 h cI M _) dX8_copyFrom_5 (fun zH zlocs zhw => ?_)
  obtain ⟨zM1, ze9, zhs⟩ := ltM_e zhs
  rw [← ze9] at zhw; clear ze9
  refine lv_aload_n zhx zhb dX8_copyFrom_8 rfl (lv_at zhl 0 rfl) ?_
  refine lv_aload_n zhx zhb dX8_copyFrom_9 rfl (lv_at zhl 1 rfl) ?_
  refine x_get C zhw inlX8 rfl 46 6 (by decide) kw_7_14 rfl (wX_c46 h cI zM1) rfl dX8_copyFrom_10 ?_
  refine x_put C zhw inlX8 rfl tyX8_ok nmX8 40 6 (by decide) kw_7_14 rfl rfl rfl (wX_c40 h cI zM1) (Nat.le_of_ble_eq_true rfl) (wX_s40_6 h cI zM1 _) dX8_copyFrom_13 (fun zH zlocs zhw => ?_)
  obtain ⟨zM2, ze9, zhs⟩ := ltM_e zhs
  rw [← ze9] at zhw; clear ze9
  refine lv_iconst (v := 0) zhx zhb dX8_copyFrom_16 (by decide) ?_
  refine lv_istore_n (lv' := [(2, .int 0), (0, .ref (h 40)), (1, .ref (h 46))]) zhx zhb dX8_copyFrom_17 rfl zhl (by decide) rfl (fun zls zhl => ?_)
  obtain ⟨zq17, zhq17, zhs⟩ := bnd_e zhs
  have hloop17 : ∀ (zn : Nat) (zx3 : Int32) (zM4 : Mm) (zq : (Mm)), itr (fun z : Int32 × Mm => LStock_copyFrom_01_18_17 N z.1 z.2) zn (zx3, zM4) = some zq → (∀ (zy1 : Mm), zy1 = zq → ∀ (zH : Heap) (zlocs : List Loc) (zls : Array Slot), lv_has zls 3 [] → Hw D (wX h cI zy1) A s.heap zH zlocs → W p l e (RM 2) s m args below meth c zH zlocs 0 0 Q (F0 m 112 zls [])) → ∀ (zH : Heap) (zlocs : List Loc) (zls : Array Slot), lv_has zls 3 [(2, .int zx3), (0, .ref (h 40)), (1, .ref (h 46))] → Hw D (wX h cI zM4) A s.heap zH zlocs → W p l e (RM 2) s m args below meth c zH zlocs 0 0 Q (F0 m 18 zls []) := by
    intro zn
    induction zn with
    | zero => intro zx3 zM4 zq zhq; exact absurd zhq (fun h9 => itr_0 h9)
    | succ zn zih =>
        intro zx3 zM4 zq zhq k18_112 zH zlocs zls zhl zhw
        obtain ⟨zy9, zhs, zhq⟩ := itr_s zhq
        replace zhs : LStock_copyFrom_01_18_17 N zx3 zM4 = some zy9 := zhs
        unfold LStock_copyFrom_01_18_17 at zhs
        refine lv_iload_n zhx zhb dX8_copyFrom_18 rfl (lv_at zhl 0 rfl) ?_
        refine lv_aload_n zhx zhb dX8_copyFrom_19 rfl (lv_at zhl 1 rfl) ?_
        refine x_get C zhw inlX8 rfl 40 5 (by decide) kw_7_13 rfl (wX_c40 h cI zM4) rfl dX8_copyFrom_20 ?_
        refine lv_icmp_ge (tgt := 112) zhx zhb dX8_copyFrom_23 (by decide) (fun zc9 => ?_) (fun zc9 => ?_)
        · replace zhs := br_T zhs zc9
          cases zhs
          exact k18_112 zM4 (itk_q zhq) zH zlocs zls (lv_sub zhl [] rfl) zhw
        · replace zhs := br_F zhs zc9
          refine lv_aload_n zhx zhb dX8_copyFrom_26 rfl (lv_at zhl 1 rfl) ?_
          refine x_get C zhw inlX8 rfl 40 0 (by decide) kw_5_2 rfl (wX_c40 h cI zM4) rfl dX8_copyFrom_27 ?_
          refine lv_iload_n zhx zhb dX8_copyFrom_30 rfl (lv_at zhl 0 rfl) ?_
          refine lv_aload_n zhx zhb dX8_copyFrom_31 rfl (lv_at zhl 2 rfl) ?_
          refine x_get C zhw inlX8 rfl 46 0 (by decide) kw_5_2 rfl (wX_c46 h cI zM4) rfl dX8_copyFrom_32 ?_
          refine lv_iload_n zhx zhb dX8_copyFrom_35 rfl (lv_at zhl 0 rfl) ?_
          refine x_cSNI (As := [.ref (h 47), .int zx3]) (rest := [.int zx3, .ref (h 41)]) C zhw zhl (c_at l D cI (wX h cI zM4) 47 10 (h 47) (zM4 47) (wX_c47 h cI zM4) (by decide) zx3) (by decide) (by decide) (List.mem_of_getElem? (i := 17) rfl) kw_7_7 kw_1_2 kw_7_8 md_X11_at rfl rfl (Nat.le_of_ble_eq_true rfl) dX8_copyFrom_36 (fun zH zlocs zhw hn9 => ?_)
          refine x_cSNV (As := [.ref (h 41), .int zx3, .int (atf 10 (zM4 47) zx3)]) (rest := []) C zhw zhl (c_put l D cI (wX h cI) zM4 41 10 (h 41) (wX_c41 h cI zM4) (fun j v => wX_a41 h cI zM4 j v) (by decide) zx3 (atf 10 (zM4 47) zx3)) (by decide) (by decide) (List.mem_of_getElem? (i := 10) rfl) kw_7_0 kw_1_2 kw_7_1 md_X11_put rfl rfl (Nat.le_of_ble_eq_true rfl) dX8_copyFrom_39 (fun zH zlocs zhw => ?_)
          obtain ⟨zM11, ze9, zhs⟩ := ltM_e zhs
          rw [← ze9] at zhw; clear ze9
          refine lv_aload_n zhx zhb dX8_copyFrom_42 rfl (lv_at zhl 1 rfl) ?_
          refine x_get C zhw inlX8 rfl 40 1 (by decide) kw_5_3 rfl (wX_c40 h cI zM11) rfl dX8_copyFrom_43 ?_
          refine lv_iload_n zhx zhb dX8_copyFrom_46 rfl (lv_at zhl 0 rfl) ?_
          refine lv_aload_n zhx zhb dX8_copyFrom_47 rfl (lv_at zhl 2 rfl) ?_
          refine x_get C zhw inlX8 rfl 46 1 (by decide) kw_5_3 rfl (wX_c46 h cI zM11) rfl dX8_copyFrom_48 ?_
          refine lv_iload_n zhx zhb dX8_copyFrom_51 rfl (lv_at zhl 0 rfl) ?_
          refine x_cSNI (As := [.ref (h 48), .int zx3]) (rest := [.int zx3, .ref (h 42)]) C zhw zhl (c_at l D cI (wX h cI zM11) 48 10 (h 48) (zM11 48) (wX_c48 h cI zM11) (by decide) zx3) (by decide) (by decide) (List.mem_of_getElem? (i := 17) rfl) kw_7_7 kw_1_2 kw_7_8 md_X11_at rfl rfl (Nat.le_of_ble_eq_true rfl) dX8_copyFrom_52 (fun zH zlocs zhw hn9 => ?_)
          refine x_cSNV (As := [.ref (h 42), .int zx3, .int (atf 10 (zM11 48) zx3)]) (rest := []) C zhw zhl (c_put l D cI (wX h cI) zM11 42 10 (h 42) (wX_c42 h cI zM11) (fun j v => wX_a42 h cI zM11 j v) (by decide) zx3 (atf 10 (zM11 48) zx3)) (by decide) (by decide) (List.mem_of_getElem? (i := 10) rfl) kw_7_0 kw_1_2 kw_7_1 md_X11_put rfl rfl (Nat.le_of_ble_eq_true rfl) dX8_copyFrom_55 (fun zH zlocs zhw => ?_)
          obtain ⟨zM12, ze9, zhs⟩ := ltM_e zhs
          rw [← ze9] at zhw; clear ze9
          refine lv_aload_n zhx zhb dX8_copyFrom_58 rfl (lv_at zhl 1 rfl) ?_
          refine x_get C zhw inlX8 rfl 40 2 (by decide) kw_5_4 rfl (wX_c40 h cI zM12) rfl dX8_copyFrom_59 ?_
          refine lv_iload_n zhx zhb dX8_copyFrom_62 rfl (lv_at zhl 0 rfl) ?_
          refine lv_aload_n zhx zhb dX8_copyFrom_63 rfl (lv_at zhl 2 rfl) ?_
          refine x_get C zhw inlX8 rfl 46 2 (by decide) kw_5_4 rfl (wX_c46 h cI zM12) rfl dX8_copyFrom_64 ?_
          refine lv_iload_n zhx zhb dX8_copyFrom_67 rfl (lv_at zhl 0 rfl) ?_
          refine x_cSNI (As := [.ref (h 49), .int zx3]) (rest := [.int zx3, .ref (h 43)]) C zhw zhl (c_at l D cI (wX h cI zM12) 49 10 (h 49) (zM12 49) (wX_c49 h cI zM12) (by decide) zx3) (by decide) (by decide) (List.mem_of_getElem? (i := 17) rfl) kw_7_7 kw_1_2 kw_7_8 md_X11_at rfl rfl (Nat.le_of_ble_eq_true rfl) dX8_copyFrom_68 (fun zH zlocs zhw hn9 => ?_)
          refine x_cSNV (As := [.ref (h 43), .int zx3, .int (atf 10 (zM12 49) zx3)]) (rest := []) C zhw zhl (c_put l D cI (wX h cI) zM12 43 10 (h 43) (wX_c43 h cI zM12) (fun j v => wX_a43 h cI zM12 j v) (by decide) zx3 (atf 10 (zM12 49) zx3)) (by decide) (by decide) (List.mem_of_getElem? (i := 10) rfl) kw_7_0 kw_1_2 kw_7_1 md_X11_put rfl rfl (Nat.le_of_ble_eq_true rfl) dX8_copyFrom_71 (fun zH zlocs zhw => ?_)
          obtain ⟨zM13, ze9, zhs⟩ := ltM_e zhs
          rw [← ze9] at zhw; clear ze9
          refine lv_aload_n zhx zhb dX8_copyFrom_74 rfl (lv_at zhl 1 rfl) ?_
          refine x_get C zhw inlX8 rfl 40 3 (by decide) kw_5_5 rfl (wX_c40 h cI zM13) rfl dX8_copyFrom_75 ?_
          refine lv_iload_n zhx zhb dX8_copyFrom_78 rfl (lv_at zhl 0 rfl) ?_
          refine lv_aload_n zhx zhb dX8_copyFrom_79 rfl (lv_at zhl 2 rfl) ?_
          refine x_get C zhw inlX8 rfl 46 3 (by decide) kw_5_5 rfl (wX_c46 h cI zM13) rfl dX8_copyFrom_80 ?_
          refine lv_iload_n zhx zhb dX8_copyFrom_83 rfl (lv_at zhl 0 rfl) ?_
          refine x_cSNI (As := [.ref (h 50), .int zx3]) (rest := [.int zx3, .ref (h 44)]) C zhw zhl (c_at l D cI (wX h cI zM13) 50 10 (h 50) (zM13 50) (wX_c50 h cI zM13) (by decide) zx3) (by decide) (by decide) (List.mem_of_getElem? (i := 17) rfl) kw_7_7 kw_1_2 kw_7_8 md_X11_at rfl rfl (Nat.le_of_ble_eq_true rfl) dX8_copyFrom_84 (fun zH zlocs zhw hn9 => ?_)
          refine x_cSNV (As := [.ref (h 44), .int zx3, .int (atf 10 (zM13 50) zx3)]) (rest := []) C zhw zhl (c_put l D cI (wX h cI) zM13 44 10 (h 44) (wX_c44 h cI zM13) (fun j v => wX_a44 h cI zM13 j v) (by decide) zx3 (atf 10 (zM13 50) zx3)) (by decide) (by decide) (List.mem_of_getElem? (i := 10) rfl) kw_7_0 kw_1_2 kw_7_1 md_X11_put rfl rfl (Nat.le_of_ble_eq_true rfl) dX8_copyFrom_87 (fun zH zlocs zhw => ?_)
          obtain ⟨zM14, ze9, zhs⟩ := ltM_e zhs
          rw [← ze9] at zhw; clear ze9
          refine lv_aload_n zhx zhb dX8_copyFrom_90 rfl (lv_at zhl 1 rfl) ?_
          refine x_get C zhw inlX8 rfl 40 4 (by decide) kw_5_6 rfl (wX_c40 h cI zM14) rfl dX8_copyFrom_91 ?_
          refine lv_iload_n zhx zhb dX8_copyFrom_94 rfl (lv_at zhl 0 rfl) ?_
          refine lv_aload_n zhx zhb dX8_copyFrom_95 rfl (lv_at zhl 2 rfl) ?_
          refine x_get C zhw inlX8 rfl 46 4 (by decide) kw_5_6 rfl (wX_c46 h cI zM14) rfl dX8_copyFrom_96 ?_
          refine lv_iload_n zhx zhb dX8_copyFrom_99 rfl (lv_at zhl 0 rfl) ?_
          refine x_cSNI (As := [.ref (h 51), .int zx3]) (rest := [.int zx3, .ref (h 45)]) C zhw zhl (c_at l D cI (wX h cI zM14) 51 10 (h 51) (zM14 51) (wX_c51 h cI zM14) (by decide) zx3) (by decide) (by decide) (List.mem_of_getElem? (i := 17) rfl) kw_7_7 kw_1_2 kw_7_8 md_X11_at rfl rfl (Nat.le_of_ble_eq_true rfl) dX8_copyFrom_100 (fun zH zlocs zhw hn9 => ?_)
          refine x_cSNV (As := [.ref (h 45), .int zx3, .int (atf 10 (zM14 51) zx3)]) (rest := []) C zhw zhl (c_put l D cI (wX h cI) zM14 45 10 (h 45) (wX_c45 h cI zM14) (fun j v => wX_a45 h cI zM14 j v) (by decide) zx3 (atf 10 (zM14 51) zx3)) (by decide) (by decide) (List.mem_of_getElem? (i := 10) rfl) kw_7_0 kw_1_2 kw_7_1 md_X11_put rfl rfl (Nat.le_of_ble_eq_true rfl) dX8_copyFrom_103 (fun zH zlocs zhw => ?_)
          obtain ⟨zM15, ze9, zhs⟩ := ltM_e zhs
          rw [← ze9] at zhw; clear ze9
          obtain ⟨zv16, ze9, zhs⟩ := ltI_e zhs
          refine lv_iinc (v := zv16) (lv' := [(2, .int zv16), (0, .ref (h 40)), (1, .ref (h 46))]) zhx zhb dX8_copyFrom_106 zhl (k := 0) rfl (by rw [ze9]; rfl) (by decide) rfl (fun zls zhl => ?_)
          clear ze9
          refine lv_goto (tgt := 18) zhx zhb dX8_copyFrom_109 (by decide) ?_
          cases zhs
          exact zih zv16 zM15 zq (itk_l zhq) k18_112 zH zlocs zls zhl zhw
  refine hloop17 N 0 zM2 zq17 zhq17 (fun zM18 zhqe zH zlocs zls zhl zhw => ?_) zH zlocs zls zhl zhw
  · subst zhqe
    cases zhs
    exact zhret _ _ _ _ dX8_copyFrom_112 zhw

-- OffFirst.back in (0, ())
def sOff_back (N : Nat) (M : Mm) : Option (Int32 × Mm) :=
  (if 0 < (M 0 6) then ltM (mset M 0 6 ((M 0 6) - 1)) fun zM1 =>
  (if (zM1 0 6) = 0 then (sStock_copyFrom_01 N zM1).bind fun zM3 =>
  some ((zM3 0 6), zM3)
  else (sStock_copyFrom_02 N zM1).bind fun zM2 =>
  some ((zM2 0 6), zM2))
  else some ((-2), M))
set_option maxHeartbeats 4000000 in
set_option maxRecDepth 100000 in
theorem cOff_back (l : Launch) (D : va_G) (cI : ClassId) (h : Nat → Nat) (N : Nat) (M : Mm) (r : Int32) (M' : Mm) (zhs : sOff_back N M = some (r, M')) : CtI l yX11_back cX11_back 1 (some .int) 3 D cI (wX h cI M) (wX h cI M') [.ref (h 0)] r := by
  unfold sOff_back at zhs
  refine CtI_of (by decide +kernel) (Nat.le_of_ble_eq_true rfl) ⟨_, rfl⟩ ?_
  intro p e s m args below meth c A Q zls zH zlocs C zhw zhl zhret
  have zhx := C.1
  have zhb := C.2.1
  have zhown := C.2.2.2.2.1
  have zhtB := C.2.2.2.2.2.2.1
  have zhl : lv_has zls 1 [(0, .ref (h 0))] := zhl
  refine lv_aload_n zhx zhb dX11_back_0 rfl (lv_at zhl 0 rfl) ?_
  refine x_get C zhw inlX11 rfl 0 6 (by decide) kw_17_2 rfl (wX_c0 h cI M) rfl dX11_back_1 ?_
  refine lv_if_gt (tgt := 10) zhx zhb dX11_back_4 (by decide) (fun zc9 => ?_) (fun zc9 => ?_)
  · replace zhs := br_T zhs zc9
    refine lv_aload_n zhx zhb dX11_back_10 rfl (lv_at zhl 0 rfl) ?_
    refine lv_dup zhx zhb dX11_back_11 rfl ?_
    refine x_get C zhw inlX11 rfl 0 6 (by decide) kw_17_2 rfl (wX_c0 h cI M) rfl dX11_back_12 ?_
    refine lv_iconst (v := 1) zhx zhb dX11_back_15 (by decide) ?_
    refine lv_isub zhx zhb dX11_back_16 ?_
    refine x_put C zhw inlX11 rfl tyX11_ok nmX11 0 6 (by decide) kw_17_2 rfl rfl rfl (wX_c0 h cI M) (Nat.le_of_ble_eq_true rfl) (wX_s0_6 h cI M _) dX11_back_17 (fun zH zlocs zhw => ?_)
    obtain ⟨zM1, ze9, zhs⟩ := ltM_e zhs
    rw [← ze9] at zhw; clear ze9
    refine lv_aload_n zhx zhb dX11_back_20 rfl (lv_at zhl 0 rfl) ?_
    refine x_get C zhw inlX11 rfl 0 3 (by decide) kw_2_1 rfl (wX_c0 h cI zM1) rfl dX11_back_21 ?_
    refine lv_aload_n zhx zhb dX11_back_24 rfl (lv_at zhl 0 rfl) ?_
    refine x_get C zhw inlX11 rfl 0 6 (by decide) kw_17_2 rfl (wX_c0 h cI zM1) rfl dX11_back_25 ?_
    refine lv_if_ne (tgt := 38) zhx zhb dX11_back_28 (by decide) (fun zc9 => ?_) (fun zc9 => ?_)
    · replace zhs := br_F zhs zc9
      refine lv_aload_n zhx zhb dX11_back_38 rfl (lv_at zhl 0 rfl) ?_
      refine x_get C zhw inlX11 rfl 0 5 (by decide) kw_2_3 rfl (wX_c0 h cI zM1) rfl dX11_back_39 ?_
      obtain ⟨zM2, zhp, zhs⟩ := bnd_e zhs
      refine x_cVV (As := [.ref (h 52)]) (rest := []) C zhw zhl (cStock_copyFrom_02 l D cI h N zM1 zM2 zhp) (by decide) (by decide) kw_44_19 kw_44_20 kw_44_21 kw_2_0 kw_44_22 md_X8_copyFrom rfl 40 (wX_c40 h cI zM1) rfl rfl rfl rfl (Nat.le_of_ble_eq_true rfl) dX11_back_42 (fun zH zlocs zhw => ?_)
      refine lv_aload_n zhx zhb dX11_back_45 rfl (lv_at zhl 0 rfl) ?_
      refine x_get C zhw inlX11 rfl 0 6 (by decide) kw_17_2 rfl (wX_c0 h cI zM2) rfl dX11_back_46 ?_
      cases zhs
      exact zhret _ _ _ _ dX11_back_49 (by rfl) zhw
    · replace zhs := br_T zhs zc9
      refine lv_aload_n zhx zhb dX11_back_31 rfl (lv_at zhl 0 rfl) ?_
      refine x_get C zhw inlX11 rfl 0 4 (by decide) kw_2_2 rfl (wX_c0 h cI zM1) rfl dX11_back_32 ?_
      refine lv_goto (tgt := 42) zhx zhb dX11_back_35 (by decide) ?_
      obtain ⟨zM3, zhp, zhs⟩ := bnd_e zhs
      refine x_cVV (As := [.ref (h 46)]) (rest := []) C zhw zhl (cStock_copyFrom_01 l D cI h N zM1 zM3 zhp) (by decide) (by decide) kw_44_19 kw_44_20 kw_44_21 kw_2_0 kw_44_22 md_X8_copyFrom rfl 40 (wX_c40 h cI zM1) rfl rfl rfl rfl (Nat.le_of_ble_eq_true rfl) dX11_back_42 (fun zH zlocs zhw => ?_)
      refine lv_aload_n zhx zhb dX11_back_45 rfl (lv_at zhl 0 rfl) ?_
      refine x_get C zhw inlX11 rfl 0 6 (by decide) kw_17_2 rfl (wX_c0 h cI zM3) rfl dX11_back_46 ?_
      cases zhs
      exact zhret _ _ _ _ dX11_back_49 (by rfl) zhw
  · replace zhs := br_F zhs zc9
    refine lv_bipush (v := (-2)) zhx zhb dX11_back_7 (by decide) ?_
    cases zhs
    exact zhret _ _ _ _ dX11_back_9 (by rfl) zhw

-- OffFirst.count in (0, ())
def sOff_count (N : Nat) (a1 : Int32) (M : Mm) : Option Int32 :=
  (if a1 = 0 then some (M 27 7)
  else (if a1 = 1 then some (M 23 3)
  else (if a1 = 2 then some (M 22 3)
  else (if a1 = 3 then some (M 22 5)
  else (if a1 = 4 then some (M 37 2)
  else (if a1 = 5 then some (M 71 2)
  else (if a1 = 6 then some (M 40 6)
  else (if a1 = 7 then (sStock_numberThere N M).bind fun zv1 =>
  some zv1
  else (if a1 = 8 then some (M 1 1)
  else (if a1 = 9 then some (M 0 6)
  else some (-1)))))))))))
set_option maxHeartbeats 4000000 in
set_option maxRecDepth 100000 in
theorem cOff_count (l : Launch) (D : va_G) (cI : ClassId) (h : Nat → Nat) (N : Nat) (a1 : Int32) (M : Mm) (r : Int32) (zhs : sOff_count N a1 M = some r) : CtI l yX11_count cX11_count 2 (some .int) 5 D cI (wX h cI M) (wX h cI M) [.ref (h 0), .int a1] r := by
  unfold sOff_count at zhs
  refine CtI_of (by decide +kernel) (Nat.le_of_ble_eq_true rfl) ⟨_, rfl⟩ ?_
  intro p e s m args below meth c A Q zls zH zlocs C zhw zhl zhret
  have zhx := C.1
  have zhb := C.2.1
  have zhown := C.2.2.2.2.1
  have zhtB := C.2.2.2.2.2.2.1
  have zhl : lv_has zls 2 [(0, .ref (h 0)), (1, .int a1)] := zhl
  refine lv_iload_n zhx zhb dX11_count_0 rfl (lv_at zhl 1 rfl) ?_
  rcases Decidable.em (a1 = 0) with zc9 | c1000
  · replace zhs := br_T zhs zc9
    refine lv_tableIn (tgt := 56) (off := 55) zhx zhb dX11_count_1 (by rw [zc9]; decide) (by rw [zc9]; decide) (by rw [zc9]; decide) (by decide) ?_
    refine lv_aload_n zhx zhb dX11_count_56 rfl (lv_at zhl 0 rfl) ?_
    refine x_get C zhw inlX11 rfl 0 2 (by decide) kw_1_21 rfl (wX_c0 h cI M) rfl dX11_count_57 ?_
    refine x_getN C zhw inlX10 rfl 22 1 (by decide) (List.mem_of_getElem? (i := 19) rfl) rfl (wX_c22 h cI M) rfl dX11_count_60 ?_
    refine x_getN C zhw inlX2 rfl 27 7 (by decide) (List.mem_of_getElem? (i := 11) rfl) rfl (wX_c27 h cI M) rfl dX11_count_63 ?_
    cases zhs
    exact zhret _ _ _ _ dX11_count_66 (by rfl) zhw
  replace zhs := br_F zhs c1000
  rcases Decidable.em (a1 = 1) with zc9 | c1001
  · replace zhs := br_T zhs zc9
    refine lv_tableIn (tgt := 67) (off := 66) zhx zhb dX11_count_1 (by rw [zc9]; decide) (by rw [zc9]; decide) (by rw [zc9]; decide) (by decide) ?_
    refine lv_aload_n zhx zhb dX11_count_67 rfl (lv_at zhl 0 rfl) ?_
    refine x_get C zhw inlX11 rfl 0 2 (by decide) kw_1_21 rfl (wX_c0 h cI M) rfl dX11_count_68 ?_
    refine x_getN C zhw inlX10 rfl 22 0 (by decide) (List.mem_of_getElem? (i := 16) rfl) rfl (wX_c22 h cI M) rfl dX11_count_71 ?_
    refine x_getN C zhw inlX0 rfl 23 3 (by decide) (List.mem_of_getElem? (i := 6) rfl) rfl (wX_c23 h cI M) rfl dX11_count_74 ?_
    cases zhs
    exact zhret _ _ _ _ dX11_count_77 (by rfl) zhw
  replace zhs := br_F zhs c1001
  rcases Decidable.em (a1 = 2) with zc9 | c1002
  · replace zhs := br_T zhs zc9
    refine lv_tableIn (tgt := 78) (off := 77) zhx zhb dX11_count_1 (by rw [zc9]; decide) (by rw [zc9]; decide) (by rw [zc9]; decide) (by decide) ?_
    refine lv_aload_n zhx zhb dX11_count_78 rfl (lv_at zhl 0 rfl) ?_
    refine x_get C zhw inlX11 rfl 0 2 (by decide) kw_1_21 rfl (wX_c0 h cI M) rfl dX11_count_79 ?_
    refine x_getN C zhw inlX10 rfl 22 3 (by decide) (List.mem_of_getElem? (i := 25) rfl) rfl (wX_c22 h cI M) rfl dX11_count_82 ?_
    cases zhs
    exact zhret _ _ _ _ dX11_count_85 (by rfl) zhw
  replace zhs := br_F zhs c1002
  rcases Decidable.em (a1 = 3) with zc9 | c1003
  · replace zhs := br_T zhs zc9
    refine lv_tableIn (tgt := 86) (off := 85) zhx zhb dX11_count_1 (by rw [zc9]; decide) (by rw [zc9]; decide) (by rw [zc9]; decide) (by decide) ?_
    refine lv_aload_n zhx zhb dX11_count_86 rfl (lv_at zhl 0 rfl) ?_
    refine x_get C zhw inlX11 rfl 0 2 (by decide) kw_1_21 rfl (wX_c0 h cI M) rfl dX11_count_87 ?_
    refine x_getN C zhw inlX10 rfl 22 5 (by decide) (List.mem_of_getElem? (i := 26) rfl) rfl (wX_c22 h cI M) rfl dX11_count_90 ?_
    cases zhs
    exact zhret _ _ _ _ dX11_count_93 (by rfl) zhw
  replace zhs := br_F zhs c1003
  rcases Decidable.em (a1 = 4) with zc9 | c1004
  · replace zhs := br_T zhs zc9
    refine lv_tableIn (tgt := 94) (off := 93) zhx zhb dX11_count_1 (by rw [zc9]; decide) (by rw [zc9]; decide) (by rw [zc9]; decide) (by decide) ?_
    refine lv_aload_n zhx zhb dX11_count_94 rfl (lv_at zhl 0 rfl) ?_
    refine x_get C zhw inlX11 rfl 0 2 (by decide) kw_1_21 rfl (wX_c0 h cI M) rfl dX11_count_95 ?_
    refine x_getN C zhw inlX10 rfl 22 6 (by decide) (List.mem_of_getElem? (i := 27) rfl) rfl (wX_c22 h cI M) rfl dX11_count_98 ?_
    refine x_getN C zhw inlX5 rfl 37 2 (by decide) (List.mem_of_getElem? (i := 13) rfl) rfl (wX_c37 h cI M) rfl dX11_count_101 ?_
    cases zhs
    exact zhret _ _ _ _ dX11_count_104 (by rfl) zhw
  replace zhs := br_F zhs c1004
  rcases Decidable.em (a1 = 5) with zc9 | c1005
  · replace zhs := br_T zhs zc9
    refine lv_tableIn (tgt := 105) (off := 104) zhx zhb dX11_count_1 (by rw [zc9]; decide) (by rw [zc9]; decide) (by rw [zc9]; decide) (by decide) ?_
    refine lv_aload_n zhx zhb dX11_count_105 rfl (lv_at zhl 0 rfl) ?_
    refine x_get C zhw inlX11 rfl 0 11 (by decide) kw_2_23 rfl (wX_c0 h cI M) rfl dX11_count_106 ?_
    refine x_getN C zhw inlX7 rfl 71 2 (by decide) (List.mem_of_getElem? (i := 40) rfl) rfl (wX_c71 h cI M) rfl dX11_count_109 ?_
    cases zhs
    exact zhret _ _ _ _ dX11_count_112 (by rfl) zhw
  replace zhs := br_F zhs c1005
  rcases Decidable.em (a1 = 6) with zc9 | c1006
  · replace zhs := br_T zhs zc9
    refine lv_tableIn (tgt := 113) (off := 112) zhx zhb dX11_count_1 (by rw [zc9]; decide) (by rw [zc9]; decide) (by rw [zc9]; decide) (by decide) ?_
    refine lv_aload_n zhx zhb dX11_count_113 rfl (lv_at zhl 0 rfl) ?_
    refine x_get C zhw inlX11 rfl 0 3 (by decide) kw_2_1 rfl (wX_c0 h cI M) rfl dX11_count_114 ?_
    refine x_getN C zhw inlX8 rfl 40 6 (by decide) (List.mem_of_getElem? (i := 31) rfl) rfl (wX_c40 h cI M) rfl dX11_count_117 ?_
    cases zhs
    exact zhret _ _ _ _ dX11_count_120 (by rfl) zhw
  replace zhs := br_F zhs c1006
  rcases Decidable.em (a1 = 7) with zc9 | c1007
  · replace zhs := br_T zhs zc9
    refine lv_tableIn (tgt := 121) (off := 120) zhx zhb dX11_count_1 (by rw [zc9]; decide) (by rw [zc9]; decide) (by rw [zc9]; decide) (by decide) ?_
    refine lv_aload_n zhx zhb dX11_count_121 rfl (lv_at zhl 0 rfl) ?_
    refine x_get C zhw inlX11 rfl 0 3 (by decide) kw_2_1 rfl (wX_c0 h cI M) rfl dX11_count_122 ?_
    obtain ⟨zv1, zhp, zhs⟩ := bnd_e zhs
    refine x_cVI (As := []) (rest := []) C zhw zhl (cStock_numberThere l D cI h N M zv1 zhp) (by decide) (by decide) kw_34_7 kw_34_8 kw_34_9 kw_2_0 kw_34_10 md_X8_numberThere rfl 40 (wX_c40 h cI M) rfl rfl rfl rfl (Nat.le_of_ble_eq_true rfl) dX11_count_125 (fun zH zlocs zhw hn9 => ?_)
    cases zhs
    exact zhret _ _ _ _ dX11_count_128 (by rfl) zhw
  replace zhs := br_F zhs c1007
  rcases Decidable.em (a1 = 8) with zc9 | c1008
  · replace zhs := br_T zhs zc9
    refine lv_tableIn (tgt := 129) (off := 128) zhx zhb dX11_count_1 (by rw [zc9]; decide) (by rw [zc9]; decide) (by rw [zc9]; decide) (by decide) ?_
    refine lv_aload_n zhx zhb dX11_count_129 rfl (lv_at zhl 0 rfl) ?_
    refine x_get C zhw inlX11 rfl 0 0 (by decide) kw_1_16 rfl (wX_c0 h cI M) rfl dX11_count_130 ?_
    refine x_getN C zhw inlX9 rfl 1 1 (by decide) (List.mem_of_getElem? (i := 1) rfl) rfl (wX_c1 h cI M) rfl dX11_count_133 ?_
    cases zhs
    exact zhret _ _ _ _ dX11_count_136 (by rfl) zhw
  replace zhs := br_F zhs c1008
  rcases Decidable.em (a1 = 9) with zc9 | c1009
  · replace zhs := br_T zhs zc9
    refine lv_tableIn (tgt := 137) (off := 136) zhx zhb dX11_count_1 (by rw [zc9]; decide) (by rw [zc9]; decide) (by rw [zc9]; decide) (by decide) ?_
    refine lv_aload_n zhx zhb dX11_count_137 rfl (lv_at zhl 0 rfl) ?_
    refine x_get C zhw inlX11 rfl 0 6 (by decide) kw_17_2 rfl (wX_c0 h cI M) rfl dX11_count_138 ?_
    cases zhs
    exact zhret _ _ _ _ dX11_count_141 (by rfl) zhw
  replace zhs := br_F zhs c1009
  have zhout : a1.toInt < 0 ∨ 9 < a1.toInt := by
    have f0 : ¬ a1.toInt = 0 := fun zq9 => c1000 (Int32.toInt_inj.mp (zq9.trans rfl))
    have f1 : ¬ a1.toInt = 1 := fun zq9 => c1001 (Int32.toInt_inj.mp (zq9.trans rfl))
    have f2 : ¬ a1.toInt = 2 := fun zq9 => c1002 (Int32.toInt_inj.mp (zq9.trans rfl))
    have f3 : ¬ a1.toInt = 3 := fun zq9 => c1003 (Int32.toInt_inj.mp (zq9.trans rfl))
    have f4 : ¬ a1.toInt = 4 := fun zq9 => c1004 (Int32.toInt_inj.mp (zq9.trans rfl))
    have f5 : ¬ a1.toInt = 5 := fun zq9 => c1005 (Int32.toInt_inj.mp (zq9.trans rfl))
    have f6 : ¬ a1.toInt = 6 := fun zq9 => c1006 (Int32.toInt_inj.mp (zq9.trans rfl))
    have f7 : ¬ a1.toInt = 7 := fun zq9 => c1007 (Int32.toInt_inj.mp (zq9.trans rfl))
    have f8 : ¬ a1.toInt = 8 := fun zq9 => c1008 (Int32.toInt_inj.mp (zq9.trans rfl))
    have f9 : ¬ a1.toInt = 9 := fun zq9 => c1009 (Int32.toInt_inj.mp (zq9.trans rfl))
    omega
  refine lv_tableOut (tgt := 142) zhx zhb dX11_count_1 zhout (by decide) ?_
  refine lv_iconst (v := (-1)) zhx zhb dX11_count_142 (by decide) ?_
  cases zhs
  exact zhret _ _ _ _ dX11_count_143 (by rfl) zhw

