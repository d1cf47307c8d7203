-- OffFirst.canBecome in (None, ())
def sOff_canBecome (a1 : Int32) (a2 : Int32) : Option Int32 :=
  (if a2 = 0 then (if a1 = 3 then some 1
  else some 0)
  else (if a2 = 1 then (if a1 = 0 then some 1
  else some 0)
  else (if a2 = 2 then (if a1 = 0 then some 1
  else (if a1 = 1 then some 1
  else some 0))
  else (if a2 = 3 then (if a1 = 3 then some 0
  else some 1)
  else some 0))))
set_option maxHeartbeats 4000000 in
set_option maxRecDepth 100000 in
theorem cOff_canBecome (l : Launch) (D : va_G) (cI : ClassId) (h : Nat → Nat) (a1 : Int32) (a2 : Int32) (M : Mm) (r : Int32) (zhs : sOff_canBecome a1 a2 = some r) : CtI l yX11_canBecome cX11_canBecome 2 (some .boolean) 1 D cI (wX h cI M) (wX h cI M) [.int a1, .int a2] r := by
  unfold sOff_canBecome at zhs
  refine CtI_of (by decide +kernel) (Nat.le_of_ble_eq_true rfl) ⟨_, rfl⟩ ?_
  intro p e s m args below meth c A Q zls zH zlocs C zhw zhl zhret
  have zhx := C.1
  have zhb := C.2.1
  have zhown := C.2.2.2.2.1
  have zhtB := C.2.2.2.2.2.2.1
  have zhl : lv_has zls 2 [(0, .int a1), (1, .int a2)] := zhl
  refine lv_iload_n zhx zhb dX11_canBecome_0 rfl (lv_at zhl 1 rfl) ?_
  rcases Decidable.em (a2 = 0) with zc9 | c1000
  · replace zhs := br_T zhs zc9
    refine lv_tableIn (tgt := 32) (off := 31) zhx zhb dX11_canBecome_1 (by rw [zc9]; decide) (by rw [zc9]; decide) (by rw [zc9]; decide) (by decide) ?_
    refine lv_iload_n zhx zhb dX11_canBecome_32 rfl (lv_at zhl 0 rfl) ?_
    refine lv_iconst (v := 3) zhx zhb dX11_canBecome_33 (by decide) ?_
    refine lv_icmp_ne (tgt := 41) zhx zhb dX11_canBecome_34 (by decide) (fun zc9 => ?_) (fun zc9 => ?_)
    · replace zhs := br_F zhs zc9
      refine lv_iconst (v := 0) zhx zhb dX11_canBecome_41 (by decide) ?_
      cases zhs
      exact zhret _ _ _ _ dX11_canBecome_42 (by rfl) zhw
    · replace zhs := br_T zhs zc9
      refine lv_iconst (v := 1) zhx zhb dX11_canBecome_37 (by decide) ?_
      refine lv_goto (tgt := 42) zhx zhb dX11_canBecome_38 (by decide) ?_
      cases zhs
      exact zhret _ _ _ _ dX11_canBecome_42 (by rfl) zhw
  replace zhs := br_F zhs c1000
  rcases Decidable.em (a2 = 1) with zc9 | c1001
  · replace zhs := br_T zhs zc9
    refine lv_tableIn (tgt := 43) (off := 42) zhx zhb dX11_canBecome_1 (by rw [zc9]; decide) (by rw [zc9]; decide) (by rw [zc9]; decide) (by decide) ?_
    refine lv_iload_n zhx zhb dX11_canBecome_43 rfl (lv_at zhl 0 rfl) ?_
    refine lv_if_ne (tgt := 51) zhx zhb dX11_canBecome_44 (by decide) (fun zc9 => ?_) (fun zc9 => ?_)
    · replace zhs := br_F zhs zc9
      refine lv_iconst (v := 0) zhx zhb dX11_canBecome_51 (by decide) ?_
      cases zhs
      exact zhret _ _ _ _ dX11_canBecome_52 (by rfl) zhw
    · replace zhs := br_T zhs zc9
      refine lv_iconst (v := 1) zhx zhb dX11_canBecome_47 (by decide) ?_
      refine lv_goto (tgt := 52) zhx zhb dX11_canBecome_48 (by decide) ?_
      cases zhs
      exact zhret _ _ _ _ dX11_canBecome_52 (by rfl) zhw
  replace zhs := br_F zhs c1001
  rcases Decidable.em (a2 = 2) with zc9 | c1002
  · replace zhs := br_T zhs zc9
    refine lv_tableIn (tgt := 53) (off := 52) zhx zhb dX11_canBecome_1 (by rw [zc9]; decide) (by rw [zc9]; decide) (by rw [zc9]; decide) (by decide) ?_
    refine lv_iload_n zhx zhb dX11_canBecome_53 rfl (lv_at zhl 0 rfl) ?_
    refine lv_if_eq (tgt := 62) zhx zhb dX11_canBecome_54 (by decide) (fun zc9 => ?_) (fun zc9 => ?_)
    · replace zhs := br_T zhs zc9
      refine lv_iconst (v := 1) zhx zhb dX11_canBecome_62 (by decide) ?_
      refine lv_goto (tgt := 67) zhx zhb dX11_canBecome_63 (by decide) ?_
      cases zhs
      exact zhret _ _ _ _ dX11_canBecome_67 (by rfl) zhw
    · replace zhs := br_F zhs zc9
      refine lv_iload_n zhx zhb dX11_canBecome_57 rfl (lv_at zhl 0 rfl) ?_
      refine lv_iconst (v := 1) zhx zhb dX11_canBecome_58 (by decide) ?_
      refine lv_icmp_ne (tgt := 66) zhx zhb dX11_canBecome_59 (by decide) (fun zc9 => ?_) (fun zc9 => ?_)
      · replace zhs := br_F zhs zc9
        refine lv_iconst (v := 0) zhx zhb dX11_canBecome_66 (by decide) ?_
        cases zhs
        exact zhret _ _ _ _ dX11_canBecome_67 (by rfl) zhw
      · replace zhs := br_T zhs zc9
        refine lv_iconst (v := 1) zhx zhb dX11_canBecome_62 (by decide) ?_
        refine lv_goto (tgt := 67) zhx zhb dX11_canBecome_63 (by decide) ?_
        cases zhs
        exact zhret _ _ _ _ dX11_canBecome_67 (by rfl) zhw
  replace zhs := br_F zhs c1002
  rcases Decidable.em (a2 = 3) with zc9 | c1003
  · replace zhs := br_T zhs zc9
    refine lv_tableIn (tgt := 68) (off := 67) zhx zhb dX11_canBecome_1 (by rw [zc9]; decide) (by rw [zc9]; decide) (by rw [zc9]; decide) (by decide) ?_
    refine lv_iload_n zhx zhb dX11_canBecome_68 rfl (lv_at zhl 0 rfl) ?_
    refine lv_iconst (v := 3) zhx zhb dX11_canBecome_69 (by decide) ?_
    refine lv_icmp_eq (tgt := 77) zhx zhb dX11_canBecome_70 (by decide) (fun zc9 => ?_) (fun zc9 => ?_)
    · replace zhs := br_T zhs zc9
      refine lv_iconst (v := 0) zhx zhb dX11_canBecome_77 (by decide) ?_
      cases zhs
      exact zhret _ _ _ _ dX11_canBecome_78 (by rfl) zhw
    · replace zhs := br_F zhs zc9
      refine lv_iconst (v := 1) zhx zhb dX11_canBecome_73 (by decide) ?_
      refine lv_goto (tgt := 78) zhx zhb dX11_canBecome_74 (by decide) ?_
      cases zhs
      exact zhret _ _ _ _ dX11_canBecome_78 (by rfl) zhw
  replace zhs := br_F zhs c1003
  have zhout : a2.toInt < 0 ∨ 3 < a2.toInt := by
    have f0 : ¬ a2.toInt = 0 := fun zq9 => c1000 (Int32.toInt_inj.mp (zq9.trans rfl))
    have f1 : ¬ a2.toInt = 1 := fun zq9 => c1001 (Int32.toInt_inj.mp (zq9.trans rfl))
    have f2 : ¬ a2.toInt = 2 := fun zq9 => c1002 (Int32.toInt_inj.mp (zq9.trans rfl))
    have f3 : ¬ a2.toInt = 3 := fun zq9 => c1003 (Int32.toInt_inj.mp (zq9.trans rfl))
    omega
  refine lv_tableOut (tgt := 79) zhx zhb dX11_canBecome_1 zhout (by decide) ?_
  refine lv_iconst (v := 0) zhx zhb dX11_canBecome_79 (by decide) ?_
  cases zhs
  exact zhret _ _ _ _ dX11_canBecome_80 (by rfl) zhw

-- OffFirst$Stock.turnInto in (40, ())
def sStock_turnInto (a1 : Int32) (a2 : Int32) (M : Mm) : Option Mm :=
  ltM (putf 10 M 41 a1 a2) fun zM1 =>
  some zM1
set_option maxHeartbeats 4000000 in
set_option maxRecDepth 100000 in
theorem cStock_turnInto (l : Launch) (D : va_G) (cI : ClassId) (h : Nat → Nat) (a1 : Int32) (a2 : Int32) (M : Mm) (M' : Mm) (zhs : sStock_turnInto a1 a2 M = some M') : CtV l yX8_turnInto cX8_turnInto 3 2 D cI (wX h cI M) (wX h cI M') [.ref (h 40), .int a1, .int a2] := by
  unfold sStock_turnInto at zhs
  refine CtV_of (by decide +kernel) (Nat.le_of_ble_eq_true rfl) ?_
  intro p e s m args below meth c A Q zls zH zlocs C zhw zhl zhret
  have zhx := C.1
  have zhb := C.2.1
  have zhown := C.2.2.2.2.1
  have zhtB := C.2.2.2.2.2.2.1
  have zhl : lv_has zls 3 [(0, .ref (h 40)), (1, .int a1), (2, .int a2)] := zhl
  refine lv_aload_n zhx zhb dX8_turnInto_0 rfl (lv_at zhl 0 rfl) ?_
  refine x_get C zhw inlX8 rfl 40 0 (by decide) kw_5_2 rfl (wX_c40 h cI M) rfl dX8_turnInto_1 ?_
  refine lv_iload_n zhx zhb dX8_turnInto_4 rfl (lv_at zhl 1 rfl) ?_
  refine lv_iload_n zhx zhb dX8_turnInto_5 rfl (lv_at zhl 2 rfl) ?_
  refine x_cSNV (As := [.ref (h 41), .int a1, .int a2]) (rest := []) C zhw zhl (c_put l D cI (wX h cI) M 41 10 (h 41) (wX_c41 h cI M) (fun j v => wX_a41 h cI M j v) (by decide) a1 a2) (by decide) (by decide) (List.mem_of_getElem? (i := 10) rfl) kw_7_0 kw_1_2 kw_7_1 md_X11_put rfl rfl (Nat.le_of_ble_eq_true rfl) dX8_turnInto_6 (fun zH zlocs zhw => ?_)
  obtain ⟨zM1, ze9, zhs⟩ := ltM_e zhs
  rw [← ze9] at zhw; clear ze9
  cases zhs
  exact zhret _ _ _ _ dX8_turnInto_9 zhw

-- OffFirst.make in (0, ())
def sOff_make (a1 : Int32) (a2 : Int32) (M : Mm) : Option (Int32 × Mm) :=
  (sFridge_hasFood a1 M).bind fun zv1 =>
  (if zv1 = 0 then some ((-1), M)
  else (sOff_isWithin a2 0 3).bind fun zv2 =>
  (if zv2 = 0 then some ((-1), M)
  else (sStock_kindOf a1 M).bind fun zv3 =>
  (sStock_isThere a1 M).bind fun zv4 =>
  (if zv4 = 0 then some ((-2), M)
  else (sOff_canBecome zv3 a2).bind fun zv5 =>
  (if zv5 = 0 then some ((-2), M)
  else (((if a2 = 0 then some 1
  else some a2) : Option (Int32))).bind fun zv6 =>
  (sStock_turnInto a1 zv6 M).bind fun zM8 =>
  some (zv3, zM8)))))
set_option maxHeartbeats 4000000 in
set_option maxRecDepth 100000 in
theorem cOff_make (l : Launch) (D : va_G) (cI : ClassId) (h : Nat → Nat) (a1 : Int32) (a2 : Int32) (M : Mm) (r : Int32) (M' : Mm) (zhs : sOff_make a1 a2 M = some (r, M')) : CtI l yX11_make cX11_make 4 (some .int) 3 D cI (wX h cI M) (wX h cI M') [.ref (h 0), .int a1, .int a2] r := by
  unfold sOff_make at zhs
  refine CtI_of (by decide +kernel) (Nat.le_of_ble_eq_true rfl) ⟨_, rfl⟩ ?_
  intro p e s m args below meth c A Q zls zH zlocs C zhw zhl zhret
  have zhx := C.1
  have zhb := C.2.1
  have zhown := C.2.2.2.2.1
  have zhtB := C.2.2.2.2.2.2.1
  have zhl : lv_has zls 4 [(0, .ref (h 0)), (1, .int a1), (2, .int a2)] := zhl
  refine lv_aload_n zhx zhb dX11_make_0 rfl (lv_at zhl 0 rfl) ?_
  refine x_get C zhw inlX11 rfl 0 7 (by decide) kw_2_7 rfl (wX_c0 h cI M) rfl dX11_make_1 ?_
  refine lv_iload_n zhx zhb dX11_make_4 rfl (lv_at zhl 1 rfl) ?_
  obtain ⟨zv1, zhp, zhs⟩ := bnd_e zhs
  refine x_cVI (As := [.int a1]) (rest := []) C zhw zhl (cFridge_hasFood l D cI h a1 M zv1 zhp) (by decide) (by decide) kw_18_3 kw_18_4 kw_18_5 kw_2_6 kw_18_6 md_X3_hasFood rfl 58 (wX_c58 h cI M) rfl rfl rfl rfl (Nat.le_of_ble_eq_true rfl) dX11_make_5 (fun zH zlocs zhw hzv1 => ?_)
  refine lv_if_eq (tgt := 20) zhx zhb dX11_make_8 (by decide) (fun zc9 => ?_) (fun zc9 => ?_)
  · replace zhs := br_T zhs zc9
    refine lv_iconst (v := (-1)) zhx zhb dX11_make_20 (by decide) ?_
    cases zhs
    exact zhret _ _ _ _ dX11_make_21 (by rfl) zhw
  · replace zhs := br_F zhs zc9
    refine lv_iload_n zhx zhb dX11_make_11 rfl (lv_at zhl 2 rfl) ?_
    refine lv_iconst (v := 0) zhx zhb dX11_make_12 (by decide) ?_
    refine lv_iconst (v := 3) zhx zhb dX11_make_13 (by decide) ?_
    obtain ⟨zv2, zhp, zhs⟩ := bnd_e zhs
    refine x_cSI (As := [.int a2, .int 0, .int 3]) (rest := []) C zhw zhl (cOff_isWithin l D cI h a2 0 3 M zv2 zhp) (by decide) (by decide) kw_9_22 kw_9_23 kw_1_2 kw_10_0 md_X11_isWithin rfl rfl (Nat.le_of_ble_eq_true rfl) dX11_make_14 (fun zH zlocs zhw hzv2 => ?_)
    refine lv_if_ne (tgt := 22) zhx zhb dX11_make_17 (by decide) (fun zc9 => ?_) (fun zc9 => ?_)
    · replace zhs := br_F zhs zc9
      refine lv_aload_n zhx zhb dX11_make_22 rfl (lv_at zhl 0 rfl) ?_
      refine x_get C zhw inlX11 rfl 0 3 (by decide) kw_2_1 rfl (wX_c0 h cI M) rfl dX11_make_23 ?_
      refine lv_iload_n zhx zhb dX11_make_26 rfl (lv_at zhl 1 rfl) ?_
      obtain ⟨zv3, zhp, zhs⟩ := bnd_e zhs
      refine x_cVI (As := [.int a1]) (rest := []) C zhw zhl (cStock_kindOf l D cI h a1 M zv3 zhp) (by decide) (by decide) kw_18_7 kw_18_8 kw_18_9 kw_2_0 kw_18_10 md_X8_kindOf rfl 40 (wX_c40 h cI M) rfl rfl rfl rfl (Nat.le_of_ble_eq_true rfl) dX11_make_27 (fun zH zlocs zhw hn9 => ?_)
      refine lv_istore_n (lv' := [(3, .int zv3), (0, .ref (h 0)), (1, .int a1), (2, .int a2)]) zhx zhb dX11_make_30 rfl zhl (by decide) rfl (fun zls zhl => ?_)
      refine lv_aload_n zhx zhb dX11_make_31 rfl (lv_at zhl 1 rfl) ?_
      refine x_get C zhw inlX11 rfl 0 3 (by decide) kw_2_1 rfl (wX_c0 h cI M) rfl dX11_make_32 ?_
      refine lv_iload_n zhx zhb dX11_make_35 rfl (lv_at zhl 2 rfl) ?_
      obtain ⟨zv4, zhp, zhs⟩ := bnd_e zhs
      refine x_cVI (As := [.int a1]) (rest := []) C zhw zhl (cStock_isThere l D cI h a1 M zv4 zhp) (by decide) (by decide) kw_24_6 kw_22_2 kw_22_3 kw_2_0 kw_22_4 md_X8_isThere rfl 40 (wX_c40 h cI M) rfl rfl rfl rfl (Nat.le_of_ble_eq_true rfl) dX11_make_36 (fun zH zlocs zhw hzv4 => ?_)
      refine lv_if_eq (tgt := 50) zhx zhb dX11_make_39 (by decide) (fun zc9 => ?_) (fun zc9 => ?_)
      · replace zhs := br_T zhs zc9
        refine lv_bipush (v := (-2)) zhx zhb dX11_make_50 (by decide) ?_
        cases zhs
        exact zhret _ _ _ _ dX11_make_52 (by rfl) zhw
      · replace zhs := br_F zhs zc9
        refine lv_iload_n zhx zhb dX11_make_42 rfl (lv_at zhl 0 rfl) ?_
        refine lv_iload_n zhx zhb dX11_make_43 rfl (lv_at zhl 3 rfl) ?_
        obtain ⟨zv5, zhp, zhs⟩ := bnd_e zhs
        refine x_cSI (As := [.int zv3, .int a2]) (rest := []) C zhw zhl (cOff_canBecome l D cI h zv3 a2 M zv5 zhp) (by decide) (by decide) kw_25_5 kw_25_6 kw_1_2 kw_25_7 md_X11_canBecome rfl rfl (Nat.le_of_ble_eq_true rfl) dX11_make_44 (fun zH zlocs zhw hzv5 => ?_)
        refine lv_if_ne (tgt := 53) zhx zhb dX11_make_47 (by decide) (fun zc9 => ?_) (fun zc9 => ?_)
        · replace zhs := br_F zhs zc9
          refine lv_aload_n zhx zhb dX11_make_53 rfl (lv_at zhl 1 rfl) ?_
          refine x_get C zhw inlX11 rfl 0 3 (by decide) kw_2_1 rfl (wX_c0 h cI M) rfl dX11_make_54 ?_
          refine lv_iload_n zhx zhb dX11_make_57 rfl (lv_at zhl 2 rfl) ?_
          refine lv_iload_n zhx zhb dX11_make_58 rfl (lv_at zhl 3 rfl) ?_
          obtain ⟨zv6, zhq, zhs⟩ := bnd_e zhs
          have hJ7 : ∀ (zH : Heap) (zlocs : List Loc) (zls : Array Slot), lv_has zls 4 [(3, .int zv3)] → Hw D (wX h cI M) A s.heap zH zlocs → W p l e (RM 3) s m args below meth c zH zlocs 0 0 Q (F0 m 67 zls [.int zv6, .int a1, .ref (h 40)]) := by
            intro zH zlocs zls zhl zhw
            obtain ⟨zM8, zhp, zhs⟩ := bnd_e zhs
            refine x_cVV (As := [.int a1, .int zv6]) (rest := []) C zhw zhl (cStock_turnInto l D cI h a1 zv6 M zM8 zhp) (by decide) (by decide) kw_25_8 kw_25_9 kw_25_10 kw_2_0 kw_25_11 md_X8_turnInto rfl 40 (wX_c40 h cI M) rfl rfl rfl rfl (Nat.le_of_ble_eq_true rfl) dX11_make_67 (fun zH zlocs zhw => ?_)
            refine lv_iload_n zhx zhb dX11_make_70 rfl (lv_at zhl 0 rfl) ?_
            cases zhs
            exact zhret _ _ _ _ dX11_make_71 (by rfl) zhw
          replace zhs := zhq
          clear zhq
          refine lv_if_ne (tgt := 66) zhx zhb dX11_make_59 (by decide) (fun zc9 => ?_) (fun zc9 => ?_)
          · replace zhs := br_F zhs zc9
            refine lv_iload_n zhx zhb dX11_make_66 rfl (lv_at zhl 3 rfl) ?_
            cases zhs
            exact hJ7 zH zlocs zls (lv_sub zhl [0] rfl) zhw
          · replace zhs := br_T zhs zc9
            refine lv_iconst (v := 1) zhx zhb dX11_make_62 (by decide) ?_
            refine lv_goto (tgt := 67) zhx zhb dX11_make_63 (by decide) ?_
            cases zhs
            exact hJ7 zH zlocs zls (lv_sub zhl [0] rfl) zhw
        · replace zhs := br_T zhs zc9
          refine lv_bipush (v := (-2)) zhx zhb dX11_make_50 (by decide) ?_
          cases zhs
          exact zhret _ _ _ _ dX11_make_52 (by rfl) zhw
    · replace zhs := br_T zhs zc9
      refine lv_iconst (v := (-1)) zhx zhb dX11_make_20 (by decide) ?_
      cases zhs
      exact zhret _ _ _ _ dX11_make_21 (by rfl) zhw

-- OffFirst$Stock.takeOut in (40, ())
def sStock_takeOut (a1 : Int32) (a2 : Int32) (M : Mm) : Option Mm :=
  ltM (putf 10 M 44 a1 a2) fun zM1 =>
  ltM (putf 10 zM1 45 a1 (zM1 40 6)) fun zM2 =>
  some zM2
set_option maxHeartbeats 4000000 in
set_option maxRecDepth 100000 in
theorem cStock_takeOut (l : Launch) (D : va_G) (cI : ClassId) (h : Nat → Nat) (a1 : Int32) (a2 : Int32) (M : Mm) (M' : Mm) (zhs : sStock_takeOut a1 a2 M = some M') : CtV l yX8_takeOut cX8_takeOut 3 2 D cI (wX h cI M) (wX h cI M') [.ref (h 40), .int a1, .int a2] := by
  unfold sStock_takeOut at zhs
  refine CtV_of (by decide +kernel) (Nat.le_of_ble_eq_true rfl) ?_
  intro p e s m args below meth c A Q zls zH zlocs C zhw zhl zhret
  have zhx := C.1
  have zhb := C.2.1
  have zhown := C.2.2.2.2.1
  have zhtB := C.2.2.2.2.2.2.1
  have zhl : lv_has zls 3 [(0, .ref (h 40)), (1, .int a1), (2, .int a2)] := zhl
  refine lv_aload_n zhx zhb dX8_takeOut_0 rfl (lv_at zhl 0 rfl) ?_
  refine x_get C zhw inlX8 rfl 40 3 (by decide) kw_5_5 rfl (wX_c40 h cI M) rfl dX8_takeOut_1 ?_
  refine lv_iload_n zhx zhb dX8_takeOut_4 rfl (lv_at zhl 1 rfl) ?_
  refine lv_iload_n zhx zhb dX8_takeOut_5 rfl (lv_at zhl 2 rfl) ?_
  refine x_cSNV (As := [.ref (h 44), .int a1, .int a2]) (rest := []) C zhw zhl (c_put l D cI (wX h cI) M 44 10 (h 44) (wX_c44 h cI M) (fun j v => wX_a44 h cI M j v) (by decide) a1 a2) (by decide) (by decide) (List.mem_of_getElem? (i := 10) rfl) kw_7_0 kw_1_2 kw_7_1 md_X11_put rfl rfl (Nat.le_of_ble_eq_true rfl) dX8_takeOut_6 (fun zH zlocs zhw => ?_)
  obtain ⟨zM1, ze9, zhs⟩ := ltM_e zhs
  rw [← ze9] at zhw; clear ze9
  refine lv_aload_n zhx zhb dX8_takeOut_9 rfl (lv_at zhl 0 rfl) ?_
  refine x_get C zhw inlX8 rfl 40 4 (by decide) kw_5_6 rfl (wX_c40 h cI zM1) rfl dX8_takeOut_10 ?_
  refine lv_iload_n zhx zhb dX8_takeOut_13 rfl (lv_at zhl 1 rfl) ?_
  refine lv_aload_n zhx zhb dX8_takeOut_14 rfl (lv_at zhl 0 rfl) ?_
  refine x_get C zhw inlX8 rfl 40 6 (by decide) kw_7_14 rfl (wX_c40 h cI zM1) rfl dX8_takeOut_15 ?_
  refine x_cSNV (As := [.ref (h 45), .int a1, .int (zM1 40 6)]) (rest := []) C zhw zhl (c_put l D cI (wX h cI) zM1 45 10 (h 45) (wX_c45 h cI zM1) (fun j v => wX_a45 h cI zM1 j v) (by decide) a1 (zM1 40 6)) (by decide) (by decide) (List.mem_of_getElem? (i := 10) rfl) kw_7_0 kw_1_2 kw_7_1 md_X11_put rfl rfl (Nat.le_of_ble_eq_true rfl) dX8_takeOut_18 (fun zH zlocs zhw => ?_)
  obtain ⟨zM2, ze9, zhs⟩ := ltM_e zhs
  rw [← ze9] at zhw; clear ze9
  cases zhs
  exact zhret _ _ _ _ dX8_takeOut_21 zhw

-- OffFirst.takeAway in (0, ())
def sOff_takeAway (a1 : Int32) (a2 : Int32) (M : Mm) : Option (Int32 × Mm) :=
  (sFridge_hasFood a1 M).bind fun zv1 =>
  (if zv1 = 0 then some ((-1), M)
  else (sStock_isThere a1 M).bind fun zv2 =>
  (if zv2 = 0 then some ((-2), M)
  else (sStock_takeOut a1 a2 M).bind fun zM3 =>
  (sFridge_isOff a1 zM3).bind fun zv4 =>
  (if zv4 = 0 then some (0, zM3)
  else some (1, zM3))))
set_option maxHeartbeats 4000000 in
set_option maxRecDepth 100000 in
theorem cOff_takeAway (l : Launch) (D : va_G) (cI : ClassId) (h : Nat → Nat) (a1 : Int32) (a2 : Int32) (M : Mm) (r : Int32) (M' : Mm) (zhs : sOff_takeAway a1 a2 M = some (r, M')) : CtI l yX11_takeAway cX11_takeAway 3 (some .int) 5 D cI (wX h cI M) (wX h cI M') [.ref (h 0), .int a1, .int a2] r := by
  unfold sOff_takeAway at zhs
  refine CtI_of (by decide +kernel) (Nat.le_of_ble_eq_true rfl) ⟨_, rfl⟩ ?_
  intro p e s m args below meth c A Q zls zH zlocs C zhw zhl zhret
  have zhx := C.1
  have zhb := C.2.1
  have zhown := C.2.2.2.2.1
  have zhtB := C.2.2.2.2.2.2.1
  have zhl : lv_has zls 3 [(0, .ref (h 0)), (1, .int a1), (2, .int a2)] := zhl
  refine lv_aload_n zhx zhb dX11_takeAway_0 rfl (lv_at zhl 0 rfl) ?_
  refine x_get C zhw inlX11 rfl 0 7 (by decide) kw_2_7 rfl (wX_c0 h cI M) rfl dX11_takeAway_1 ?_
  refine lv_iload_n zhx zhb dX11_takeAway_4 rfl (lv_at zhl 1 rfl) ?_
  obtain ⟨zv1, zhp, zhs⟩ := bnd_e zhs
  refine x_cVI (As := [.int a1]) (rest := []) C zhw zhl (cFridge_hasFood l D cI h a1 M zv1 zhp) (by decide) (by decide) kw_18_3 kw_18_4 kw_18_5 kw_2_6 kw_18_6 md_X3_hasFood rfl 58 (wX_c58 h cI M) rfl rfl rfl rfl (Nat.le_of_ble_eq_true rfl) dX11_takeAway_5 (fun zH zlocs zhw hzv1 => ?_)
  refine lv_if_ne (tgt := 13) zhx zhb dX11_takeAway_8 (by decide) (fun zc9 => ?_) (fun zc9 => ?_)
  · replace zhs := br_F zhs zc9
    refine lv_aload_n zhx zhb dX11_takeAway_13 rfl (lv_at zhl 0 rfl) ?_
    refine x_get C zhw inlX11 rfl 0 3 (by decide) kw_2_1 rfl (wX_c0 h cI M) rfl dX11_takeAway_14 ?_
    refine lv_iload_n zhx zhb dX11_takeAway_17 rfl (lv_at zhl 1 rfl) ?_
    obtain ⟨zv2, zhp, zhs⟩ := bnd_e zhs
    refine x_cVI (As := [.int a1]) (rest := []) C zhw zhl (cStock_isThere l D cI h a1 M zv2 zhp) (by decide) (by decide) kw_24_6 kw_22_2 kw_22_3 kw_2_0 kw_22_4 md_X8_isThere rfl 40 (wX_c40 h cI M) rfl rfl rfl rfl (Nat.le_of_ble_eq_true rfl) dX11_takeAway_18 (fun zH zlocs zhw hzv2 => ?_)
    refine lv_if_ne (tgt := 27) zhx zhb dX11_takeAway_21 (by decide) (fun zc9 => ?_) (fun zc9 => ?_)
    · replace zhs := br_F zhs zc9
      refine lv_aload_n zhx zhb dX11_takeAway_27 rfl (lv_at zhl 0 rfl) ?_
      refine x_get C zhw inlX11 rfl 0 3 (by decide) kw_2_1 rfl (wX_c0 h cI M) rfl dX11_takeAway_28 ?_
      refine lv_iload_n zhx zhb dX11_takeAway_31 rfl (lv_at zhl 1 rfl) ?_
      refine lv_iload_n zhx zhb dX11_takeAway_32 rfl (lv_at zhl 2 rfl) ?_
      obtain ⟨zM3, zhp, zhs⟩ := bnd_e zhs
      refine x_cVV (As := [.int a1, .int a2]) (rest := []) C zhw zhl (cStock_takeOut l D cI h a1 a2 M zM3 zhp) (by decide) (by decide) kw_26_0 kw_26_1 kw_26_2 kw_2_0 kw_26_3 md_X8_takeOut rfl 40 (wX_c40 h cI M) rfl rfl rfl rfl (Nat.le_of_ble_eq_true rfl) dX11_takeAway_33 (fun zH zlocs zhw => ?_)
      refine lv_aload_n zhx zhb dX11_takeAway_36 rfl (lv_at zhl 0 rfl) ?_
      refine x_get C zhw inlX11 rfl 0 7 (by decide) kw_2_7 rfl (wX_c0 h cI zM3) rfl dX11_takeAway_37 ?_
      refine lv_iload_n zhx zhb dX11_takeAway_40 rfl (lv_at zhl 1 rfl) ?_
      obtain ⟨zv4, zhp, zhs⟩ := bnd_e zhs
      refine x_cVI (As := [.int a1]) (rest := []) C zhw zhl (cFridge_isOff l D cI h a1 zM3 zv4 zhp) (by decide) (by decide) kw_19_8 kw_19_9 kw_19_10 kw_2_6 kw_19_11 md_X3_isOff rfl 58 (wX_c58 h cI zM3) rfl rfl rfl rfl (Nat.le_of_ble_eq_true rfl) dX11_takeAway_41 (fun zH zlocs zhw hzv4 => ?_)
      refine lv_if_eq (tgt := 51) zhx zhb dX11_takeAway_44 (by decide) (fun zc9 => ?_) (fun zc9 => ?_)
      · replace zhs := br_T zhs zc9
        refine lv_iconst (v := 0) zhx zhb dX11_takeAway_51 (by decide) ?_
        cases zhs
        exact zhret _ _ _ _ dX11_takeAway_52 (by rfl) zhw
      · replace zhs := br_F zhs zc9
        refine lv_iconst (v := 1) zhx zhb dX11_takeAway_47 (by decide) ?_
        refine lv_goto (tgt := 52) zhx zhb dX11_takeAway_48 (by decide) ?_
        cases zhs
        exact zhret _ _ _ _ dX11_takeAway_52 (by rfl) zhw
    · replace zhs := br_T zhs zc9
      refine lv_bipush (v := (-2)) zhx zhb dX11_takeAway_24 (by decide) ?_
      cases zhs
      exact zhret _ _ _ _ dX11_takeAway_26 (by rfl) zhw
  · replace zhs := br_T zhs zc9
    refine lv_iconst (v := (-1)) zhx zhb dX11_takeAway_11 (by decide) ?_
    cases zhs
    exact zhret _ _ _ _ dX11_takeAway_12 (by rfl) zhw

-- OffFirst.eat in (0, ())
def sOff_eat (a1 : Int32) (M : Mm) : Option (Int32 × Mm) :=
  (sOff_takeAway a1 1 M).bind fun (zv1, zM2) =>
  some (zv1, zM2)
set_option maxHeartbeats 4000000 in
set_option maxRecDepth 100000 in
theorem cOff_eat (l : Launch) (D : va_G) (cI : ClassId) (h : Nat → Nat) (a1 : Int32) (M : Mm) (r : Int32) (M' : Mm) (zhs : sOff_eat a1 M = some (r, M')) : CtI l yX11_eat cX11_eat 2 (some .int) 6 D cI (wX h cI M) (wX h cI M') [.ref (h 0), .int a1] r := by
  unfold sOff_eat at zhs
  refine CtI_of (by decide +kernel) (Nat.le_of_ble_eq_true rfl) ⟨_, rfl⟩ ?_
  intro p e s m args below meth c A Q zls zH zlocs C zhw zhl zhret
  have zhx := C.1
  have zhb := C.2.1
  have zhown := C.2.2.2.2.1
  have zhtB := C.2.2.2.2.2.2.1
  have zhl : lv_has zls 2 [(0, .ref (h 0)), (1, .int a1)] := zhl
  refine lv_aload_n zhx zhb dX11_eat_0 rfl (lv_at zhl 0 rfl) ?_
  refine lv_iload_n zhx zhb dX11_eat_1 rfl (lv_at zhl 1 rfl) ?_
  refine lv_iconst (v := 1) zhx zhb dX11_eat_2 (by decide) ?_
  obtain ⟨⟨zv1, zM2⟩, zhp, zhs⟩ := bnd_e zhs
  try dsimp only at zhs
  refine x_cVI (As := [.int a1, .int 1]) (rest := []) C zhw zhl (cOff_takeAway l D cI h a1 1 M zv1 zM2 zhp) (by decide) (by decide) kw_25_20 kw_25_21 kw_25_22 kw_1_2 kw_25_23 md_X11_takeAway rfl 0 (wX_c0 h cI M) rfl rfl rfl rfl (Nat.le_of_ble_eq_true rfl) dX11_eat_3 (fun zH zlocs zhw hn9 => ?_)
  cases zhs
  exact zhret _ _ _ _ dX11_eat_6 (by rfl) zhw

-- OffFirst.throwOut in (0, ())
def sOff_throwOut (a1 : Int32) (M : Mm) : Option (Int32 × Mm) :=
  (sOff_takeAway a1 2 M).bind fun (zv1, zM2) =>
  some (zv1, zM2)
set_option maxHeartbeats 4000000 in
set_option maxRecDepth 100000 in
theorem cOff_throwOut (l : Launch) (D : va_G) (cI : ClassId) (h : Nat → Nat) (a1 : Int32) (M : Mm) (r : Int32) (M' : Mm) (zhs : sOff_throwOut a1 M = some (r, M')) : CtI l yX11_throwOut cX11_throwOut 2 (some .int) 6 D cI (wX h cI M) (wX h cI M') [.ref (h 0), .int a1] r := by
  unfold sOff_throwOut at zhs
  refine CtI_of (by decide +kernel) (Nat.le_of_ble_eq_true rfl) ⟨_, rfl⟩ ?_
  intro p e s m args below meth c A Q zls zH zlocs C zhw zhl zhret
  have zhx := C.1
  have zhb := C.2.1
  have zhown := C.2.2.2.2.1
  have zhtB := C.2.2.2.2.2.2.1
  have zhl : lv_has zls 2 [(0, .ref (h 0)), (1, .int a1)] := zhl
  refine lv_aload_n zhx zhb dX11_throwOut_0 rfl (lv_at zhl 0 rfl) ?_
  refine lv_iload_n zhx zhb dX11_throwOut_1 rfl (lv_at zhl 1 rfl) ?_
  refine lv_iconst (v := 2) zhx zhb dX11_throwOut_2 (by decide) ?_
  obtain ⟨⟨zv1, zM2⟩, zhp, zhs⟩ := bnd_e zhs
  try dsimp only at zhs
  refine x_cVI (As := [.int a1, .int 2]) (rest := []) C zhw zhl (cOff_takeAway l D cI h a1 2 M zv1 zM2 zhp) (by decide) (by decide) kw_25_20 kw_25_21 kw_25_22 kw_1_2 kw_25_23 md_X11_takeAway rfl 0 (wX_c0 h cI M) rfl rfl rfl rfl (Nat.le_of_ble_eq_true rfl) dX11_throwOut_3 (fun zH zlocs zhw hn9 => ?_)
  cases zhs
  exact zhret _ _ _ _ dX11_throwOut_6 (by rfl) zhw

-- OffFirst$Fridge.hoursTillOff in (58, ())
def LFridge_hoursTillOff_98_24 (N : Nat) (a2 : Int32) (M : Mm) (zv1 : Int32) (zx11 : Int32) (zx12 : Int32) (zx13 : Int32) : Option ((Int32 × Int32 × Int32) ⊕ ((Int32))) :=
  (if 24 ≤ zx13 then some (.inr zx12)
  else (if zx11 ≤ 0 then some (.inr zx12)
  else (sCells_warmIn_l a2 ((M 40 6) + zx13) M).bind fun zv19 =>
  (sOff_ageing zv1 1 zv19).bind fun zv20 =>
  ltI (zx11 - zv20) fun zv21 =>
  ltI (zx12 + 1) fun zv22 =>
  ltI (zx13 + 1) fun zv23 =>
  some (.inl (zv21, zv22, zv23))))
def sFridge_hoursTillOff (N : Nat) (a1 : Int32) (a2 : Int32) (M : Mm) : Option Int32 :=
  (sStock_kindOf a1 M).bind fun zv1 =>
  (sFridge_limitOf a1 M).bind fun zv2 =>
  (sStock_ageOf a1 M).bind fun zv3 =>
  ltI (zv2 - zv3) fun zv4 =>
  (if 0 < zv4 then (sCells_warmthOver_l N a2 (M 40 6) 24 M).bind fun zv5 =>
  (sOff_ageing zv1 24 zv5).bind fun zv6 =>
  (((if zv6 ≤ 0 then some 0
  else dvc zv6 (some ((zv4 - 1) / zv6))) : Option (Int32))).bind fun zv7 =>
  ltI (zv7 * 24) fun zv9 =>
  ltI (zv4 - (zv7 * zv6)) fun zv10 =>
  (itr (fun z : Int32 × Int32 × Int32 => LFridge_hoursTillOff_98_24 N a2 M zv1 z.1 z.2.1 z.2.2) N (zv10, zv9, 0)).bind fun zv25 =>
  (if 5000 < zv25 then some (-4)
  else some zv25)
  else some 0)
set_option maxHeartbeats 4000000 in
set_option maxRecDepth 100000 in
theorem cFridge_hoursTillOff (l : Launch) (D : va_G) (cI : ClassId) (h : Nat → Nat) (N : Nat) (a1 : Int32) (a2 : Int32) (M : Mm) (r : Int32) (zhs : sFridge_hoursTillOff N a1 a2 M = some r) : CtI l yX3_hoursTillOff cX3_hoursTillOff 9 (some .int) 4 D cI (wX h cI M) (wX h cI M) [.ref (h 58), .int a1, .int a2] r := by
  unfold sFridge_hoursTillOff at zhs
  refine CtI_of (by decide +kernel) (Nat.le_of_ble_eq_true rfl) ⟨_, rfl⟩ ?_
  intro p e s m args below meth c A Q zls zH zlocs C zhw zhl zhret
  have zhx := C.1
  have zhb := C.2.1
  have zhown := C.2.2.2.2.1
  have zhtB := C.2.2.2.2.2.2.1
  have zhl : lv_has zls 9 [(0, .ref (h 58)), (1, .int a1), (2, .int a2)] := zhl
  refine lv_aload_n zhx zhb dX3_hoursTillOff_0 rfl (lv_at zhl 0 rfl) ?_
  refine x_get C zhw inlX3 rfl 58 1 (by decide) kw_5_12 rfl (wX_c58 h cI M) rfl dX3_hoursTillOff_1 ?_
  refine lv_iload_n zhx zhb dX3_hoursTillOff_4 rfl (lv_at zhl 1 rfl) ?_
  obtain ⟨zv1, zhp, zhs⟩ := bnd_e zhs
  refine x_cVI (As := [.int a1]) (rest := []) C zhw zhl (cStock_kindOf l D cI h a1 M zv1 zhp) (by decide) (by decide) kw_18_23 kw_18_8 kw_18_9 kw_2_0 kw_18_10 md_X8_kindOf rfl 40 (wX_c40 h cI M) rfl rfl rfl rfl (Nat.le_of_ble_eq_true rfl) dX3_hoursTillOff_5 (fun zH zlocs zhw hn9 => ?_)
  refine lv_istore_n (lv' := [(3, .int zv1), (0, .ref (h 58)), (1, .int a1), (2, .int a2)]) zhx zhb dX3_hoursTillOff_8 rfl zhl (by decide) rfl (fun zls zhl => ?_)
  refine lv_aload_n zhx zhb dX3_hoursTillOff_9 rfl (lv_at zhl 1 rfl) ?_
  refine lv_iload_n zhx zhb dX3_hoursTillOff_10 rfl (lv_at zhl 2 rfl) ?_
  obtain ⟨zv2, zhp, zhs⟩ := bnd_e zhs
  refine x_cVI (As := [.int a1]) (rest := []) C zhw zhl (cFridge_limitOf l D cI h a1 M zv2 zhp) (by decide) (by decide) kw_19_13 kw_18_20 kw_18_21 kw_2_6 kw_18_22 md_X3_limitOf rfl 58 (wX_c58 h cI M) rfl rfl rfl rfl (Nat.le_of_ble_eq_true rfl) dX3_hoursTillOff_11 (fun zH zlocs zhw hn9 => ?_)
  refine lv_aload_n zhx zhb dX3_hoursTillOff_14 rfl (lv_at zhl 1 rfl) ?_
  refine x_get C zhw inlX3 rfl 58 1 (by decide) kw_5_12 rfl (wX_c58 h cI M) rfl dX3_hoursTillOff_15 ?_
  refine lv_iload_n zhx zhb dX3_hoursTillOff_18 rfl (lv_at zhl 2 rfl) ?_
  obtain ⟨zv3, zhp, zhs⟩ := bnd_e zhs
  refine x_cVI (As := [.int a1]) (rest := [.int zv2]) C zhw zhl (cStock_ageOf l D cI h a1 M zv3 zhp) (by decide) (by decide) kw_19_12 kw_18_16 kw_18_17 kw_2_0 kw_18_18 md_X8_ageOf rfl 40 (wX_c40 h cI M) rfl rfl rfl rfl (Nat.le_of_ble_eq_true rfl) dX3_hoursTillOff_19 (fun zH zlocs zhw hn9 => ?_)
  refine lv_isub zhx zhb dX3_hoursTillOff_22 ?_
  obtain ⟨zv4, ze9, zhs⟩ := ltI_e zhs
  refine lv_topi (fun zy9 ze8 => ?_)
  obtain rfl : zv4 = zy9 := ze9.trans ze8.symm
  clear ze9 ze8
  refine lv_istore (lv' := [(4, .int zv4), (3, .int zv1), (0, .ref (h 58)), (1, .int a1), (2, .int a2)]) zhx zhb dX3_hoursTillOff_23 zhl (by decide) rfl (fun zls zhl => ?_)
  refine lv_iload zhx zhb dX3_hoursTillOff_25 (lv_at zhl 0 rfl) ?_
  refine lv_if_gt (tgt := 32) zhx zhb dX3_hoursTillOff_27 (by decide) (fun zc9 => ?_) (fun zc9 => ?_)
  · replace zhs := br_T zhs zc9
    refine lv_iload_n zhx zhb dX3_hoursTillOff_32 rfl (lv_at zhl 1 rfl) ?_
    refine lv_bipush (v := 24) zhx zhb dX3_hoursTillOff_33 (by decide) ?_
    refine lv_aload_n zhx zhb dX3_hoursTillOff_35 rfl (lv_at zhl 2 rfl) ?_
    refine x_get C zhw inlX3 rfl 58 0 (by decide) kw_5_11 rfl (wX_c58 h cI M) rfl dX3_hoursTillOff_36 ?_
    refine x_getN C zhw inlX10 rfl 22 0 (by decide) (List.mem_of_getElem? (i := 18) rfl) rfl (wX_c22 h cI M) rfl dX3_hoursTillOff_39 ?_
    refine lv_iload_n zhx zhb dX3_hoursTillOff_42 rfl (lv_at zhl 4 rfl) ?_
    refine lv_aload_n zhx zhb dX3_hoursTillOff_43 rfl (lv_at zhl 2 rfl) ?_
    refine x_get C zhw inlX3 rfl 58 1 (by decide) kw_5_12 rfl (wX_c58 h cI M) rfl dX3_hoursTillOff_44 ?_
    refine x_getN C zhw inlX8 rfl 40 6 (by decide) (List.mem_of_getElem? (i := 30) rfl) rfl (wX_c40 h cI M) rfl dX3_hoursTillOff_47 ?_
    refine lv_bipush (v := 24) zhx zhb dX3_hoursTillOff_50 (by decide) ?_
    obtain ⟨zv5, zhp, zhs⟩ := bnd_e zhs
    refine x_cVI (As := [.int a2, .int (M 40 6), .int 24]) (rest := [.int 24, .int zv1]) C zhw zhl (cCells_warmthOver_l l D cI h N a2 (M 40 6) 24 M zv5 zhp) (by decide) (by decide) kw_22_14 kw_22_15 kw_22_16 kw_3_11 kw_22_17 md_X0_warmthOver rfl 23 (wX_c23 h cI M) rfl rfl rfl rfl (Nat.le_of_ble_eq_true rfl) dX3_hoursTillOff_52 (fun zH zlocs zhw hn9 => ?_)
    obtain ⟨zv6, zhp, zhs⟩ := bnd_e zhs
    refine x_cSNI (As := [.int zv1, .int 24, .int zv5]) (rest := []) C zhw zhl (cOff_ageing l D cI h zv1 24 zv5 M zv6 zhp) (by decide) (by decide) (List.mem_of_getElem? (i := 18) rfl) kw_23_1 kw_1_2 kw_23_2 md_X11_ageing rfl rfl (Nat.le_of_ble_eq_true rfl) dX3_hoursTillOff_55 (fun zH zlocs zhw hn9 => ?_)
    refine lv_istore (lv' := [(5, .int zv6), (4, .int zv4), (3, .int zv1), (0, .ref (h 58)), (1, .int a1), (2, .int a2)]) zhx zhb dX3_hoursTillOff_58 zhl (by decide) rfl (fun zls zhl => ?_)
    refine lv_iload zhx zhb dX3_hoursTillOff_60 (lv_at zhl 0 rfl) ?_
    obtain ⟨zv7, zhq, zhs⟩ := bnd_e zhs
    have hJ8 : ∀ (zH : Heap) (zlocs : List Loc) (zls : Array Slot), lv_has zls 9 [(5, .int zv6), (4, .int zv4), (3, .int zv1), (0, .ref (h 58)), (2, .int a2)] → Hw D (wX h cI M) A s.heap zH zlocs → W p l e (RM 4) s m args below meth c zH zlocs 0 0 Q (F0 m 76 zls [.int zv7]) := by
      intro zH zlocs zls zhl zhw
      refine lv_istore (lv' := [(6, .int zv7), (5, .int zv6), (4, .int zv4), (3, .int zv1), (0, .ref (h 58)), (2, .int a2)]) zhx zhb dX3_hoursTillOff_76 zhl (by decide) rfl (fun zls zhl => ?_)
      refine lv_iload zhx zhb dX3_hoursTillOff_78 (lv_at zhl 0 rfl) ?_
      refine lv_bipush (v := 24) zhx zhb dX3_hoursTillOff_80 (by decide) ?_
      refine lv_imul zhx zhb dX3_hoursTillOff_82 ?_
      obtain ⟨zv9, ze9, zhs⟩ := ltI_e zhs
      refine lv_topi (fun zy9 ze8 => ?_)
      obtain rfl : zv9 = zy9 := ze9.trans ze8.symm
      clear ze9 ze8
      refine lv_istore (lv' := [(7, .int zv9), (6, .int zv7), (5, .int zv6), (4, .int zv4), (3, .int zv1), (0, .ref (h 58)), (2, .int a2)]) zhx zhb dX3_hoursTillOff_83 zhl (by decide) rfl (fun zls zhl => ?_)
      refine lv_iload zhx zhb dX3_hoursTillOff_85 (lv_at zhl 3 rfl) ?_
      refine lv_iload zhx zhb dX3_hoursTillOff_87 (lv_at zhl 1 rfl) ?_
      refine lv_iload zhx zhb dX3_hoursTillOff_89 (lv_at zhl 2 rfl) ?_
      refine lv_imul zhx zhb dX3_hoursTillOff_91 ?_
      refine lv_isub zhx zhb dX3_hoursTillOff_92 ?_
      obtain ⟨zv10, ze9, zhs⟩ := ltI_e zhs
      refine lv_topi (fun zy9 ze8 => ?_)
      obtain rfl : zv10 = zy9 := ze9.trans ze8.symm
      clear ze9 ze8
      refine lv_istore (lv' := [(4, .int zv10), (7, .int zv9), (6, .int zv7), (5, .int zv6), (3, .int zv1), (0, .ref (h 58)), (2, .int a2)]) zhx zhb dX3_hoursTillOff_93 zhl (by decide) rfl (fun zls zhl => ?_)
      refine lv_iconst (v := 0) zhx zhb dX3_hoursTillOff_95 (by decide) ?_
      refine lv_istore (lv' := [(8, .int 0), (4, .int zv10), (7, .int zv9), (6, .int zv7), (5, .int zv6), (3, .int zv1), (0, .ref (h 58)), (2, .int a2)]) zhx zhb dX3_hoursTillOff_96 zhl (by decide) rfl (fun zls zhl => ?_)
      obtain ⟨zq24, zhq24, zhs⟩ := bnd_e zhs
      have hloop24 : ∀ (zn : Nat) (zx11 : Int32) (zx12 : Int32) (zx13 : Int32) (zq : (Int32)), itr (fun z : Int32 × Int32 × Int32 => LFridge_hoursTillOff_98_24 N a2 M zv1 z.1 z.2.1 z.2.2) zn (zx11, zx12, zx13) = some zq → (∀ (zy1 : Int32), zy1 = zq → ∀ (zH : Heap) (zlocs : List Loc) (zls : Array Slot), lv_has zls 9 [(7, .int zy1)] → Hw D (wX h cI M) A s.heap zH zlocs → W p l e (RM 4) s m args below meth c zH zlocs 0 0 Q (F0 m 150 zls [])) → ∀ (zH : Heap) (zlocs : List Loc) (zls : Array Slot), lv_has zls 9 [(8, .int zx13), (4, .int zx11), (7, .int zx12), (3, .int zv1), (0, .ref (h 58)), (2, .int a2)] → Hw D (wX h cI M) A s.heap zH zlocs → W p l e (RM 4) s m args below meth c zH zlocs 0 0 Q (F0 m 98 zls []) := by
        intro zn
        induction zn with
        | zero => intro zx11 zx12 zx13 zq zhq; exact absurd zhq (fun h9 => itr_0 h9)
        | succ zn zih =>
            intro zx11 zx12 zx13 zq zhq k98_150 zH zlocs zls zhl zhw
            obtain ⟨zy9, zhs, zhq⟩ := itr_s zhq
            replace zhs : LFridge_hoursTillOff_98_24 N a2 M zv1 zx11 zx12 zx13 = some zy9 := zhs
            unfold LFridge_hoursTillOff_98_24 at zhs
            refine lv_iload zhx zhb dX3_hoursTillOff_98 (lv_at zhl 0 rfl) ?_
            refine lv_bipush (v := 24) zhx zhb dX3_hoursTillOff_100 (by decide) ?_
            refine lv_icmp_ge (tgt := 150) zhx zhb dX3_hoursTillOff_102 (by decide) (fun zc9 => ?_) (fun zc9 => ?_)
            · replace zhs := br_T zhs zc9
              cases zhs
              exact k98_150 zx12 (itk_q zhq) zH zlocs zls (lv_sub zhl [2] rfl) zhw
            · replace zhs := br_F zhs zc9
              refine lv_iload zhx zhb dX3_hoursTillOff_105 (lv_at zhl 1 rfl) ?_
              refine lv_if_le (tgt := 150) zhx zhb dX3_hoursTillOff_107 (by decide) (fun zc9 => ?_) (fun zc9 => ?_)
              · replace zhs := br_T zhs zc9
                cases zhs
                exact k98_150 zx12 (itk_q zhq) zH zlocs zls (lv_sub zhl [2] rfl) zhw
              · replace zhs := br_F zhs zc9
                refine lv_iload zhx zhb dX3_hoursTillOff_110 (lv_at zhl 1 rfl) ?_
                refine lv_iload_n zhx zhb dX3_hoursTillOff_112 rfl (lv_at zhl 3 rfl) ?_
                refine lv_iconst (v := 1) zhx zhb dX3_hoursTillOff_113 (by decide) ?_
                refine lv_aload_n zhx zhb dX3_hoursTillOff_114 rfl (lv_at zhl 4 rfl) ?_
                refine x_get C zhw inlX3 rfl 58 0 (by decide) kw_5_11 rfl (wX_c58 h cI M) rfl dX3_hoursTillOff_115 ?_
                refine x_getN C zhw inlX10 rfl 22 0 (by decide) (List.mem_of_getElem? (i := 18) rfl) rfl (wX_c22 h cI M) rfl dX3_hoursTillOff_118 ?_
                refine lv_iload_n zhx zhb dX3_hoursTillOff_121 rfl (lv_at zhl 5 rfl) ?_
                refine lv_aload_n zhx zhb dX3_hoursTillOff_122 rfl (lv_at zhl 4 rfl) ?_
                refine x_get C zhw inlX3 rfl 58 1 (by decide) kw_5_12 rfl (wX_c58 h cI M) rfl dX3_hoursTillOff_123 ?_
                refine x_getN C zhw inlX8 rfl 40 6 (by decide) (List.mem_of_getElem? (i := 30) rfl) rfl (wX_c40 h cI M) rfl dX3_hoursTillOff_126 ?_
                refine lv_iload zhx zhb dX3_hoursTillOff_129 (lv_at zhl 0 rfl) ?_
                refine lv_iadd zhx zhb dX3_hoursTillOff_131 ?_
                obtain ⟨zv19, zhp, zhs⟩ := bnd_e zhs
                refine x_cVI (As := [.int a2, .int ((M 40 6) + zx13)]) (rest := [.int 1, .int zv1, .int zx11]) C zhw zhl (cCells_warmIn_l l D cI h a2 ((M 40 6) + zx13) M zv19 zhp) (by decide) (by decide) kw_27_4 kw_20_18 kw_20_19 kw_3_11 kw_20_20 md_X0_warmIn rfl 23 (wX_c23 h cI M) rfl rfl rfl rfl (Nat.le_of_ble_eq_true rfl) dX3_hoursTillOff_132 (fun zH zlocs zhw hn9 => ?_)
                obtain ⟨zv20, zhp, zhs⟩ := bnd_e zhs
                refine x_cSNI (As := [.int zv1, .int 1, .int zv19]) (rest := [.int zx11]) C zhw zhl (cOff_ageing l D cI h zv1 1 zv19 M zv20 zhp) (by decide) (by decide) (List.mem_of_getElem? (i := 18) rfl) kw_23_1 kw_1_2 kw_23_2 md_X11_ageing rfl rfl (Nat.le_of_ble_eq_true rfl) dX3_hoursTillOff_135 (fun zH zlocs zhw hn9 => ?_)
                refine lv_isub zhx zhb dX3_hoursTillOff_138 ?_
                obtain ⟨zv21, ze9, zhs⟩ := ltI_e zhs
                refine lv_topi (fun zy9 ze8 => ?_)
                obtain rfl : zv21 = zy9 := ze9.trans ze8.symm
                clear ze9 ze8
                refine lv_istore (lv' := [(4, .int zv21), (8, .int zx13), (7, .int zx12), (3, .int zv1), (0, .ref (h 58)), (2, .int a2)]) zhx zhb dX3_hoursTillOff_139 zhl (by decide) rfl (fun zls zhl => ?_)
                obtain ⟨zv22, ze9, zhs⟩ := ltI_e zhs
                refine lv_iinc (v := zv22) (lv' := [(7, .int zv22), (4, .int zv21), (8, .int zx13), (3, .int zv1), (0, .ref (h 58)), (2, .int a2)]) zhx zhb dX3_hoursTillOff_141 zhl (k := 2) rfl (by rw [ze9]; rfl) (by decide) rfl (fun zls zhl => ?_)
                clear ze9
                obtain ⟨zv23, ze9, zhs⟩ := ltI_e zhs
                refine lv_iinc (v := zv23) (lv' := [(8, .int zv23), (7, .int zv22), (4, .int zv21), (3, .int zv1), (0, .ref (h 58)), (2, .int a2)]) zhx zhb dX3_hoursTillOff_144 zhl (k := 2) rfl (by rw [ze9]; rfl) (by decide) rfl (fun zls zhl => ?_)
                clear ze9
                refine lv_goto (tgt := 98) zhx zhb dX3_hoursTillOff_147 (by decide) ?_
                cases zhs
                exact zih zv21 zv22 zv23 zq (itk_l zhq) k98_150 zH zlocs zls (lv_sub zhl [0, 2, 1, 3, 4, 5] rfl) zhw
      refine hloop24 N zv10 zv9 0 zq24 zhq24 (fun zv25 zhqe zH zlocs zls zhl zhw => ?_) zH zlocs zls (lv_sub zhl [0, 1, 2, 5, 6, 7] rfl) zhw
      · subst zhqe
        refine lv_iload zhx zhb dX3_hoursTillOff_150 (lv_at zhl 0 rfl) ?_
        refine lv_sipush (v := 5000) zhx zhb dX3_hoursTillOff_152 (by decide) ?_
        refine lv_icmp_gt (tgt := 163) zhx zhb dX3_hoursTillOff_155 (by decide) (fun zc9 => ?_) (fun zc9 => ?_)
        · replace zhs := br_T zhs zc9
          refine lv_bipush (v := (-4)) zhx zhb dX3_hoursTillOff_163 (by decide) ?_
          cases zhs
          exact zhret _ _ _ _ dX3_hoursTillOff_165 (by rfl) zhw
        · replace zhs := br_F zhs zc9
          refine lv_iload zhx zhb dX3_hoursTillOff_158 (lv_at zhl 0 rfl) ?_
          refine lv_goto (tgt := 165) zhx zhb dX3_hoursTillOff_160 (by decide) ?_
          cases zhs
          exact zhret _ _ _ _ dX3_hoursTillOff_165 (by rfl) zhw
    replace zhs := zhq
    clear zhq
    refine lv_if_le (tgt := 75) zhx zhb dX3_hoursTillOff_62 (by decide) (fun zc9 => ?_) (fun zc9 => ?_)
    · replace zhs := br_T zhs zc9
      refine lv_iconst (v := 0) zhx zhb dX3_hoursTillOff_75 (by decide) ?_
      cases zhs
      exact hJ8 zH zlocs zls (lv_sub zhl [0, 1, 2, 3, 5] rfl) zhw
    · replace zhs := br_F zhs zc9
      refine lv_iload zhx zhb dX3_hoursTillOff_65 (lv_at zhl 1 rfl) ?_
      refine lv_iconst (v := 1) zhx zhb dX3_hoursTillOff_67 (by decide) ?_
      refine lv_isub zhx zhb dX3_hoursTillOff_68 ?_
      refine lv_iload zhx zhb dX3_hoursTillOff_69 (lv_at zhl 0 rfl) ?_
      obtain ⟨zhz, zhs⟩ := dvc_e zhs
      refine lv_idiv zhx zhb dX3_hoursTillOff_71 zhz ?_
      refine lv_goto (tgt := 76) zhx zhb dX3_hoursTillOff_72 (by decide) ?_
      cases zhs
      exact hJ8 zH zlocs zls (lv_sub zhl [0, 1, 2, 3, 5] rfl) zhw
  · replace zhs := br_F zhs zc9
    refine lv_iconst (v := 0) zhx zhb dX3_hoursTillOff_30 (by decide) ?_
    cases zhs
    exact zhret _ _ _ _ dX3_hoursTillOff_31 (by rfl) zhw

-- OffFirst.offIn in (0, ())
def sOff_offIn (N : Nat) (a1 : Int32) (a2 : Int32) (M : Mm) : Option Int32 :=
  (sFridge_hasFood a1 M).bind fun zv1 =>
  (if zv1 = 0 then some (-1)
  else (sCells_has_l a2 M).bind fun zv2 =>
  (if zv2 = 0 then some (-1)
  else (sStock_isThere a1 M).bind fun zv3 =>
  (if zv3 = 0 then some (-2)
  else (sFridge_hoursTillOff N a1 a2 M).bind fun zv5 =>
  some zv5)))
set_option maxHeartbeats 4000000 in
set_option maxRecDepth 100000 in
theorem cOff_offIn (l : Launch) (D : va_G) (cI : ClassId) (h : Nat → Nat) (N : Nat) (a1 : Int32) (a2 : Int32) (M : Mm) (r : Int32) (zhs : sOff_offIn N a1 a2 M = some r) : CtI l yX11_offIn cX11_offIn 3 (some .int) 5 D cI (wX h cI M) (wX h cI M) [.ref (h 0), .int a1, .int a2] r := by
  unfold sOff_offIn at zhs
  refine CtI_of (by decide +kernel) (Nat.le_of_ble_eq_true rfl) ⟨_, rfl⟩ ?_
  intro p e s m args below meth c A Q zls zH zlocs C zhw zhl zhret
  have zhx := C.1
  have zhb := C.2.1
  have zhown := C.2.2.2.2.1
  have zhtB := C.2.2.2.2.2.2.1
  have zhl : lv_has zls 3 [(0, .ref (h 0)), (1, .int a1), (2, .int a2)] := zhl
  refine lv_aload_n zhx zhb dX11_offIn_0 rfl (lv_at zhl 0 rfl) ?_
  refine x_get C zhw inlX11 rfl 0 7 (by decide) kw_2_7 rfl (wX_c0 h cI M) rfl dX11_offIn_1 ?_
  refine lv_iload_n zhx zhb dX11_offIn_4 rfl (lv_at zhl 1 rfl) ?_
  obtain ⟨zv1, zhp, zhs⟩ := bnd_e zhs
  refine x_cVI (As := [.int a1]) (rest := []) C zhw zhl (cFridge_hasFood l D cI h a1 M zv1 zhp) (by decide) (by decide) kw_18_3 kw_18_4 kw_18_5 kw_2_6 kw_18_6 md_X3_hasFood rfl 58 (wX_c58 h cI M) rfl rfl rfl rfl (Nat.le_of_ble_eq_true rfl) dX11_offIn_5 (fun zH zlocs zhw hzv1 => ?_)
  refine lv_if_eq (tgt := 25) zhx zhb dX11_offIn_8 (by decide) (fun zc9 => ?_) (fun zc9 => ?_)
  · replace zhs := br_T zhs zc9
    refine lv_iconst (v := (-1)) zhx zhb dX11_offIn_25 (by decide) ?_
    cases zhs
    exact zhret _ _ _ _ dX11_offIn_26 (by rfl) zhw
  · replace zhs := br_F zhs zc9
    refine lv_aload_n zhx zhb dX11_offIn_11 rfl (lv_at zhl 0 rfl) ?_
    refine x_get C zhw inlX11 rfl 0 2 (by decide) kw_1_21 rfl (wX_c0 h cI M) rfl dX11_offIn_12 ?_
    refine x_getN C zhw inlX10 rfl 22 0 (by decide) (List.mem_of_getElem? (i := 16) rfl) rfl (wX_c22 h cI M) rfl dX11_offIn_15 ?_
    refine lv_iload_n zhx zhb dX11_offIn_18 rfl (lv_at zhl 2 rfl) ?_
    obtain ⟨zv2, zhp, zhs⟩ := bnd_e zhs
    refine x_cVI (As := [.int a2]) (rest := []) C zhw zhl (cCells_has_l l D cI h a2 M zv2 zhp) (by decide) (by decide) kw_20_16 kw_14_5 kw_14_6 kw_3_11 kw_14_7 md_X0_has rfl 23 (wX_c23 h cI M) rfl rfl rfl rfl (Nat.le_of_ble_eq_true rfl) dX11_offIn_19 (fun zH zlocs zhw hzv2 => ?_)
    refine lv_if_ne (tgt := 27) zhx zhb dX11_offIn_22 (by decide) (fun zc9 => ?_) (fun zc9 => ?_)
    · replace zhs := br_F zhs zc9
      refine lv_aload_n zhx zhb dX11_offIn_27 rfl (lv_at zhl 0 rfl) ?_
      refine x_get C zhw inlX11 rfl 0 3 (by decide) kw_2_1 rfl (wX_c0 h cI M) rfl dX11_offIn_28 ?_
      refine lv_iload_n zhx zhb dX11_offIn_31 rfl (lv_at zhl 1 rfl) ?_
      obtain ⟨zv3, zhp, zhs⟩ := bnd_e zhs
      refine x_cVI (As := [.int a1]) (rest := []) C zhw zhl (cStock_isThere l D cI h a1 M zv3 zhp) (by decide) (by decide) kw_24_6 kw_22_2 kw_22_3 kw_2_0 kw_22_4 md_X8_isThere rfl 40 (wX_c40 h cI M) rfl rfl rfl rfl (Nat.le_of_ble_eq_true rfl) dX11_offIn_32 (fun zH zlocs zhw hzv3 => ?_)
      refine lv_if_eq (tgt := 50) zhx zhb dX11_offIn_35 (by decide) (fun zc9 => ?_) (fun zc9 => ?_)
      · replace zhs := br_T zhs zc9
        refine lv_bipush (v := (-2)) zhx zhb dX11_offIn_50 (by decide) ?_
        cases zhs
        exact zhret _ _ _ _ dX11_offIn_52 (by rfl) zhw
      · replace zhs := br_F zhs zc9
        refine lv_aload_n zhx zhb dX11_offIn_38 rfl (lv_at zhl 0 rfl) ?_
        refine x_get C zhw inlX11 rfl 0 7 (by decide) kw_2_7 rfl (wX_c0 h cI M) rfl dX11_offIn_39 ?_
        refine lv_iload_n zhx zhb dX11_offIn_42 rfl (lv_at zhl 1 rfl) ?_
        refine lv_iload_n zhx zhb dX11_offIn_43 rfl (lv_at zhl 2 rfl) ?_
        obtain ⟨zv5, zhp, zhs⟩ := bnd_e zhs
        refine x_cVI (As := [.int a1, .int a2]) (rest := []) C zhw zhl (cFridge_hoursTillOff l D cI h N a1 a2 M zv5 zhp) (by decide) (by decide) kw_27_0 kw_27_1 kw_27_2 kw_2_6 kw_27_3 md_X3_hoursTillOff rfl 58 (wX_c58 h cI M) rfl rfl rfl rfl (Nat.le_of_ble_eq_true rfl) dX11_offIn_44 (fun zH zlocs zhw hn9 => ?_)
        refine lv_goto (tgt := 52) zhx zhb dX11_offIn_47 (by decide) ?_
        cases zhs
        exact zhret _ _ _ _ dX11_offIn_52 (by rfl) zhw
    · replace zhs := br_T zhs zc9
      refine lv_iconst (v := (-1)) zhx zhb dX11_offIn_25 (by decide) ?_
      cases zhs
      exact zhret _ _ _ _ dX11_offIn_26 (by rfl) zhw

-- OffFirst$Foods.coinOf in (27, ())
def sFoods_coinOf_l (a1 : Int32) (M : Mm) : Option Int32 :=
  some (atf 10 (M 30) a1)
set_option maxHeartbeats 4000000 in
set_option maxRecDepth 100000 in
theorem cFoods_coinOf_l (l : Launch) (D : va_G) (cI : ClassId) (h : Nat → Nat) (a1 : Int32) (M : Mm) (r : Int32) (zhs : sFoods_coinOf_l a1 M = some r) : CtI l yX2_coinOf cX2_coinOf 2 (some .int) 2 D cI (wX h cI M) (wX h cI M) [.ref (h 27), .int a1] r := by
  unfold sFoods_coinOf_l at zhs
  refine CtI_of (by decide +kernel) (Nat.le_of_ble_eq_true rfl) ⟨_, rfl⟩ ?_
  intro p e s m args below meth c A Q zls zH zlocs C zhw zhl zhret
  have zhx := C.1
  have zhb := C.2.1
  have zhown := C.2.2.2.2.1
  have zhtB := C.2.2.2.2.2.2.1
  have zhl : lv_has zls 2 [(0, .ref (h 27)), (1, .int a1)] := zhl
  refine lv_aload_n zhx zhb dX2_coinOf_0 rfl (lv_at zhl 0 rfl) ?_
  refine x_get C zhw inlX2 rfl 27 2 (by decide) kw_4_11 rfl (wX_c27 h cI M) rfl dX2_coinOf_1 ?_
  refine lv_iload_n zhx zhb dX2_coinOf_4 rfl (lv_at zhl 1 rfl) ?_
  refine x_cSNI (As := [.ref (h 30), .int a1]) (rest := []) C zhw zhl (c_at l D cI (wX h cI M) 30 10 (h 30) (M 30) (wX_c30 h cI M) (by decide) a1) (by decide) (by decide) (List.mem_of_getElem? (i := 9) rfl) kw_7_7 kw_1_2 kw_7_8 md_X11_at rfl rfl (Nat.le_of_ble_eq_true rfl) dX2_coinOf_5 (fun zH zlocs zhw hn9 => ?_)
  cases zhs
  exact zhret _ _ _ _ dX2_coinOf_8 (by rfl) zhw

-- OffFirst$Fridge.coinLostAs in (58, ())
def sFridge_coinLostAs (N : Nat) (a1 : Int32) (a2 : Int32) (a3 : Int32) (a4 : Int32) (M : Mm) : Option Int32 :=
  (sFridge_ageAs N a1 a2 a3 a4 M).bind fun zv1 =>
  (sFoods_limitAs_l a1 a2 M).bind fun zv2 =>
  (if zv1 < zv2 then some 0
  else (sFoods_coinOf_l a1 M).bind fun zv4 =>
  some zv4)
set_option maxHeartbeats 4000000 in
set_option maxRecDepth 100000 in
theorem cFridge_coinLostAs (l : Launch) (D : va_G) (cI : ClassId) (h : Nat → Nat) (N : Nat) (a1 : Int32) (a2 : Int32) (a3 : Int32) (a4 : Int32) (M : Mm) (r : Int32) (zhs : sFridge_coinLostAs N a1 a2 a3 a4 M = some r) : CtI l yX3_coinLostAs cX3_coinLostAs 5 (some .int) 4 D cI (wX h cI M) (wX h cI M) [.ref (h 58), .int a1, .int a2, .int a3, .int a4] r := by
  unfold sFridge_coinLostAs at zhs
  refine CtI_of (by decide +kernel) (Nat.le_of_ble_eq_true rfl) ⟨_, rfl⟩ ?_
  intro p e s m args below meth c A Q zls zH zlocs C zhw zhl zhret
  have zhx := C.1
  have zhb := C.2.1
  have zhown := C.2.2.2.2.1
  have zhtB := C.2.2.2.2.2.2.1
  have zhl : lv_has zls 5 [(0, .ref (h 58)), (1, .int a1), (2, .int a2), (3, .int a3), (4, .int a4)] := zhl
  refine lv_aload_n zhx zhb dX3_coinLostAs_0 rfl (lv_at zhl 0 rfl) ?_
  refine lv_iload_n zhx zhb dX3_coinLostAs_1 rfl (lv_at zhl 1 rfl) ?_
  refine lv_iload_n zhx zhb dX3_coinLostAs_2 rfl (lv_at zhl 2 rfl) ?_
  refine lv_iload_n zhx zhb dX3_coinLostAs_3 rfl (lv_at zhl 3 rfl) ?_
  refine lv_iload zhx zhb dX3_coinLostAs_4 (lv_at zhl 4 rfl) ?_
  obtain ⟨zv1, zhp, zhs⟩ := bnd_e zhs
  refine x_cVI (As := [.int a1, .int a2, .int a3, .int a4]) (rest := []) C zhw zhl (cFridge_ageAs l D cI h N a1 a2 a3 a4 M zv1 zhp) (by decide) (by decide) kw_22_10 kw_22_11 kw_22_12 kw_2_6 kw_22_13 md_X3_ageAs rfl 58 (wX_c58 h cI M) rfl rfl rfl rfl (Nat.le_of_ble_eq_true rfl) dX3_coinLostAs_6 (fun zH zlocs zhw hn9 => ?_)
  refine lv_aload_n zhx zhb dX3_coinLostAs_9 rfl (lv_at zhl 0 rfl) ?_
  refine x_get C zhw inlX3 rfl 58 0 (by decide) kw_5_11 rfl (wX_c58 h cI M) rfl dX3_coinLostAs_10 ?_
  refine x_getN C zhw inlX10 rfl 22 1 (by decide) (List.mem_of_getElem? (i := 20) rfl) rfl (wX_c22 h cI M) rfl dX3_coinLostAs_13 ?_
  refine lv_iload_n zhx zhb dX3_coinLostAs_16 rfl (lv_at zhl 1 rfl) ?_
  refine lv_iload_n zhx zhb dX3_coinLostAs_17 rfl (lv_at zhl 2 rfl) ?_
  obtain ⟨zv2, zhp, zhs⟩ := bnd_e zhs
  refine x_cVI (As := [.int a1, .int a2]) (rest := [.int zv1]) C zhw zhl (cFoods_limitAs_l l D cI h a1 a2 M zv2 zhp) (by decide) (by decide) kw_19_0 kw_19_1 kw_19_2 kw_3_15 kw_19_3 md_X2_limitAs rfl 27 (wX_c27 h cI M) rfl rfl rfl rfl (Nat.le_of_ble_eq_true rfl) dX3_coinLostAs_18 (fun zH zlocs zhw hn9 => ?_)
  refine lv_icmp_lt (tgt := 38) zhx zhb dX3_coinLostAs_21 (by decide) (fun zc9 => ?_) (fun zc9 => ?_)
  · replace zhs := br_T zhs zc9
    refine lv_iconst (v := 0) zhx zhb dX3_coinLostAs_38 (by decide) ?_
    cases zhs
    exact zhret _ _ _ _ dX3_coinLostAs_39 (by rfl) zhw
  · replace zhs := br_F zhs zc9
    refine lv_aload_n zhx zhb dX3_coinLostAs_24 rfl (lv_at zhl 0 rfl) ?_
    refine x_get C zhw inlX3 rfl 58 0 (by decide) kw_5_11 rfl (wX_c58 h cI M) rfl dX3_coinLostAs_25 ?_
    refine x_getN C zhw inlX10 rfl 22 1 (by decide) (List.mem_of_getElem? (i := 20) rfl) rfl (wX_c22 h cI M) rfl dX3_coinLostAs_28 ?_
    refine lv_iload_n zhx zhb dX3_coinLostAs_31 rfl (lv_at zhl 1 rfl) ?_
    obtain ⟨zv4, zhp, zhs⟩ := bnd_e zhs
    refine x_cVI (As := [.int a1]) (rest := []) C zhw zhl (cFoods_coinOf_l l D cI h a1 M zv4 zhp) (by decide) (by decide) kw_27_21 kw_27_22 kw_27_23 kw_3_15 kw_28_0 md_X2_coinOf rfl 27 (wX_c27 h cI M) rfl rfl rfl rfl (Nat.le_of_ble_eq_true rfl) dX3_coinLostAs_32 (fun zH zlocs zhw hn9 => ?_)
    refine lv_goto (tgt := 39) zhx zhb dX3_coinLostAs_35 (by decide) ?_
    cases zhs
    exact zhret _ _ _ _ dX3_coinLostAs_39 (by rfl) zhw

-- OffFirst$Fridge.lostBehind in (58, ())
def LFridge_lostBehind_4_25 (N : Nat) (a1 : Int32) (M : Mm) (zx1 : Int32) (zx2 : Int32) : Option ((Int32 × Int32) ⊕ ((Int32))) :=
  (if (M 27 7) ≤ zx2 then some (.inr zx1)
  else (sStock_isThere zx2 M).bind fun zv14 =>
  (if zv14 = 0 then ltI (zx2 + 1) fun zv19 =>
  some (.inl (zx1, zv19))
  else (sStock_kindOf zx2 M).bind fun zv20 =>
  (sStock_cellOf zx2 M).bind fun zv21 =>
  (sFridge_coinLostAs N zx2 zv20 zv21 a1 M).bind fun zv22 =>
  ltI (zx1 + zv22) fun zv23 =>
  ltI (zx2 + 1) fun zv24 =>
  some (.inl (zv23, zv24))))
def sFridge_lostBehind (N : Nat) (a1 : Int32) (M : Mm) : Option Int32 :=
  (itr (fun z : Int32 × Int32 => LFridge_lostBehind_4_25 N a1 M z.1 z.2) N (0, 0)).bind fun zv26 =>
  some zv26
set_option maxHeartbeats 4000000 in
set_option maxRecDepth 100000 in
theorem cFridge_lostBehind (l : Launch) (D : va_G) (cI : ClassId) (h : Nat → Nat) (N : Nat) (a1 : Int32) (M : Mm) (r : Int32) (zhs : sFridge_lostBehind N a1 M = some r) : CtI l yX3_lostBehind cX3_lostBehind 4 (some .int) 5 D cI (wX h cI M) (wX h cI M) [.ref (h 58), .int a1] r := by
  unfold sFridge_lostBehind at zhs
  refine CtI_of (by decide +kernel) (Nat.le_of_ble_eq_true rfl) ⟨_, rfl⟩ ?_
  intro p e s m args below meth c A Q zls zH zlocs C zhw zhl zhret
  have zhx := C.1
  have zhb := C.2.1
  have zhown := C.2.2.2.2.1
  have zhtB := C.2.2.2.2.2.2.1
  have zhl : lv_has zls 4 [(0, .ref (h 58)), (1, .int a1)] := zhl
  refine lv_iconst (v := 0) zhx zhb dX3_lostBehind_0 (by decide) ?_
  refine lv_istore_n (lv' := [(2, .int 0), (0, .ref (h 58)), (1, .int a1)]) zhx zhb dX3_lostBehind_1 rfl zhl (by decide) rfl (fun zls zhl => ?_)
  refine lv_iconst (v := 0) zhx zhb dX3_lostBehind_2 (by decide) ?_
  refine lv_istore_n (lv' := [(3, .int 0), (2, .int 0), (0, .ref (h 58)), (1, .int a1)]) zhx zhb dX3_lostBehind_3 rfl zhl (by decide) rfl (fun zls zhl => ?_)
  obtain ⟨zq25, zhq25, zhs⟩ := bnd_e zhs
  have hloop25 : ∀ (zn : Nat) (zx1 : Int32) (zx2 : Int32) (zq : (Int32)), itr (fun z : Int32 × Int32 => LFridge_lostBehind_4_25 N a1 M z.1 z.2) zn (zx1, zx2) = some zq → (∀ (zy1 : Int32), zy1 = zq → ∀ (zH : Heap) (zlocs : List Loc) (zls : Array Slot), lv_has zls 4 [(2, .int zy1)] → Hw D (wX h cI M) A s.heap zH zlocs → W p l e (RM 5) s m args below meth c zH zlocs 0 0 Q (F0 m 60 zls [])) → ∀ (zH : Heap) (zlocs : List Loc) (zls : Array Slot), lv_has zls 4 [(3, .int zx2), (2, .int zx1), (0, .ref (h 58)), (1, .int a1)] → Hw D (wX h cI M) A s.heap zH zlocs → W p l e (RM 5) s m args below meth c zH zlocs 0 0 Q (F0 m 4 zls []) := by
    intro zn
    induction zn with
    | zero => intro zx1 zx2 zq zhq; exact absurd zhq (fun h9 => itr_0 h9)
    | succ zn zih =>
        intro zx1 zx2 zq zhq k4_60 zH zlocs zls zhl zhw
        obtain ⟨zy9, zhs, zhq⟩ := itr_s zhq
        replace zhs : LFridge_lostBehind_4_25 N a1 M zx1 zx2 = some zy9 := zhs
        unfold LFridge_lostBehind_4_25 at zhs
        refine lv_iload_n zhx zhb dX3_lostBehind_4 rfl (lv_at zhl 0 rfl) ?_
        refine lv_aload_n zhx zhb dX3_lostBehind_5 rfl (lv_at zhl 2 rfl) ?_
        refine x_get C zhw inlX3 rfl 58 0 (by decide) kw_5_11 rfl (wX_c58 h cI M) rfl dX3_lostBehind_6 ?_
        refine x_getN C zhw inlX10 rfl 22 1 (by decide) (List.mem_of_getElem? (i := 20) rfl) rfl (wX_c22 h cI M) rfl dX3_lostBehind_9 ?_
        refine x_getN C zhw inlX2 rfl 27 7 (by decide) (List.mem_of_getElem? (i := 8) rfl) rfl (wX_c27 h cI M) rfl dX3_lostBehind_12 ?_
        refine lv_icmp_ge (tgt := 60) zhx zhb dX3_lostBehind_15 (by decide) (fun zc9 => ?_) (fun zc9 => ?_)
        · replace zhs := br_T zhs zc9
          cases zhs
          exact k4_60 zx1 (itk_q zhq) zH zlocs zls (lv_sub zhl [1] rfl) zhw
        · replace zhs := br_F zhs zc9
          refine lv_aload_n zhx zhb dX3_lostBehind_18 rfl (lv_at zhl 2 rfl) ?_
          refine x_get C zhw inlX3 rfl 58 1 (by decide) kw_5_12 rfl (wX_c58 h cI M) rfl dX3_lostBehind_19 ?_
          refine lv_iload_n zhx zhb dX3_lostBehind_22 rfl (lv_at zhl 0 rfl) ?_
          obtain ⟨zv14, zhp, zhs⟩ := bnd_e zhs
          refine x_cVI (As := [.int zx2]) (rest := []) C zhw zhl (cStock_isThere l D cI h zx2 M zv14 zhp) (by decide) (by decide) kw_22_1 kw_22_2 kw_22_3 kw_2_0 kw_22_4 md_X8_isThere rfl 40 (wX_c40 h cI M) rfl rfl rfl rfl (Nat.le_of_ble_eq_true rfl) dX3_lostBehind_23 (fun zH zlocs zhw hzv14 => ?_)
          refine lv_if_eq (tgt := 54) zhx zhb dX3_lostBehind_26 (by decide) (fun zc9 => ?_) (fun zc9 => ?_)
          · replace zhs := br_T zhs zc9
            obtain ⟨zv19, ze9, zhs⟩ := ltI_e zhs
            refine lv_iinc (v := zv19) (lv' := [(3, .int zv19), (2, .int zx1), (0, .ref (h 58)), (1, .int a1)]) zhx zhb dX3_lostBehind_54 zhl (k := 0) rfl (by rw [ze9]; rfl) (by decide) rfl (fun zls zhl => ?_)
            clear ze9
            refine lv_goto (tgt := 4) zhx zhb dX3_lostBehind_57 (by decide) ?_
            cases zhs
            exact zih zx1 zv19 zq (itk_l zhq) k4_60 zH zlocs zls zhl zhw
          · replace zhs := br_F zhs zc9
            refine lv_iload_n zhx zhb dX3_lostBehind_29 rfl (lv_at zhl 1 rfl) ?_
            refine lv_aload_n zhx zhb dX3_lostBehind_30 rfl (lv_at zhl 2 rfl) ?_
            refine lv_iload_n zhx zhb dX3_lostBehind_31 rfl (lv_at zhl 0 rfl) ?_
            refine lv_aload_n zhx zhb dX3_lostBehind_32 rfl (lv_at zhl 2 rfl) ?_
            refine x_get C zhw inlX3 rfl 58 1 (by decide) kw_5_12 rfl (wX_c58 h cI M) rfl dX3_lostBehind_33 ?_
            refine lv_iload_n zhx zhb dX3_lostBehind_36 rfl (lv_at zhl 0 rfl) ?_
            obtain ⟨zv20, zhp, zhs⟩ := bnd_e zhs
            refine x_cVI (As := [.int zx2]) (rest := [.int zx2, .ref (h 58), .int zx1]) C zhw zhl (cStock_kindOf l D cI h zx2 M zv20 zhp) (by decide) (by decide) kw_18_23 kw_18_8 kw_18_9 kw_2_0 kw_18_10 md_X8_kindOf rfl 40 (wX_c40 h cI M) rfl rfl rfl rfl (Nat.le_of_ble_eq_true rfl) dX3_lostBehind_37 (fun zH zlocs zhw hn9 => ?_)
            refine lv_aload_n zhx zhb dX3_lostBehind_40 rfl (lv_at zhl 2 rfl) ?_
            refine x_get C zhw inlX3 rfl 58 1 (by decide) kw_5_12 rfl (wX_c58 h cI M) rfl dX3_lostBehind_41 ?_
            refine lv_iload_n zhx zhb dX3_lostBehind_44 rfl (lv_at zhl 0 rfl) ?_
            obtain ⟨zv21, zhp, zhs⟩ := bnd_e zhs
            refine x_cVI (As := [.int zx2]) (rest := [.int zv20, .int zx2, .ref (h 58), .int zx1]) C zhw zhl (cStock_cellOf l D cI h zx2 M zv21 zhp) (by decide) (by decide) kw_22_9 kw_18_12 kw_18_13 kw_2_0 kw_18_14 md_X8_cellOf rfl 40 (wX_c40 h cI M) rfl rfl rfl rfl (Nat.le_of_ble_eq_true rfl) dX3_lostBehind_45 (fun zH zlocs zhw hn9 => ?_)
            refine lv_iload_n zhx zhb dX3_lostBehind_48 rfl (lv_at zhl 3 rfl) ?_
            obtain ⟨zv22, zhp, zhs⟩ := bnd_e zhs
            refine x_cVI (As := [.int zx2, .int zv20, .int zv21, .int a1]) (rest := [.int zx1]) C zhw zhl (cFridge_coinLostAs l D cI h N zx2 zv20 zv21 a1 M zv22 zhp) (by decide) (by decide) kw_27_17 kw_27_18 kw_27_19 kw_2_6 kw_27_20 md_X3_coinLostAs rfl 58 (wX_c58 h cI M) rfl rfl rfl rfl (Nat.le_of_ble_eq_true rfl) dX3_lostBehind_49 (fun zH zlocs zhw hn9 => ?_)
            refine lv_iadd zhx zhb dX3_lostBehind_52 ?_
            obtain ⟨zv23, ze9, zhs⟩ := ltI_e zhs
            refine lv_topi (fun zy9 ze8 => ?_)
            obtain rfl : zv23 = zy9 := ze9.trans ze8.symm
            clear ze9 ze8
            refine lv_istore_n (lv' := [(2, .int zv23), (3, .int zx2), (0, .ref (h 58)), (1, .int a1)]) zhx zhb dX3_lostBehind_53 rfl zhl (by decide) rfl (fun zls zhl => ?_)
            obtain ⟨zv24, ze9, zhs⟩ := ltI_e zhs
            refine lv_iinc (v := zv24) (lv' := [(3, .int zv24), (2, .int zv23), (0, .ref (h 58)), (1, .int a1)]) zhx zhb dX3_lostBehind_54 zhl (k := 1) rfl (by rw [ze9]; rfl) (by decide) rfl (fun zls zhl => ?_)
            clear ze9
            refine lv_goto (tgt := 4) zhx zhb dX3_lostBehind_57 (by decide) ?_
            cases zhs
            exact zih zv23 zv24 zq (itk_l zhq) k4_60 zH zlocs zls zhl zhw
  refine hloop25 N 0 0 zq25 zhq25 (fun zv26 zhqe zH zlocs zls zhl zhw => ?_) zH zlocs zls zhl zhw
  · subst zhqe
    refine lv_iload_n zhx zhb dX3_lostBehind_60 rfl (lv_at zhl 0 rfl) ?_
    cases zhs
    exact zhret _ _ _ _ dX3_lostBehind_61 (by rfl) zhw

-- OffFirst.lost in (0, ())
def sOff_lost (N : Nat) (a1 : Int32) (M : Mm) : Option Int32 :=
  (sOff_isWithin a1 0 500).bind fun zv1 =>
  (if zv1 = 0 then some (-1)
  else (sFridge_lostBehind N a1 M).bind fun zv3 =>
  some zv3)
set_option maxHeartbeats 4000000 in
set_option maxRecDepth 100000 in
theorem cOff_lost (l : Launch) (D : va_G) (cI : ClassId) (h : Nat → Nat) (N : Nat) (a1 : Int32) (M : Mm) (r : Int32) (zhs : sOff_lost N a1 M = some r) : CtI l yX11_lost cX11_lost 2 (some .int) 6 D cI (wX h cI M) (wX h cI M) [.ref (h 0), .int a1] r := by
  unfold sOff_lost at zhs
  refine CtI_of (by decide +kernel) (Nat.le_of_ble_eq_true rfl) ⟨_, rfl⟩ ?_
  intro p e s m args below meth c A Q zls zH zlocs C zhw zhl zhret
  have zhx := C.1
  have zhb := C.2.1
  have zhown := C.2.2.2.2.1
  have zhtB := C.2.2.2.2.2.2.1
  have zhl : lv_has zls 2 [(0, .ref (h 0)), (1, .int a1)] := zhl
  refine lv_iload_n zhx zhb dX11_lost_0 rfl (lv_at zhl 1 rfl) ?_
  refine lv_iconst (v := 0) zhx zhb dX11_lost_1 (by decide) ?_
  refine lv_sipush (v := 500) zhx zhb dX11_lost_2 (by decide) ?_
  obtain ⟨zv1, zhp, zhs⟩ := bnd_e zhs
  refine x_cSI (As := [.int a1, .int 0, .int 500]) (rest := []) C zhw zhl (cOff_isWithin l D cI h a1 0 500 M zv1 zhp) (by decide) (by decide) kw_9_22 kw_9_23 kw_1_2 kw_10_0 md_X11_isWithin rfl rfl (Nat.le_of_ble_eq_true rfl) dX11_lost_5 (fun zH zlocs zhw hzv1 => ?_)
  refine lv_if_eq (tgt := 22) zhx zhb dX11_lost_8 (by decide) (fun zc9 => ?_) (fun zc9 => ?_)
  · replace zhs := br_T zhs zc9
    refine lv_iconst (v := (-1)) zhx zhb dX11_lost_22 (by decide) ?_
    cases zhs
    exact zhret _ _ _ _ dX11_lost_23 (by rfl) zhw
  · replace zhs := br_F zhs zc9
    refine lv_aload_n zhx zhb dX11_lost_11 rfl (lv_at zhl 0 rfl) ?_
    refine x_get C zhw inlX11 rfl 0 7 (by decide) kw_2_7 rfl (wX_c0 h cI M) rfl dX11_lost_12 ?_
    refine lv_iload_n zhx zhb dX11_lost_15 rfl (lv_at zhl 1 rfl) ?_
    obtain ⟨zv3, zhp, zhs⟩ := bnd_e zhs
    refine x_cVI (As := [.int a1]) (rest := []) C zhw zhl (cFridge_lostBehind l D cI h N a1 M zv3 zhp) (by decide) (by decide) kw_27_13 kw_27_14 kw_27_15 kw_2_6 kw_27_16 md_X3_lostBehind rfl 58 (wX_c58 h cI M) rfl rfl rfl rfl (Nat.le_of_ble_eq_true rfl) dX11_lost_16 (fun zH zlocs zhw hn9 => ?_)
    refine lv_goto (tgt := 23) zhx zhb dX11_lost_19 (by decide) ?_
    cases zhs
    exact zhret _ _ _ _ dX11_lost_23 (by rfl) zhw

