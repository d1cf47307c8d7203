-- OffFirst$Foods.coinOfAll in (27, ())
def LFoods_coinOfAll_l_4_13 (N : Nat) (a1 : Int32) (M : Mm) (zx1 : Int32) (zx2 : Int32) : Option ((Int32 × Int32) ⊕ ((Int32))) :=
  (if (M 27 7) ≤ zx2 then some (.inr zx1)
  else (sOff_hasBit a1 zx2).bind fun zv8 =>
  (if zv8 = 0 then ltI (zx2 + 1) fun zv10 =>
  some (.inl (zx1, zv10))
  else ltI (zx1 + (atf 10 (M 30) zx2)) fun zv11 =>
  ltI (zx2 + 1) fun zv12 =>
  some (.inl (zv11, zv12))))
def sFoods_coinOfAll_l (N : Nat) (a1 : Int32) (M : Mm) : Option Int32 :=
  (itr (fun z : Int32 × Int32 => LFoods_coinOfAll_l_4_13 N a1 M z.1 z.2) N (0, 0)).bind fun zv14 =>
  some zv14
set_option maxHeartbeats 4000000 in
set_option maxRecDepth 100000 in
theorem cFoods_coinOfAll_l (l : Launch) (D : va_G) (cI : ClassId) (h : Nat → Nat) (N : Nat) (a1 : Int32) (M : Mm) (r : Int32) (zhs : sFoods_coinOfAll_l N a1 M = some r) : CtI l yX2_coinOfAll cX2_coinOfAll 4 (some .int) 2 D cI (wX h cI M) (wX h cI M) [.ref (h 27), .int a1] r := by
  unfold sFoods_coinOfAll_l at zhs
  refine CtI_of (by decide +kernel) (Nat.le_of_ble_eq_true rfl) ⟨_, rfl⟩ ?_
  intro p e s m args below meth c A Q zls zH zlocs C zhw zhl zhret
  have zhx := C.1
  have zhb := C.2.1
  have zhown := C.2.2.2.2.1
  have zhtB := C.2.2.2.2.2.2.1
  have zhl : lv_has zls 4 [(0, .ref (h 27)), (1, .int a1)] := zhl
  refine lv_iconst (v := 0) zhx zhb dX2_coinOfAll_0 (by decide) ?_
  refine lv_istore_n (lv' := [(2, .int 0), (0, .ref (h 27)), (1, .int a1)]) zhx zhb dX2_coinOfAll_1 rfl zhl (by decide) rfl (fun zls zhl => ?_)
  refine lv_iconst (v := 0) zhx zhb dX2_coinOfAll_2 (by decide) ?_
  refine lv_istore_n (lv' := [(3, .int 0), (2, .int 0), (0, .ref (h 27)), (1, .int a1)]) zhx zhb dX2_coinOfAll_3 rfl zhl (by decide) rfl (fun zls zhl => ?_)
  obtain ⟨zq13, zhq13, zhs⟩ := bnd_e zhs
  have hloop13 : ∀ (zn : Nat) (zx1 : Int32) (zx2 : Int32) (zq : (Int32)), itr (fun z : Int32 × Int32 => LFoods_coinOfAll_l_4_13 N a1 M z.1 z.2) zn (zx1, zx2) = some zq → (∀ (zy1 : Int32), zy1 = zq → ∀ (zH : Heap) (zlocs : List Loc) (zls : Array Slot), lv_has zls 4 [(2, .int zy1)] → Hw D (wX h cI M) A s.heap zH zlocs → W p l e (RM 2) s m args below meth c zH zlocs 0 0 Q (F0 m 37 zls [])) → ∀ (zH : Heap) (zlocs : List Loc) (zls : Array Slot), lv_has zls 4 [(3, .int zx2), (2, .int zx1), (0, .ref (h 27)), (1, .int a1)] → Hw D (wX h cI M) A s.heap zH zlocs → W p l e (RM 2) s m args below meth c zH zlocs 0 0 Q (F0 m 4 zls []) := by
    intro zn
    induction zn with
    | zero => intro zx1 zx2 zq zhq; exact absurd zhq (fun h9 => itr_0 h9)
    | succ zn zih =>
        intro zx1 zx2 zq zhq k4_37 zH zlocs zls zhl zhw
        obtain ⟨zy9, zhs, zhq⟩ := itr_s zhq
        replace zhs : LFoods_coinOfAll_l_4_13 N a1 M zx1 zx2 = some zy9 := zhs
        unfold LFoods_coinOfAll_l_4_13 at zhs
        refine lv_iload_n zhx zhb dX2_coinOfAll_4 rfl (lv_at zhl 0 rfl) ?_
        refine lv_aload_n zhx zhb dX2_coinOfAll_5 rfl (lv_at zhl 2 rfl) ?_
        refine x_get C zhw inlX2 rfl 27 7 (by decide) kw_7_6 rfl (wX_c27 h cI M) rfl dX2_coinOfAll_6 ?_
        refine lv_icmp_ge (tgt := 37) zhx zhb dX2_coinOfAll_9 (by decide) (fun zc9 => ?_) (fun zc9 => ?_)
        · replace zhs := br_T zhs zc9
          cases zhs
          exact k4_37 zx1 (itk_q zhq) zH zlocs zls (lv_sub zhl [1] rfl) zhw
        · replace zhs := br_F zhs zc9
          refine lv_iload_n zhx zhb dX2_coinOfAll_12 rfl (lv_at zhl 3 rfl) ?_
          refine lv_iload_n zhx zhb dX2_coinOfAll_13 rfl (lv_at zhl 0 rfl) ?_
          obtain ⟨zv8, zhp, zhs⟩ := bnd_e zhs
          refine x_cSNI (As := [.int a1, .int zx2]) (rest := []) C zhw zhl (cOff_hasBit l D cI h a1 zx2 M zv8 zhp) (by decide) (by decide) (List.mem_of_getElem? (i := 21) rfl) kw_30_6 kw_1_2 kw_30_7 md_X11_hasBit rfl rfl (Nat.le_of_ble_eq_true rfl) dX2_coinOfAll_14 (fun zH zlocs zhw hzv8 => ?_)
          refine lv_if_eq (tgt := 31) zhx zhb dX2_coinOfAll_17 (by decide) (fun zc9 => ?_) (fun zc9 => ?_)
          · replace zhs := br_T zhs zc9
            obtain ⟨zv10, ze9, zhs⟩ := ltI_e zhs
            refine lv_iinc (v := zv10) (lv' := [(3, .int zv10), (2, .int zx1), (0, .ref (h 27)), (1, .int a1)]) zhx zhb dX2_coinOfAll_31 zhl (k := 0) rfl (by rw [ze9]; rfl) (by decide) rfl (fun zls zhl => ?_)
            clear ze9
            refine lv_goto (tgt := 4) zhx zhb dX2_coinOfAll_34 (by decide) ?_
            cases zhs
            exact zih zx1 zv10 zq (itk_l zhq) k4_37 zH zlocs zls zhl zhw
          · replace zhs := br_F zhs zc9
            refine lv_iload_n zhx zhb dX2_coinOfAll_20 rfl (lv_at zhl 1 rfl) ?_
            refine lv_aload_n zhx zhb dX2_coinOfAll_21 rfl (lv_at zhl 2 rfl) ?_
            refine x_get C zhw inlX2 rfl 27 2 (by decide) kw_4_11 rfl (wX_c27 h cI M) rfl dX2_coinOfAll_22 ?_
            refine lv_iload_n zhx zhb dX2_coinOfAll_25 rfl (lv_at zhl 0 rfl) ?_
            refine x_cSNI (As := [.ref (h 30), .int zx2]) (rest := [.int zx1]) C zhw zhl (c_at l D cI (wX h cI M) 30 10 (h 30) (M 30) (wX_c30 h cI M) (by decide) zx2) (by decide) (by decide) (List.mem_of_getElem? (i := 9) rfl) kw_7_7 kw_1_2 kw_7_8 md_X11_at rfl rfl (Nat.le_of_ble_eq_true rfl) dX2_coinOfAll_26 (fun zH zlocs zhw hn9 => ?_)
            refine lv_iadd zhx zhb dX2_coinOfAll_29 ?_
            obtain ⟨zv11, ze9, zhs⟩ := ltI_e zhs
            refine lv_topi (fun zy9 ze8 => ?_)
            obtain rfl : zv11 = zy9 := ze9.trans ze8.symm
            clear ze9 ze8
            refine lv_istore_n (lv' := [(2, .int zv11), (3, .int zx2), (0, .ref (h 27)), (1, .int a1)]) zhx zhb dX2_coinOfAll_30 rfl zhl (by decide) rfl (fun zls zhl => ?_)
            obtain ⟨zv12, ze9, zhs⟩ := ltI_e zhs
            refine lv_iinc (v := zv12) (lv' := [(3, .int zv12), (2, .int zv11), (0, .ref (h 27)), (1, .int a1)]) zhx zhb dX2_coinOfAll_31 zhl (k := 1) rfl (by rw [ze9]; rfl) (by decide) rfl (fun zls zhl => ?_)
            clear ze9
            refine lv_goto (tgt := 4) zhx zhb dX2_coinOfAll_34 (by decide) ?_
            cases zhs
            exact zih zv11 zv12 zq (itk_l zhq) k4_37 zH zlocs zls zhl zhw
  refine hloop13 N 0 0 zq13 zhq13 (fun zv14 zhqe zH zlocs zls zhl zhw => ?_) zH zlocs zls zhl zhw
  · subst zhqe
    refine lv_iload_n zhx zhb dX2_coinOfAll_37 rfl (lv_at zhl 0 rfl) ?_
    cases zhs
    exact zhret _ _ _ _ dX2_coinOfAll_38 (by rfl) zhw

-- OffFirst$Planner.settle in (63, ())
def LPlanner_settle_16_8 (N : Nat) (zx2 : Int32) (zM3 : Mm) : Option ((Int32 × Mm) ⊕ ((Mm))) :=
  (if (zM3 63 4) ≤ zx2 then some (.inr zM3)
  else ltM (putf 4 zM3 65 zx2 (atf 4 (zM3 64) zx2)) fun zM6 =>
  ltI (zx2 + 1) fun zv7 =>
  some (.inl (zv7, zM6)))
def sPlanner_settle (N : Nat) (a1 : Int32) (M : Mm) : Option Mm :=
  (if a1 < (M 63 5) then ltM (mset M 63 5 a1) fun zM1 =>
  (itr (fun z : Int32 × Mm => LPlanner_settle_16_8 N z.1 z.2) N (0, zM1)).bind fun zM9 =>
  some zM9
  else some M)
set_option maxHeartbeats 4000000 in
set_option maxRecDepth 100000 in
theorem cPlanner_settle (l : Launch) (D : va_G) (cI : ClassId) (h : Nat → Nat) (N : Nat) (a1 : Int32) (M : Mm) (M' : Mm) (zhs : sPlanner_settle N a1 M = some M') : CtV l yX6_settle cX6_settle 3 2 D cI (wX h cI M) (wX h cI M') [.ref (h 63), .int a1] := by
  unfold sPlanner_settle at zhs
  refine CtV_of (by decide +kernel) (Nat.le_of_ble_eq_true rfl) ?_
  intro p e s m args below meth c A Q zls zH zlocs C zhw zhl zhret
  have zhx := C.1
  have zhb := C.2.1
  have zhown := C.2.2.2.2.1
  have zhtB := C.2.2.2.2.2.2.1
  have zhl : lv_has zls 3 [(0, .ref (h 63)), (1, .int a1)] := zhl
  refine lv_iload_n zhx zhb dX6_settle_0 rfl (lv_at zhl 1 rfl) ?_
  refine lv_aload_n zhx zhb dX6_settle_1 rfl (lv_at zhl 0 rfl) ?_
  refine x_get C zhw inlX6 rfl 63 5 (by decide) kw_29_7 rfl (wX_c63 h cI M) rfl dX6_settle_2 ?_
  refine lv_icmp_lt (tgt := 9) zhx zhb dX6_settle_5 (by decide) (fun zc9 => ?_) (fun zc9 => ?_)
  · replace zhs := br_T zhs zc9
    refine lv_aload_n zhx zhb dX6_settle_9 rfl (lv_at zhl 0 rfl) ?_
    refine lv_iload_n zhx zhb dX6_settle_10 rfl (lv_at zhl 1 rfl) ?_
    refine x_put C zhw inlX6 rfl tyX6_ok nmX6 63 5 (by decide) kw_29_7 rfl rfl rfl (wX_c63 h cI M) (Nat.le_of_ble_eq_true rfl) (wX_s63_5 h cI M _) dX6_settle_11 (fun zH zlocs zhw => ?_)
    obtain ⟨zM1, ze9, zhs⟩ := ltM_e zhs
    rw [← ze9] at zhw; clear ze9
    refine lv_iconst (v := 0) zhx zhb dX6_settle_14 (by decide) ?_
    refine lv_istore_n (lv' := [(2, .int 0), (0, .ref (h 63)), (1, .int a1)]) zhx zhb dX6_settle_15 rfl zhl (by decide) rfl (fun zls zhl => ?_)
    obtain ⟨zq8, zhq8, zhs⟩ := bnd_e zhs
    have hloop8 : ∀ (zn : Nat) (zx2 : Int32) (zM3 : Mm) (zq : (Mm)), itr (fun z : Int32 × Mm => LPlanner_settle_16_8 N z.1 z.2) zn (zx2, zM3) = some zq → (∀ (zy1 : Mm), zy1 = zq → ∀ (zH : Heap) (zlocs : List Loc) (zls : Array Slot), lv_has zls 3 [] → Hw D (wX h cI zy1) A s.heap zH zlocs → W p l e (RM 2) s m args below meth c zH zlocs 0 0 Q (F0 m 46 zls [])) → ∀ (zH : Heap) (zlocs : List Loc) (zls : Array Slot), lv_has zls 3 [(2, .int zx2), (0, .ref (h 63))] → Hw D (wX h cI zM3) A s.heap zH zlocs → W p l e (RM 2) s m args below meth c zH zlocs 0 0 Q (F0 m 16 zls []) := by
      intro zn
      induction zn with
      | zero => intro zx2 zM3 zq zhq; exact absurd zhq (fun h9 => itr_0 h9)
      | succ zn zih =>
          intro zx2 zM3 zq zhq k16_46 zH zlocs zls zhl zhw
          obtain ⟨zy9, zhs, zhq⟩ := itr_s zhq
          replace zhs : LPlanner_settle_16_8 N zx2 zM3 = some zy9 := zhs
          unfold LPlanner_settle_16_8 at zhs
          refine lv_iload_n zhx zhb dX6_settle_16 rfl (lv_at zhl 0 rfl) ?_
          refine lv_aload_n zhx zhb dX6_settle_17 rfl (lv_at zhl 1 rfl) ?_
          refine x_get C zhw inlX6 rfl 63 4 (by decide) kw_29_5 rfl (wX_c63 h cI zM3) rfl dX6_settle_18 ?_
          refine lv_icmp_ge (tgt := 46) zhx zhb dX6_settle_21 (by decide) (fun zc9 => ?_) (fun zc9 => ?_)
          · replace zhs := br_T zhs zc9
            cases zhs
            exact k16_46 zM3 (itk_q zhq) zH zlocs zls (lv_sub zhl [] rfl) zhw
          · replace zhs := br_F zhs zc9
            refine lv_aload_n zhx zhb dX6_settle_24 rfl (lv_at zhl 1 rfl) ?_
            refine x_get C zhw inlX6 rfl 63 3 (by decide) kw_6_2 rfl (wX_c63 h cI zM3) rfl dX6_settle_25 ?_
            refine lv_iload_n zhx zhb dX6_settle_28 rfl (lv_at zhl 0 rfl) ?_
            refine lv_aload_n zhx zhb dX6_settle_29 rfl (lv_at zhl 1 rfl) ?_
            refine x_get C zhw inlX6 rfl 63 2 (by decide) kw_6_1 rfl (wX_c63 h cI zM3) rfl dX6_settle_30 ?_
            refine lv_iload_n zhx zhb dX6_settle_33 rfl (lv_at zhl 0 rfl) ?_
            refine x_cSNI (As := [.ref (h 64), .int zx2]) (rest := [.int zx2, .ref (h 65)]) C zhw zhl (c_at l D cI (wX h cI zM3) 64 4 (h 64) (zM3 64) (wX_c64 h cI zM3) (by decide) zx2) (by decide) (by decide) (List.mem_of_getElem? (i := 22) rfl) kw_7_7 kw_1_2 kw_7_8 md_X11_at rfl rfl (Nat.le_of_ble_eq_true rfl) dX6_settle_34 (fun zH zlocs zhw hn9 => ?_)
            refine x_cSNV (As := [.ref (h 65), .int zx2, .int (atf 4 (zM3 64) zx2)]) (rest := []) C zhw zhl (c_put l D cI (wX h cI) zM3 65 4 (h 65) (wX_c65 h cI zM3) (fun j v => wX_a65 h cI zM3 j v) (by decide) zx2 (atf 4 (zM3 64) zx2)) (by decide) (by decide) (List.mem_of_getElem? (i := 23) rfl) kw_7_0 kw_1_2 kw_7_1 md_X11_put rfl rfl (Nat.le_of_ble_eq_true rfl) dX6_settle_37 (fun zH zlocs zhw => ?_)
            obtain ⟨zM6, ze9, zhs⟩ := ltM_e zhs
            rw [← ze9] at zhw; clear ze9
            obtain ⟨zv7, ze9, zhs⟩ := ltI_e zhs
            refine lv_iinc (v := zv7) (lv' := [(2, .int zv7), (0, .ref (h 63))]) zhx zhb dX6_settle_40 zhl (k := 0) rfl (by rw [ze9]; rfl) (by decide) rfl (fun zls zhl => ?_)
            clear ze9
            refine lv_goto (tgt := 16) zhx zhb dX6_settle_43 (by decide) ?_
            cases zhs
            exact zih zv7 zM6 zq (itk_l zhq) k16_46 zH zlocs zls zhl zhw
    refine hloop8 N 0 zM1 zq8 zhq8 (fun zM9 zhqe zH zlocs zls zhl zhw => ?_) zH zlocs zls (lv_sub zhl [0, 1] rfl) zhw
    · subst zhqe
      cases zhs
      exact zhret _ _ _ _ dX6_settle_46 zhw
  · replace zhs := br_F zhs zc9
    cases zhs
    exact zhret _ _ _ _ dX6_settle_8 zhw

-- OffFirst$Planner.tryEvening in (63, ())
def LPlanner_tryEvening_89_26 (N : Nat) (a1 : Int32) (a2 : Int32) (a3 : Int32) (rec : Int32 → Int32 → Int32 → Mm → Option Mm) (zx4 : Int32) (zM5 : Mm) : Option ((Int32 × Mm) ⊕ ((Mm))) :=
  (if (zM5 22 3) ≤ zx4 then some (.inr zM5)
  else (sTold_sortsOfDish_l zx4 zM5).bind fun zv16 =>
  (sPlanner_eatenOn N a1 a2 zv16 zM5).bind fun zv17 =>
  (if zv17 = 0 then ltI (zx4 + 1) fun zv21 =>
  some (.inl (zv21, zM5))
  else ltM (putf 4 zM5 64 a1 zx4) fun zM22 =>
  (sTold_hungryWith_l N zv16 zM22).bind fun zv23 =>
  (rec (a1 + 1) (a2 &&& (zv17 ^^^ (-1))) (a3 + (10 * zv23)) zM22).bind fun zM24 =>
  ltI (zx4 + 1) fun zv25 =>
  some (.inl (zv25, zM24))))
def sPlanner_tryEveningB (N : Nat) (rec : Int32 → Int32 → Int32 → Mm → Option Mm) (a1 : Int32) (a2 : Int32) (a3 : Int32) (M : Mm) : Option Mm :=
  (if a3 < (M 63 5) then (if a1 < (M 63 4) then ltM (putf 4 M 64 a1 (-4)) fun zM1 =>
  (sTold_hungryWith_l N 0 zM1).bind fun zv2 =>
  (rec (a1 + 1) a2 (a3 + (10 * zv2)) zM1).bind fun zM3 =>
  (itr (fun z : Int32 × Mm => LPlanner_tryEvening_89_26 N a1 a2 a3 rec z.1 z.2) N (0, zM3)).bind fun zM27 =>
  some zM27
  else (sEvenings_offOn ((M 63 4) - 1) M).bind fun zv28 =>
  (sFoods_coinOfAll_l N (a2 &&& zv28) M).bind fun zv29 =>
  (sPlanner_settle N (a3 + zv29) M).bind fun zM30 =>
  some zM30)
  else some M)
def sPlanner_tryEvening (N : Nat) : Nat → Int32 → Int32 → Int32 → Mm → Option Mm
  | 0 => fun _ _ _ _ => none
  | d + 1 => sPlanner_tryEveningB N (sPlanner_tryEvening N d)
set_option maxHeartbeats 4000000 in
set_option maxRecDepth 100000 in
theorem cPlanner_tryEveningB (l : Launch) (D : va_G) (cI : ClassId) (h : Nat → Nat) (N d : Nat) (rec : Int32 → Int32 → Int32 → Mm → Option Mm) (hrec : ∀ (a1 : Int32) (a2 : Int32) (a3 : Int32) (M M' : Mm), rec a1 a2 a3 M = some M' → CtV l yX6_tryEvening cX6_tryEvening 7 (5 + d) D cI (wX h cI M) (wX h cI M') [.ref (h 63), .int a1, .int a2, .int a3]) (a1 : Int32) (a2 : Int32) (a3 : Int32) (M : Mm) (M' : Mm) (zhs : sPlanner_tryEveningB N rec a1 a2 a3 M = some M') : CtV l yX6_tryEvening cX6_tryEvening 7 (5 + d + 1) D cI (wX h cI M) (wX h cI M') [.ref (h 63), .int a1, .int a2, .int a3] := by
  unfold sPlanner_tryEveningB at zhs
  refine CtV_of (by decide +kernel) (Nat.le_of_ble_eq_true rfl) ?_
  intro p e s m args below meth c A Q zls zH zlocs C zhw zhl zhret
  have zhx := C.1
  have zhb := C.2.1
  have zhown := C.2.2.2.2.1
  have zhtB := C.2.2.2.2.2.2.1
  have zhl : lv_has zls 7 [(0, .ref (h 63)), (1, .int a1), (2, .int a2), (3, .int a3)] := zhl
  refine lv_iload_n zhx zhb dX6_tryEvening_0 rfl (lv_at zhl 3 rfl) ?_
  refine lv_aload_n zhx zhb dX6_tryEvening_1 rfl (lv_at zhl 0 rfl) ?_
  refine x_get C zhw inlX6 rfl 63 5 (by decide) kw_29_7 rfl (wX_c63 h cI M) rfl dX6_tryEvening_2 ?_
  refine lv_icmp_lt (tgt := 9) zhx zhb dX6_tryEvening_5 (by decide) (fun zc9 => ?_) (fun zc9 => ?_)
  · replace zhs := br_T zhs zc9
    refine lv_iload_n zhx zhb dX6_tryEvening_9 rfl (lv_at zhl 1 rfl) ?_
    refine lv_aload_n zhx zhb dX6_tryEvening_10 rfl (lv_at zhl 0 rfl) ?_
    refine x_get C zhw inlX6 rfl 63 4 (by decide) kw_29_5 rfl (wX_c63 h cI M) rfl dX6_tryEvening_11 ?_
    refine lv_icmp_lt (tgt := 52) zhx zhb dX6_tryEvening_14 (by decide) (fun zc9 => ?_) (fun zc9 => ?_)
    · replace zhs := br_T zhs zc9
      refine lv_aload_n zhx zhb dX6_tryEvening_52 rfl (lv_at zhl 0 rfl) ?_
      refine x_get C zhw inlX6 rfl 63 2 (by decide) kw_6_1 rfl (wX_c63 h cI M) rfl dX6_tryEvening_53 ?_
      refine lv_iload_n zhx zhb dX6_tryEvening_56 rfl (lv_at zhl 1 rfl) ?_
      refine lv_bipush (v := (-4)) zhx zhb dX6_tryEvening_57 (by decide) ?_
      refine x_cSNV (As := [.ref (h 64), .int a1, .int (-4)]) (rest := []) C zhw zhl (c_put l D cI (wX h cI) M 64 4 (h 64) (wX_c64 h cI M) (fun j v => wX_a64 h cI M j v) (by decide) a1 (-4)) (by omega) (by decide) (List.mem_of_getElem? (i := 23) rfl) kw_7_0 kw_1_2 kw_7_1 md_X11_put rfl rfl (Nat.le_of_ble_eq_true rfl) dX6_tryEvening_59 (fun zH zlocs zhw => ?_)
      obtain ⟨zM1, ze9, zhs⟩ := ltM_e zhs
      rw [← ze9] at zhw; clear ze9
      refine lv_aload_n zhx zhb dX6_tryEvening_62 rfl (lv_at zhl 0 rfl) ?_
      refine lv_iload_n zhx zhb dX6_tryEvening_63 rfl (lv_at zhl 1 rfl) ?_
      refine lv_iconst (v := 1) zhx zhb dX6_tryEvening_64 (by decide) ?_
      refine lv_iadd zhx zhb dX6_tryEvening_65 ?_
      refine lv_iload_n zhx zhb dX6_tryEvening_66 rfl (lv_at zhl 2 rfl) ?_
      refine lv_iload_n zhx zhb dX6_tryEvening_67 rfl (lv_at zhl 3 rfl) ?_
      refine lv_bipush (v := 10) zhx zhb dX6_tryEvening_68 (by decide) ?_
      refine lv_aload_n zhx zhb dX6_tryEvening_70 rfl (lv_at zhl 0 rfl) ?_
      refine x_get C zhw inlX6 rfl 63 0 (by decide) kw_6_3 rfl (wX_c63 h cI zM1) rfl dX6_tryEvening_71 ?_
      refine x_getN C zhw inlX3 rfl 58 0 (by decide) (List.mem_of_getElem? (i := 34) rfl) rfl (wX_c58 h cI zM1) rfl dX6_tryEvening_74 ?_
      refine lv_iconst (v := 0) zhx zhb dX6_tryEvening_77 (by decide) ?_
      obtain ⟨zv2, zhp, zhs⟩ := bnd_e zhs
      refine x_cVI (As := [.int 0]) (rest := [.int 10, .int a3, .int a2, .int (a1 + 1), .ref (h 63)]) C zhw zhl (cTold_hungryWith_l l D cI h N 0 zM1 zv2 zhp) (by omega) (by decide) kw_30_12 kw_30_13 kw_30_14 kw_1_19 kw_30_15 md_X10_hungryWith rfl 22 (wX_c22 h cI zM1) rfl rfl rfl rfl (Nat.le_of_ble_eq_true rfl) dX6_tryEvening_78 (fun zH zlocs zhw hn9 => ?_)
      refine lv_imul zhx zhb dX6_tryEvening_81 ?_
      refine lv_iadd zhx zhb dX6_tryEvening_82 ?_
      obtain ⟨zM3, zhp, zhs⟩ := bnd_e zhs
      refine x_cVV (As := [.int (a1 + 1), .int a2, .int (a3 + (10 * zv2))]) (rest := []) C zhw zhl (hrec (a1 + 1) a2 (a3 + (10 * zv2)) zM1 zM3 zhp) (by omega) (by decide) kw_29_18 kw_29_19 kw_29_20 kw_2_14 kw_29_21 md_X6_tryEvening rfl 63 (wX_c63 h cI zM1) rfl rfl rfl rfl (Nat.le_of_ble_eq_true rfl) dX6_tryEvening_83 (fun zH zlocs zhw => ?_)
      refine lv_iconst (v := 0) zhx zhb dX6_tryEvening_86 (by decide) ?_
      refine lv_istore (lv' := [(4, .int 0), (0, .ref (h 63)), (1, .int a1), (2, .int a2), (3, .int a3)]) zhx zhb dX6_tryEvening_87 zhl (by decide) rfl (fun zls zhl => ?_)
      obtain ⟨zq26, zhq26, zhs⟩ := bnd_e zhs
      have hloop26 : ∀ (zn : Nat) (zx4 : Int32) (zM5 : Mm) (zq : (Mm)), itr (fun z : Int32 × Mm => LPlanner_tryEvening_89_26 N a1 a2 a3 rec z.1 z.2) zn (zx4, zM5) = some zq → (∀ (zy1 : Mm), zy1 = zq → ∀ (zH : Heap) (zlocs : List Loc) (zls : Array Slot), lv_has zls 7 [] → Hw D (wX h cI zy1) A s.heap zH zlocs → W p l e (RM (5 + d + 1)) s m args below meth c zH zlocs 0 0 Q (F0 m 179 zls [])) → ∀ (zH : Heap) (zlocs : List Loc) (zls : Array Slot), lv_has zls 7 [(4, .int zx4), (0, .ref (h 63)), (1, .int a1), (2, .int a2), (3, .int a3)] → Hw D (wX h cI zM5) A s.heap zH zlocs → W p l e (RM (5 + d + 1)) s m args below meth c zH zlocs 0 0 Q (F0 m 89 zls []) := by
        intro zn
        induction zn with
        | zero => intro zx4 zM5 zq zhq; exact absurd zhq (fun h9 => itr_0 h9)
        | succ zn zih =>
            intro zx4 zM5 zq zhq k89_179 zH zlocs zls zhl zhw
            obtain ⟨zy9, zhs, zhq⟩ := itr_s zhq
            replace zhs : LPlanner_tryEvening_89_26 N a1 a2 a3 rec zx4 zM5 = some zy9 := zhs
            unfold LPlanner_tryEvening_89_26 at zhs
            refine lv_iload zhx zhb dX6_tryEvening_89 (lv_at zhl 0 rfl) ?_
            refine lv_aload_n zhx zhb dX6_tryEvening_91 rfl (lv_at zhl 1 rfl) ?_
            refine x_get C zhw inlX6 rfl 63 0 (by decide) kw_6_3 rfl (wX_c63 h cI zM5) rfl dX6_tryEvening_92 ?_
            refine x_getN C zhw inlX3 rfl 58 0 (by decide) (List.mem_of_getElem? (i := 34) rfl) rfl (wX_c58 h cI zM5) rfl dX6_tryEvening_95 ?_
            refine x_getN C zhw inlX10 rfl 22 3 (by decide) (List.mem_of_getElem? (i := 24) rfl) rfl (wX_c22 h cI zM5) rfl dX6_tryEvening_98 ?_
            refine lv_icmp_ge (tgt := 179) zhx zhb dX6_tryEvening_101 (by decide) (fun zc9 => ?_) (fun zc9 => ?_)
            · replace zhs := br_T zhs zc9
              cases zhs
              exact k89_179 zM5 (itk_q zhq) zH zlocs zls (lv_sub zhl [] rfl) zhw
            · replace zhs := br_F zhs zc9
              refine lv_aload_n zhx zhb dX6_tryEvening_104 rfl (lv_at zhl 1 rfl) ?_
              refine x_get C zhw inlX6 rfl 63 0 (by decide) kw_6_3 rfl (wX_c63 h cI zM5) rfl dX6_tryEvening_105 ?_
              refine x_getN C zhw inlX3 rfl 58 0 (by decide) (List.mem_of_getElem? (i := 34) rfl) rfl (wX_c58 h cI zM5) rfl dX6_tryEvening_108 ?_
              refine lv_iload zhx zhb dX6_tryEvening_111 (lv_at zhl 0 rfl) ?_
              obtain ⟨zv16, zhp, zhs⟩ := bnd_e zhs
              refine x_cVI (As := [.int zx4]) (rest := []) C zhw zhl (cTold_sortsOfDish_l l D cI h zx4 zM5 zv16 zhp) (by omega) (by decide) kw_30_16 kw_30_17 kw_30_18 kw_1_19 kw_30_19 md_X10_sortsOfDish rfl 22 (wX_c22 h cI zM5) rfl rfl rfl rfl (Nat.le_of_ble_eq_true rfl) dX6_tryEvening_113 (fun zH zlocs zhw hn9 => ?_)
              refine lv_istore (lv' := [(5, .int zv16), (4, .int zx4), (0, .ref (h 63)), (1, .int a1), (2, .int a2), (3, .int a3)]) zhx zhb dX6_tryEvening_116 zhl (by decide) rfl (fun zls zhl => ?_)
              refine lv_aload_n zhx zhb dX6_tryEvening_118 rfl (lv_at zhl 2 rfl) ?_
              refine lv_iload_n zhx zhb dX6_tryEvening_119 rfl (lv_at zhl 3 rfl) ?_
              refine lv_iload_n zhx zhb dX6_tryEvening_120 rfl (lv_at zhl 4 rfl) ?_
              refine lv_iload zhx zhb dX6_tryEvening_121 (lv_at zhl 0 rfl) ?_
              obtain ⟨zv17, zhp, zhs⟩ := bnd_e zhs
              refine x_cVI (As := [.int a1, .int a2, .int zv16]) (rest := []) C zhw zhl (cPlanner_eatenOn l D cI h N a1 a2 zv16 zM5 zv17 zhp) (by omega) (by decide) kw_30_20 kw_30_21 kw_30_22 kw_2_14 kw_30_23 md_X6_eatenOn rfl 63 (wX_c63 h cI zM5) rfl rfl rfl rfl (Nat.le_of_ble_eq_true rfl) dX6_tryEvening_123 (fun zH zlocs zhw hn9 => ?_)
              refine lv_istore (lv' := [(6, .int zv17), (5, .int zv16), (4, .int zx4), (0, .ref (h 63)), (1, .int a1), (2, .int a2), (3, .int a3)]) zhx zhb dX6_tryEvening_126 zhl (by decide) rfl (fun zls zhl => ?_)
              refine lv_iload zhx zhb dX6_tryEvening_128 (lv_at zhl 0 rfl) ?_
              refine lv_if_eq (tgt := 173) zhx zhb dX6_tryEvening_130 (by decide) (fun zc9 => ?_) (fun zc9 => ?_)
              · replace zhs := br_T zhs zc9
                obtain ⟨zv21, ze9, zhs⟩ := ltI_e zhs
                refine lv_iinc (v := zv21) (lv' := [(4, .int zv21), (6, .int zv17), (5, .int zv16), (0, .ref (h 63)), (1, .int a1), (2, .int a2), (3, .int a3)]) zhx zhb dX6_tryEvening_173 zhl (k := 2) rfl (by rw [ze9]; rfl) (by decide) rfl (fun zls zhl => ?_)
                clear ze9
                refine lv_goto (tgt := 89) zhx zhb dX6_tryEvening_176 (by decide) ?_
                cases zhs
                exact zih zv21 zM5 zq (itk_l zhq) k89_179 zH zlocs zls (lv_sub zhl [0, 3, 4, 5, 6] rfl) zhw
              · replace zhs := br_F zhs zc9
                refine lv_aload_n zhx zhb dX6_tryEvening_133 rfl (lv_at zhl 3 rfl) ?_
                refine x_get C zhw inlX6 rfl 63 2 (by decide) kw_6_1 rfl (wX_c63 h cI zM5) rfl dX6_tryEvening_134 ?_
                refine lv_iload_n zhx zhb dX6_tryEvening_137 rfl (lv_at zhl 4 rfl) ?_
                refine lv_iload zhx zhb dX6_tryEvening_138 (lv_at zhl 2 rfl) ?_
                refine x_cSNV (As := [.ref (h 64), .int a1, .int zx4]) (rest := []) C zhw zhl (c_put l D cI (wX h cI) zM5 64 4 (h 64) (wX_c64 h cI zM5) (fun j v => wX_a64 h cI zM5 j v) (by decide) a1 zx4) (by omega) (by decide) (List.mem_of_getElem? (i := 23) rfl) kw_7_0 kw_1_2 kw_7_1 md_X11_put rfl rfl (Nat.le_of_ble_eq_true rfl) dX6_tryEvening_140 (fun zH zlocs zhw => ?_)
                obtain ⟨zM22, ze9, zhs⟩ := ltM_e zhs
                rw [← ze9] at zhw; clear ze9
                refine lv_aload_n zhx zhb dX6_tryEvening_143 rfl (lv_at zhl 3 rfl) ?_
                refine lv_iload_n zhx zhb dX6_tryEvening_144 rfl (lv_at zhl 4 rfl) ?_
                refine lv_iconst (v := 1) zhx zhb dX6_tryEvening_145 (by decide) ?_
                refine lv_iadd zhx zhb dX6_tryEvening_146 ?_
                refine lv_iload_n zhx zhb dX6_tryEvening_147 rfl (lv_at zhl 5 rfl) ?_
                refine lv_iload zhx zhb dX6_tryEvening_148 (lv_at zhl 0 rfl) ?_
                refine lv_iconst (v := (-1)) zhx zhb dX6_tryEvening_150 (by decide) ?_
                refine lv_ixor zhx zhb dX6_tryEvening_151 ?_
                refine lv_iand zhx zhb dX6_tryEvening_152 ?_
                refine lv_iload_n zhx zhb dX6_tryEvening_153 rfl (lv_at zhl 6 rfl) ?_
                refine lv_bipush (v := 10) zhx zhb dX6_tryEvening_154 (by decide) ?_
                refine lv_aload_n zhx zhb dX6_tryEvening_156 rfl (lv_at zhl 3 rfl) ?_
                refine x_get C zhw inlX6 rfl 63 0 (by decide) kw_6_3 rfl (wX_c63 h cI zM22) rfl dX6_tryEvening_157 ?_
                refine x_getN C zhw inlX3 rfl 58 0 (by decide) (List.mem_of_getElem? (i := 34) rfl) rfl (wX_c58 h cI zM22) rfl dX6_tryEvening_160 ?_
                refine lv_iload zhx zhb dX6_tryEvening_163 (lv_at zhl 1 rfl) ?_
                obtain ⟨zv23, zhp, zhs⟩ := bnd_e zhs
                refine x_cVI (As := [.int zv16]) (rest := [.int 10, .int a3, .int (a2 &&& (zv17 ^^^ (-1))), .int (a1 + 1), .ref (h 63)]) C zhw zhl (cTold_hungryWith_l l D cI h N zv16 zM22 zv23 zhp) (by omega) (by decide) kw_30_12 kw_30_13 kw_30_14 kw_1_19 kw_30_15 md_X10_hungryWith rfl 22 (wX_c22 h cI zM22) rfl rfl rfl rfl (Nat.le_of_ble_eq_true rfl) dX6_tryEvening_165 (fun zH zlocs zhw hn9 => ?_)
                refine lv_imul zhx zhb dX6_tryEvening_168 ?_
                refine lv_iadd zhx zhb dX6_tryEvening_169 ?_
                obtain ⟨zM24, zhp, zhs⟩ := bnd_e zhs
                refine x_cVV (As := [.int (a1 + 1), .int (a2 &&& (zv17 ^^^ (-1))), .int (a3 + (10 * zv23))]) (rest := []) C zhw zhl (hrec (a1 + 1) (a2 &&& (zv17 ^^^ (-1))) (a3 + (10 * zv23)) zM22 zM24 zhp) (by omega) (by decide) kw_29_18 kw_29_19 kw_29_20 kw_2_14 kw_29_21 md_X6_tryEvening rfl 63 (wX_c63 h cI zM22) rfl rfl rfl rfl (Nat.le_of_ble_eq_true rfl) dX6_tryEvening_170 (fun zH zlocs zhw => ?_)
                obtain ⟨zv25, ze9, zhs⟩ := ltI_e zhs
                refine lv_iinc (v := zv25) (lv' := [(4, .int zv25), (6, .int zv17), (5, .int zv16), (0, .ref (h 63)), (1, .int a1), (2, .int a2), (3, .int a3)]) zhx zhb dX6_tryEvening_173 zhl (k := 2) rfl (by rw [ze9]; rfl) (by decide) rfl (fun zls zhl => ?_)
                clear ze9
                refine lv_goto (tgt := 89) zhx zhb dX6_tryEvening_176 (by decide) ?_
                cases zhs
                exact zih zv25 zM24 zq (itk_l zhq) k89_179 zH zlocs zls (lv_sub zhl [0, 3, 4, 5, 6] rfl) zhw
      refine hloop26 N 0 zM3 zq26 zhq26 (fun zM27 zhqe zH zlocs zls zhl zhw => ?_) zH zlocs zls zhl zhw
      · subst zhqe
        cases zhs
        exact zhret _ _ _ _ dX6_tryEvening_179 zhw
    · replace zhs := br_F zhs zc9
      refine lv_aload_n zhx zhb dX6_tryEvening_17 rfl (lv_at zhl 0 rfl) ?_
      refine lv_iload_n zhx zhb dX6_tryEvening_18 rfl (lv_at zhl 3 rfl) ?_
      refine lv_aload_n zhx zhb dX6_tryEvening_19 rfl (lv_at zhl 0 rfl) ?_
      refine x_get C zhw inlX6 rfl 63 0 (by decide) kw_6_3 rfl (wX_c63 h cI M) rfl dX6_tryEvening_20 ?_
      refine x_getN C zhw inlX3 rfl 58 0 (by decide) (List.mem_of_getElem? (i := 34) rfl) rfl (wX_c58 h cI M) rfl dX6_tryEvening_23 ?_
      refine x_getN C zhw inlX10 rfl 22 1 (by decide) (List.mem_of_getElem? (i := 23) rfl) rfl (wX_c22 h cI M) rfl dX6_tryEvening_26 ?_
      refine lv_iload_n zhx zhb dX6_tryEvening_29 rfl (lv_at zhl 2 rfl) ?_
      refine lv_aload_n zhx zhb dX6_tryEvening_30 rfl (lv_at zhl 0 rfl) ?_
      refine x_get C zhw inlX6 rfl 63 1 (by decide) kw_6_4 rfl (wX_c63 h cI M) rfl dX6_tryEvening_31 ?_
      refine lv_aload_n zhx zhb dX6_tryEvening_34 rfl (lv_at zhl 0 rfl) ?_
      refine x_get C zhw inlX6 rfl 63 4 (by decide) kw_29_5 rfl (wX_c63 h cI M) rfl dX6_tryEvening_35 ?_
      refine lv_iconst (v := 1) zhx zhb dX6_tryEvening_38 (by decide) ?_
      refine lv_isub zhx zhb dX6_tryEvening_39 ?_
      obtain ⟨zv28, zhp, zhs⟩ := bnd_e zhs
      refine x_cVI (As := [.int ((M 63 4) - 1)]) (rest := [.int a2, .ref (h 27), .int a3, .ref (h 63)]) C zhw zhl (cEvenings_offOn l D cI h ((M 63 4) - 1) M zv28 zhp) (by omega) (by decide) kw_29_22 kw_29_23 kw_30_0 kw_2_10 kw_30_1 md_X1_offOn rfl 59 (wX_c59 h cI M) rfl rfl rfl rfl (Nat.le_of_ble_eq_true rfl) dX6_tryEvening_40 (fun zH zlocs zhw hn9 => ?_)
      refine lv_iand zhx zhb dX6_tryEvening_43 ?_
      obtain ⟨zv29, zhp, zhs⟩ := bnd_e zhs
      refine x_cVI (As := [.int (a2 &&& zv28)]) (rest := [.int a3, .ref (h 63)]) C zhw zhl (cFoods_coinOfAll_l l D cI h N (a2 &&& zv28) M zv29 zhp) (by omega) (by decide) kw_30_2 kw_30_3 kw_30_4 kw_3_15 kw_30_5 md_X2_coinOfAll rfl 27 (wX_c27 h cI M) rfl rfl rfl rfl (Nat.le_of_ble_eq_true rfl) dX6_tryEvening_44 (fun zH zlocs zhw hn9 => ?_)
      refine lv_iadd zhx zhb dX6_tryEvening_47 ?_
      obtain ⟨zM30, zhp, zhs⟩ := bnd_e zhs
      refine x_cVV (As := [.int (a3 + zv29)]) (rest := []) C zhw zhl (cPlanner_settle l D cI h N (a3 + zv29) M zM30 zhp) (by omega) (by decide) kw_30_8 kw_30_9 kw_30_10 kw_2_14 kw_30_11 md_X6_settle rfl 63 (wX_c63 h cI M) rfl rfl rfl rfl (Nat.le_of_ble_eq_true rfl) dX6_tryEvening_48 (fun zH zlocs zhw => ?_)
      cases zhs
      exact zhret _ _ _ _ dX6_tryEvening_51 zhw
  · replace zhs := br_F zhs zc9
    cases zhs
    exact zhret _ _ _ _ dX6_tryEvening_8 zhw
theorem cPlanner_tryEvening (l : Launch) (D : va_G) (cI : ClassId) (h : Nat → Nat) (N : Nat) : ∀ (d : Nat) (a1 : Int32) (a2 : Int32) (a3 : Int32) (M : Mm) (M' : Mm) (hs : sPlanner_tryEvening N d a1 a2 a3 M = some M'), CtV l yX6_tryEvening cX6_tryEvening 7 (5 + d) D cI (wX h cI M) (wX h cI M') [.ref (h 63), .int a1, .int a2, .int a3]
  | 0, _, _, _, _, _, hs => by cases hs
  | d + 1, a1, a2, a3, M, M', hs => cPlanner_tryEveningB l D cI h N d (sPlanner_tryEvening N d) (fun a1 a2 a3 M M' hs => cPlanner_tryEvening l D cI h N d a1 a2 a3 M M' hs) a1 a2 a3 M M' hs


-- OffFirst$Planner.findCheapest in (63, ())
def sPlanner_findCheapest (N : Nat) (a1 : Int32) (M : Mm) : Option Mm :=
  ltM (mset M 63 4 a1) fun zM1 =>
  ltM (mset zM1 63 5 1000000000) fun zM2 =>
  (sEvenings_lookAhead N (zM2 63 4) zM2).bind fun zM3 =>
  (sStock_bitsThere N zM3).bind fun zv4 =>
  (sPlanner_tryEvening N 6 0 zv4 0 zM3).bind fun zM5 =>
  some zM5
set_option maxHeartbeats 4000000 in
set_option maxRecDepth 100000 in
theorem cPlanner_findCheapest (l : Launch) (D : va_G) (cI : ClassId) (h : Nat → Nat) (N : Nat) (a1 : Int32) (M : Mm) (M' : Mm) (zhs : sPlanner_findCheapest N a1 M = some M') : CtV l yX6_findCheapest cX6_findCheapest 2 12 D cI (wX h cI M) (wX h cI M') [.ref (h 63), .int a1] := by
  unfold sPlanner_findCheapest at zhs
  refine CtV_of (by decide +kernel) (Nat.le_of_ble_eq_true rfl) ?_
  intro p e s m args below meth c A Q zls zH zlocs C zhw zhl zhret
  have zhx := C.1
  have zhb := C.2.1
  have zhown := C.2.2.2.2.1
  have zhtB := C.2.2.2.2.2.2.1
  have zhl : lv_has zls 2 [(0, .ref (h 63)), (1, .int a1)] := zhl
  refine lv_aload_n zhx zhb dX6_findCheapest_0 rfl (lv_at zhl 0 rfl) ?_
  refine lv_iload_n zhx zhb dX6_findCheapest_1 rfl (lv_at zhl 1 rfl) ?_
  refine x_put C zhw inlX6 rfl tyX6_ok nmX6 63 4 (by decide) kw_29_5 rfl rfl rfl (wX_c63 h cI M) (Nat.le_of_ble_eq_true rfl) (wX_s63_4 h cI M _) dX6_findCheapest_2 (fun zH zlocs zhw => ?_)
  obtain ⟨zM1, ze9, zhs⟩ := ltM_e zhs
  rw [← ze9] at zhw; clear ze9
  refine lv_aload_n zhx zhb dX6_findCheapest_5 rfl (lv_at zhl 0 rfl) ?_
  refine lv_ldc zhx zhb zhown (zhtB _ kw_29_6) dX6_findCheapest_6 ?_
  refine x_put C zhw inlX6 rfl tyX6_ok nmX6 63 5 (by decide) kw_29_7 rfl rfl rfl (wX_c63 h cI zM1) (Nat.le_of_ble_eq_true rfl) (wX_s63_5 h cI zM1 _) dX6_findCheapest_8 (fun zH zlocs zhw => ?_)
  obtain ⟨zM2, ze9, zhs⟩ := ltM_e zhs
  rw [← ze9] at zhw; clear ze9
  refine lv_aload_n zhx zhb dX6_findCheapest_11 rfl (lv_at zhl 0 rfl) ?_
  refine x_get C zhw inlX6 rfl 63 1 (by decide) kw_6_4 rfl (wX_c63 h cI zM2) rfl dX6_findCheapest_12 ?_
  refine lv_aload_n zhx zhb dX6_findCheapest_15 rfl (lv_at zhl 0 rfl) ?_
  refine x_get C zhw inlX6 rfl 63 4 (by decide) kw_29_5 rfl (wX_c63 h cI zM2) rfl dX6_findCheapest_16 ?_
  obtain ⟨zM3, zhp, zhs⟩ := bnd_e zhs
  refine x_cVV (As := [.int (zM2 63 4)]) (rest := []) C zhw zhl (cEvenings_lookAhead l D cI h N (zM2 63 4) zM2 zM3 zhp) (by decide) (by decide) kw_29_8 kw_29_9 kw_29_10 kw_2_10 kw_29_11 md_X1_lookAhead rfl 59 (wX_c59 h cI zM2) rfl rfl rfl rfl (Nat.le_of_ble_eq_true rfl) dX6_findCheapest_19 (fun zH zlocs zhw => ?_)
  refine lv_aload_n zhx zhb dX6_findCheapest_22 rfl (lv_at zhl 0 rfl) ?_
  refine lv_iconst (v := 0) zhx zhb dX6_findCheapest_23 (by decide) ?_
  refine lv_aload_n zhx zhb dX6_findCheapest_24 rfl (lv_at zhl 0 rfl) ?_
  refine x_get C zhw inlX6 rfl 63 0 (by decide) kw_6_3 rfl (wX_c63 h cI zM3) rfl dX6_findCheapest_25 ?_
  refine x_getN C zhw inlX3 rfl 58 1 (by decide) (List.mem_of_getElem? (i := 36) rfl) rfl (wX_c58 h cI zM3) rfl dX6_findCheapest_28 ?_
  obtain ⟨zv4, zhp, zhs⟩ := bnd_e zhs
  refine x_cVI (As := []) (rest := [.int 0, .ref (h 63)]) C zhw zhl (cStock_bitsThere l D cI h N zM3 zv4 zhp) (by decide) (by decide) kw_29_14 kw_29_15 kw_29_16 kw_2_0 kw_29_17 md_X8_bitsThere rfl 40 (wX_c40 h cI zM3) rfl rfl rfl rfl (Nat.le_of_ble_eq_true rfl) dX6_findCheapest_31 (fun zH zlocs zhw hn9 => ?_)
  refine lv_iconst (v := 0) zhx zhb dX6_findCheapest_34 (by decide) ?_
  obtain ⟨zM5, zhp, zhs⟩ := bnd_e zhs
  refine x_cVV (As := [.int 0, .int zv4, .int 0]) (rest := []) C zhw zhl (cPlanner_tryEvening l D cI h N 6 0 zv4 0 zM3 zM5 zhp) (by decide) (by decide) kw_29_18 kw_29_19 kw_29_20 kw_2_14 kw_29_21 md_X6_tryEvening rfl 63 (wX_c63 h cI zM3) rfl rfl rfl rfl (Nat.le_of_ble_eq_true rfl) dX6_findCheapest_35 (fun zH zlocs zhw => ?_)
  cases zhs
  exact zhret _ _ _ _ dX6_findCheapest_38 zhw

-- OffFirst$Planner.dishOn in (63, ())
def sPlanner_dishOn (a1 : Int32) (M : Mm) : Option Int32 :=
  some (atf 4 (M 65) a1)
set_option maxHeartbeats 4000000 in
set_option maxRecDepth 100000 in
theorem cPlanner_dishOn (l : Launch) (D : va_G) (cI : ClassId) (h : Nat → Nat) (a1 : Int32) (M : Mm) (r : Int32) (zhs : sPlanner_dishOn a1 M = some r) : CtI l yX6_dishOn cX6_dishOn 2 (some .int) 2 D cI (wX h cI M) (wX h cI M) [.ref (h 63), .int a1] r := by
  unfold sPlanner_dishOn at zhs
  refine CtI_of (by decide +kernel) (Nat.le_of_ble_eq_true rfl) ⟨_, rfl⟩ ?_
  intro p e s m args below meth c A Q zls zH zlocs C zhw zhl zhret
  have zhx := C.1
  have zhb := C.2.1
  have zhown := C.2.2.2.2.1
  have zhtB := C.2.2.2.2.2.2.1
  have zhl : lv_has zls 2 [(0, .ref (h 63)), (1, .int a1)] := zhl
  refine lv_aload_n zhx zhb dX6_dishOn_0 rfl (lv_at zhl 0 rfl) ?_
  refine x_get C zhw inlX6 rfl 63 3 (by decide) kw_6_2 rfl (wX_c63 h cI M) rfl dX6_dishOn_1 ?_
  refine lv_iload_n zhx zhb dX6_dishOn_4 rfl (lv_at zhl 1 rfl) ?_
  refine x_cSNI (As := [.ref (h 65), .int a1]) (rest := []) C zhw zhl (c_at l D cI (wX h cI M) 65 4 (h 65) (M 65) (wX_c65 h cI M) (by decide) a1) (by decide) (by decide) (List.mem_of_getElem? (i := 22) rfl) kw_7_7 kw_1_2 kw_7_8 md_X11_at rfl rfl (Nat.le_of_ble_eq_true rfl) dX6_dishOn_5 (fun zH zlocs zhw hn9 => ?_)
  cases zhs
  exact zhret _ _ _ _ dX6_dishOn_8 (by rfl) zhw

-- OffFirst.plan in (0, ())
def sOff_plan (N : Nat) (a1 : Int32) (a2 : Int32) (M : Mm) : Option (Int32 × Mm) :=
  (sOff_isWithin a1 1 4).bind fun zv1 =>
  (if zv1 = 0 then some ((-1), M)
  else (sOff_isWithin a2 (-1) (a1 - 1)).bind fun zv2 =>
  (if zv2 = 0 then some ((-1), M)
  else (sPlanner_findCheapest N a1 M).bind fun zM3 =>
  (if 0 ≤ a2 then (sPlanner_dishOn a2 zM3).bind fun zv5 =>
  some (zv5, zM3)
  else some ((zM3 63 5), zM3))))
set_option maxHeartbeats 4000000 in
set_option maxRecDepth 100000 in
theorem cOff_plan (l : Launch) (D : va_G) (cI : ClassId) (h : Nat → Nat) (N : Nat) (a1 : Int32) (a2 : Int32) (M : Mm) (r : Int32) (M' : Mm) (zhs : sOff_plan N a1 a2 M = some (r, M')) : CtI l yX11_plan cX11_plan 3 (some .int) 13 D cI (wX h cI M) (wX h cI M') [.ref (h 0), .int a1, .int a2] r := by
  unfold sOff_plan at zhs
  refine CtI_of (by decide +kernel) (Nat.le_of_ble_eq_true rfl) ⟨_, rfl⟩ ?_
  intro p e s m args below meth c A Q zls zH zlocs C zhw zhl zhret
  have zhx := C.1
  have zhb := C.2.1
  have zhown := C.2.2.2.2.1
  have zhtB := C.2.2.2.2.2.2.1
  have zhl : lv_has zls 3 [(0, .ref (h 0)), (1, .int a1), (2, .int a2)] := zhl
  refine lv_iload_n zhx zhb dX11_plan_0 rfl (lv_at zhl 1 rfl) ?_
  refine lv_iconst (v := 1) zhx zhb dX11_plan_1 (by decide) ?_
  refine lv_iconst (v := 4) zhx zhb dX11_plan_2 (by decide) ?_
  obtain ⟨zv1, zhp, zhs⟩ := bnd_e zhs
  refine x_cSI (As := [.int a1, .int 1, .int 4]) (rest := []) C zhw zhl (cOff_isWithin l D cI h a1 1 4 M zv1 zhp) (by decide) (by decide) kw_9_22 kw_9_23 kw_1_2 kw_10_0 md_X11_isWithin rfl rfl (Nat.le_of_ble_eq_true rfl) dX11_plan_3 (fun zH zlocs zhw hzv1 => ?_)
  refine lv_if_eq (tgt := 20) zhx zhb dX11_plan_6 (by decide) (fun zc9 => ?_) (fun zc9 => ?_)
  · replace zhs := br_T zhs zc9
    refine lv_iconst (v := (-1)) zhx zhb dX11_plan_20 (by decide) ?_
    cases zhs
    exact zhret _ _ _ _ dX11_plan_21 (by rfl) zhw
  · replace zhs := br_F zhs zc9
    refine lv_iload_n zhx zhb dX11_plan_9 rfl (lv_at zhl 2 rfl) ?_
    refine lv_iconst (v := (-1)) zhx zhb dX11_plan_10 (by decide) ?_
    refine lv_iload_n zhx zhb dX11_plan_11 rfl (lv_at zhl 1 rfl) ?_
    refine lv_iconst (v := 1) zhx zhb dX11_plan_12 (by decide) ?_
    refine lv_isub zhx zhb dX11_plan_13 ?_
    obtain ⟨zv2, zhp, zhs⟩ := bnd_e zhs
    refine x_cSI (As := [.int a2, .int (-1), .int (a1 - 1)]) (rest := []) C zhw zhl (cOff_isWithin l D cI h a2 (-1) (a1 - 1) M zv2 zhp) (by decide) (by decide) kw_9_22 kw_9_23 kw_1_2 kw_10_0 md_X11_isWithin rfl rfl (Nat.le_of_ble_eq_true rfl) dX11_plan_14 (fun zH zlocs zhw hzv2 => ?_)
    refine lv_if_ne (tgt := 22) zhx zhb dX11_plan_17 (by decide) (fun zc9 => ?_) (fun zc9 => ?_)
    · replace zhs := br_F zhs zc9
      refine lv_aload_n zhx zhb dX11_plan_22 rfl (lv_at zhl 0 rfl) ?_
      refine x_get C zhw inlX11 rfl 0 9 (by decide) kw_2_15 rfl (wX_c0 h cI M) rfl dX11_plan_23 ?_
      refine lv_iload_n zhx zhb dX11_plan_26 rfl (lv_at zhl 1 rfl) ?_
      obtain ⟨zM3, zhp, zhs⟩ := bnd_e zhs
      refine x_cVV (As := [.int a1]) (rest := []) C zhw zhl (cPlanner_findCheapest l D cI h N a1 M zM3 zhp) (by decide) (by decide) kw_29_1 kw_29_2 kw_29_3 kw_2_14 kw_29_4 md_X6_findCheapest rfl 63 (wX_c63 h cI M) rfl rfl rfl rfl (Nat.le_of_ble_eq_true rfl) dX11_plan_27 (fun zH zlocs zhw => ?_)
      refine lv_iload_n zhx zhb dX11_plan_30 rfl (lv_at zhl 2 rfl) ?_
      refine lv_if_ge (tgt := 44) zhx zhb dX11_plan_31 (by decide) (fun zc9 => ?_) (fun zc9 => ?_)
      · replace zhs := br_T zhs zc9
        refine lv_aload_n zhx zhb dX11_plan_44 rfl (lv_at zhl 0 rfl) ?_
        refine x_get C zhw inlX11 rfl 0 9 (by decide) kw_2_15 rfl (wX_c0 h cI zM3) rfl dX11_plan_45 ?_
        refine lv_iload_n zhx zhb dX11_plan_48 rfl (lv_at zhl 2 rfl) ?_
        obtain ⟨zv5, zhp, zhs⟩ := bnd_e zhs
        refine x_cVI (As := [.int a2]) (rest := []) C zhw zhl (cPlanner_dishOn l D cI h a2 zM3 zv5 zhp) (by decide) (by decide) kw_31_12 kw_31_13 kw_31_14 kw_2_14 kw_31_15 md_X6_dishOn rfl 63 (wX_c63 h cI zM3) rfl rfl rfl rfl (Nat.le_of_ble_eq_true rfl) dX11_plan_49 (fun zH zlocs zhw hn9 => ?_)
        cases zhs
        exact zhret _ _ _ _ dX11_plan_52 (by rfl) zhw
      · replace zhs := br_F zhs zc9
        refine lv_aload_n zhx zhb dX11_plan_34 rfl (lv_at zhl 0 rfl) ?_
        refine x_get C zhw inlX11 rfl 0 9 (by decide) kw_2_15 rfl (wX_c0 h cI zM3) rfl dX11_plan_35 ?_
        refine x_getN C zhw inlX6 rfl 63 5 (by decide) (List.mem_of_getElem? (i := 38) rfl) rfl (wX_c63 h cI zM3) rfl dX11_plan_38 ?_
        refine lv_goto (tgt := 52) zhx zhb dX11_plan_41 (by decide) ?_
        cases zhs
        exact zhret _ _ _ _ dX11_plan_52 (by rfl) zhw
    · replace zhs := br_T zhs zc9
      refine lv_iconst (v := (-1)) zhx zhb dX11_plan_20 (by decide) ?_
      cases zhs
      exact zhret _ _ _ _ dX11_plan_21 (by rfl) zhw

-- OffFirst$Fridge.lostIfFrozen in (58, ())
def sFridge_lostIfFrozen (N : Nat) (a1 : Int32) (a2 : Int32) (M : Mm) : Option Int32 :=
  (sStock_cellOf a1 M).bind fun zv1 =>
  (sStock_kindOf a1 M).bind fun zv2 =>
  (sFridge_coinLostAs N a1 zv2 zv1 a2 M).bind fun zv3 =>
  (sFridge_lostBehind N a2 M).bind fun zv4 =>
  (sFridge_coinLostAs N a1 3 zv1 a2 M).bind fun zv5 =>
  some ((zv4 - zv3) + zv5)
set_option maxHeartbeats 4000000 in
set_option maxRecDepth 100000 in
theorem cFridge_lostIfFrozen (l : Launch) (D : va_G) (cI : ClassId) (h : Nat → Nat) (N : Nat) (a1 : Int32) (a2 : Int32) (M : Mm) (r : Int32) (zhs : sFridge_lostIfFrozen N a1 a2 M = some r) : CtI l yX3_lostIfFrozen cX3_lostIfFrozen 5 (some .int) 6 D cI (wX h cI M) (wX h cI M) [.ref (h 58), .int a1, .int a2] r := by
  unfold sFridge_lostIfFrozen at zhs
  refine CtI_of (by decide +kernel) (Nat.le_of_ble_eq_true rfl) ⟨_, rfl⟩ ?_
  intro p e s m args below meth c A Q zls zH zlocs C zhw zhl zhret
  have zhx := C.1
  have zhb := C.2.1
  have zhown := C.2.2.2.2.1
  have zhtB := C.2.2.2.2.2.2.1
  have zhl : lv_has zls 5 [(0, .ref (h 58)), (1, .int a1), (2, .int a2)] := zhl
  refine lv_aload_n zhx zhb dX3_lostIfFrozen_0 rfl (lv_at zhl 0 rfl) ?_
  refine x_get C zhw inlX3 rfl 58 1 (by decide) kw_5_12 rfl (wX_c58 h cI M) rfl dX3_lostIfFrozen_1 ?_
  refine lv_iload_n zhx zhb dX3_lostIfFrozen_4 rfl (lv_at zhl 1 rfl) ?_
  obtain ⟨zv1, zhp, zhs⟩ := bnd_e zhs
  refine x_cVI (As := [.int a1]) (rest := []) C zhw zhl (cStock_cellOf l D cI h a1 M zv1 zhp) (by decide) (by decide) kw_22_9 kw_18_12 kw_18_13 kw_2_0 kw_18_14 md_X8_cellOf rfl 40 (wX_c40 h cI M) rfl rfl rfl rfl (Nat.le_of_ble_eq_true rfl) dX3_lostIfFrozen_5 (fun zH zlocs zhw hn9 => ?_)
  refine lv_istore_n (lv' := [(3, .int zv1), (0, .ref (h 58)), (1, .int a1), (2, .int a2)]) zhx zhb dX3_lostIfFrozen_8 rfl zhl (by decide) rfl (fun zls zhl => ?_)
  refine lv_aload_n zhx zhb dX3_lostIfFrozen_9 rfl (lv_at zhl 1 rfl) ?_
  refine lv_iload_n zhx zhb dX3_lostIfFrozen_10 rfl (lv_at zhl 2 rfl) ?_
  refine lv_aload_n zhx zhb dX3_lostIfFrozen_11 rfl (lv_at zhl 1 rfl) ?_
  refine x_get C zhw inlX3 rfl 58 1 (by decide) kw_5_12 rfl (wX_c58 h cI M) rfl dX3_lostIfFrozen_12 ?_
  refine lv_iload_n zhx zhb dX3_lostIfFrozen_15 rfl (lv_at zhl 2 rfl) ?_
  obtain ⟨zv2, zhp, zhs⟩ := bnd_e zhs
  refine x_cVI (As := [.int a1]) (rest := [.int a1, .ref (h 58)]) C zhw zhl (cStock_kindOf l D cI h a1 M zv2 zhp) (by decide) (by decide) kw_18_23 kw_18_8 kw_18_9 kw_2_0 kw_18_10 md_X8_kindOf rfl 40 (wX_c40 h cI M) rfl rfl rfl rfl (Nat.le_of_ble_eq_true rfl) dX3_lostIfFrozen_16 (fun zH zlocs zhw hn9 => ?_)
  refine lv_iload_n zhx zhb dX3_lostIfFrozen_19 rfl (lv_at zhl 0 rfl) ?_
  refine lv_iload_n zhx zhb dX3_lostIfFrozen_20 rfl (lv_at zhl 3 rfl) ?_
  obtain ⟨zv3, zhp, zhs⟩ := bnd_e zhs
  refine x_cVI (As := [.int a1, .int zv2, .int zv1, .int a2]) (rest := []) C zhw zhl (cFridge_coinLostAs l D cI h N a1 zv2 zv1 a2 M zv3 zhp) (by decide) (by decide) kw_27_17 kw_27_18 kw_27_19 kw_2_6 kw_27_20 md_X3_coinLostAs rfl 58 (wX_c58 h cI M) rfl rfl rfl rfl (Nat.le_of_ble_eq_true rfl) dX3_lostIfFrozen_21 (fun zH zlocs zhw hn9 => ?_)
  refine lv_istore (lv' := [(4, .int zv3), (3, .int zv1), (0, .ref (h 58)), (1, .int a1), (2, .int a2)]) zhx zhb dX3_lostIfFrozen_24 zhl (by decide) rfl (fun zls zhl => ?_)
  refine lv_aload_n zhx zhb dX3_lostIfFrozen_26 rfl (lv_at zhl 2 rfl) ?_
  refine lv_iload_n zhx zhb dX3_lostIfFrozen_27 rfl (lv_at zhl 4 rfl) ?_
  obtain ⟨zv4, zhp, zhs⟩ := bnd_e zhs
  refine x_cVI (As := [.int a2]) (rest := []) C zhw zhl (cFridge_lostBehind l D cI h N a2 M zv4 zhp) (by decide) (by decide) kw_33_10 kw_27_14 kw_27_15 kw_2_6 kw_27_16 md_X3_lostBehind rfl 58 (wX_c58 h cI M) rfl rfl rfl rfl (Nat.le_of_ble_eq_true rfl) dX3_lostIfFrozen_28 (fun zH zlocs zhw hn9 => ?_)
  refine lv_iload zhx zhb dX3_lostIfFrozen_31 (lv_at zhl 0 rfl) ?_
  refine lv_isub zhx zhb dX3_lostIfFrozen_33 ?_
  refine lv_aload_n zhx zhb dX3_lostIfFrozen_34 rfl (lv_at zhl 2 rfl) ?_
  refine lv_iload_n zhx zhb dX3_lostIfFrozen_35 rfl (lv_at zhl 3 rfl) ?_
  refine lv_iconst (v := 3) zhx zhb dX3_lostIfFrozen_36 (by decide) ?_
  refine lv_iload_n zhx zhb dX3_lostIfFrozen_37 rfl (lv_at zhl 1 rfl) ?_
  refine lv_iload_n zhx zhb dX3_lostIfFrozen_38 rfl (lv_at zhl 4 rfl) ?_
  obtain ⟨zv5, zhp, zhs⟩ := bnd_e zhs
  refine x_cVI (As := [.int a1, .int 3, .int zv1, .int a2]) (rest := [.int (zv4 - zv3)]) C zhw zhl (cFridge_coinLostAs l D cI h N a1 3 zv1 a2 M zv5 zhp) (by decide) (by decide) kw_27_17 kw_27_18 kw_27_19 kw_2_6 kw_27_20 md_X3_coinLostAs rfl 58 (wX_c58 h cI M) rfl rfl rfl rfl (Nat.le_of_ble_eq_true rfl) dX3_lostIfFrozen_39 (fun zH zlocs zhw hn9 => ?_)
  refine lv_iadd zhx zhb dX3_lostIfFrozen_42 ?_
  cases zhs
  exact zhret _ _ _ _ dX3_lostIfFrozen_43 (by rfl) zhw

-- OffFirst$Fridge.bestToFreeze in (58, ())
def LFridge_bestToFreeze_12_25 (N : Nat) (a1 : Int32) (M : Mm) (zx2 : Int32) (zx3 : Int32) (zx4 : Int32) : Option ((Int32 × Int32 × Int32) ⊕ ((Int32))) :=
  (if (M 27 7) ≤ zx4 then some (.inr zx2)
  else (sStock_isThere zx4 M).bind fun zv15 =>
  (if zv15 = 0 then ltI (zx4 + 1) fun zv18 =>
  some (.inl (zx2, zx3, zv18))
  else (sStock_kindOf zx4 M).bind fun zv19 =>
  (if zv19 = 3 then ltI (zx4 + 1) fun zv21 =>
  some (.inl (zx2, zx3, zv21))
  else (sFridge_lostIfFrozen N zx4 a1 M).bind fun zv22 =>
  (if zx3 ≤ zv22 then ltI (zx4 + 1) fun zv23 =>
  some (.inl (zx2, zx3, zv23))
  else ltI (zx4 + 1) fun zv24 =>
  some (.inl (zx4, zv22, zv24))))))
def sFridge_bestToFreeze (N : Nat) (a1 : Int32) (M : Mm) : Option Int32 :=
  (sFridge_lostBehind N a1 M).bind fun zv1 =>
  (itr (fun z : Int32 × Int32 × Int32 => LFridge_bestToFreeze_12_25 N a1 M z.1 z.2.1 z.2.2) N ((-4), zv1, 0)).bind fun zv26 =>
  some zv26
set_option maxHeartbeats 4000000 in
set_option maxRecDepth 100000 in
theorem cFridge_bestToFreeze (l : Launch) (D : va_G) (cI : ClassId) (h : Nat → Nat) (N : Nat) (a1 : Int32) (M : Mm) (r : Int32) (zhs : sFridge_bestToFreeze N a1 M = some r) : CtI l yX3_bestToFreeze cX3_bestToFreeze 6 (some .int) 7 D cI (wX h cI M) (wX h cI M) [.ref (h 58), .int a1] r := by
  unfold sFridge_bestToFreeze at zhs
  refine CtI_of (by decide +kernel) (Nat.le_of_ble_eq_true rfl) ⟨_, rfl⟩ ?_
  intro p e s m args below meth c A Q zls zH zlocs C zhw zhl zhret
  have zhx := C.1
  have zhb := C.2.1
  have zhown := C.2.2.2.2.1
  have zhtB := C.2.2.2.2.2.2.1
  have zhl : lv_has zls 6 [(0, .ref (h 58)), (1, .int a1)] := zhl
  refine lv_bipush (v := (-4)) zhx zhb dX3_bestToFreeze_0 (by decide) ?_
  refine lv_istore_n (lv' := [(2, .int (-4)), (0, .ref (h 58)), (1, .int a1)]) zhx zhb dX3_bestToFreeze_2 rfl zhl (by decide) rfl (fun zls zhl => ?_)
  refine lv_aload_n zhx zhb dX3_bestToFreeze_3 rfl (lv_at zhl 1 rfl) ?_
  refine lv_iload_n zhx zhb dX3_bestToFreeze_4 rfl (lv_at zhl 2 rfl) ?_
  obtain ⟨zv1, zhp, zhs⟩ := bnd_e zhs
  refine x_cVI (As := [.int a1]) (rest := []) C zhw zhl (cFridge_lostBehind l D cI h N a1 M zv1 zhp) (by decide) (by decide) kw_33_10 kw_27_14 kw_27_15 kw_2_6 kw_27_16 md_X3_lostBehind rfl 58 (wX_c58 h cI M) rfl rfl rfl rfl (Nat.le_of_ble_eq_true rfl) dX3_bestToFreeze_5 (fun zH zlocs zhw hn9 => ?_)
  refine lv_istore_n (lv' := [(3, .int zv1), (2, .int (-4)), (0, .ref (h 58)), (1, .int a1)]) zhx zhb dX3_bestToFreeze_8 rfl zhl (by decide) rfl (fun zls zhl => ?_)
  refine lv_iconst (v := 0) zhx zhb dX3_bestToFreeze_9 (by decide) ?_
  refine lv_istore (lv' := [(4, .int 0), (3, .int zv1), (2, .int (-4)), (0, .ref (h 58)), (1, .int a1)]) zhx zhb dX3_bestToFreeze_10 zhl (by decide) rfl (fun zls zhl => ?_)
  obtain ⟨zq25, zhq25, zhs⟩ := bnd_e zhs
  have hloop25 : ∀ (zn : Nat) (zx2 : Int32) (zx3 : Int32) (zx4 : Int32) (zq : (Int32)), itr (fun z : Int32 × Int32 × Int32 => LFridge_bestToFreeze_12_25 N a1 M z.1 z.2.1 z.2.2) zn (zx2, zx3, zx4) = some zq → (∀ (zy1 : Int32), zy1 = zq → ∀ (zH : Heap) (zlocs : List Loc) (zls : Array Slot), lv_has zls 6 [(2, .int zy1)] → Hw D (wX h cI M) A s.heap zH zlocs → W p l e (RM 7) s m args below meth c zH zlocs 0 0 Q (F0 m 79 zls [])) → ∀ (zH : Heap) (zlocs : List Loc) (zls : Array Slot), lv_has zls 6 [(4, .int zx4), (3, .int zx3), (2, .int zx2), (0, .ref (h 58)), (1, .int a1)] → Hw D (wX h cI M) A s.heap zH zlocs → W p l e (RM 7) s m args below meth c zH zlocs 0 0 Q (F0 m 12 zls []) := by
    intro zn
    induction zn with
    | zero => intro zx2 zx3 zx4 zq zhq; exact absurd zhq (fun h9 => itr_0 h9)
    | succ zn zih =>
        intro zx2 zx3 zx4 zq zhq k12_79 zH zlocs zls zhl zhw
        obtain ⟨zy9, zhs, zhq⟩ := itr_s zhq
        replace zhs : LFridge_bestToFreeze_12_25 N a1 M zx2 zx3 zx4 = some zy9 := zhs
        unfold LFridge_bestToFreeze_12_25 at zhs
        refine lv_iload zhx zhb dX3_bestToFreeze_12 (lv_at zhl 0 rfl) ?_
        refine lv_aload_n zhx zhb dX3_bestToFreeze_14 rfl (lv_at zhl 3 rfl) ?_
        refine x_get C zhw inlX3 rfl 58 0 (by decide) kw_5_11 rfl (wX_c58 h cI M) rfl dX3_bestToFreeze_15 ?_
        refine x_getN C zhw inlX10 rfl 22 1 (by decide) (List.mem_of_getElem? (i := 20) rfl) rfl (wX_c22 h cI M) rfl dX3_bestToFreeze_18 ?_
        refine x_getN C zhw inlX2 rfl 27 7 (by decide) (List.mem_of_getElem? (i := 8) rfl) rfl (wX_c27 h cI M) rfl dX3_bestToFreeze_21 ?_
        refine lv_icmp_ge (tgt := 79) zhx zhb dX3_bestToFreeze_24 (by decide) (fun zc9 => ?_) (fun zc9 => ?_)
        · replace zhs := br_T zhs zc9
          cases zhs
          exact k12_79 zx2 (itk_q zhq) zH zlocs zls (lv_sub zhl [2] rfl) zhw
        · replace zhs := br_F zhs zc9
          refine lv_aload_n zhx zhb dX3_bestToFreeze_27 rfl (lv_at zhl 3 rfl) ?_
          refine x_get C zhw inlX3 rfl 58 1 (by decide) kw_5_12 rfl (wX_c58 h cI M) rfl dX3_bestToFreeze_28 ?_
          refine lv_iload zhx zhb dX3_bestToFreeze_31 (lv_at zhl 0 rfl) ?_
          obtain ⟨zv15, zhp, zhs⟩ := bnd_e zhs
          refine x_cVI (As := [.int zx4]) (rest := []) C zhw zhl (cStock_isThere l D cI h zx4 M zv15 zhp) (by decide) (by decide) kw_22_1 kw_22_2 kw_22_3 kw_2_0 kw_22_4 md_X8_isThere rfl 40 (wX_c40 h cI M) rfl rfl rfl rfl (Nat.le_of_ble_eq_true rfl) dX3_bestToFreeze_33 (fun zH zlocs zhw hzv15 => ?_)
          refine lv_if_eq (tgt := 73) zhx zhb dX3_bestToFreeze_36 (by decide) (fun zc9 => ?_) (fun zc9 => ?_)
          · replace zhs := br_T zhs zc9
            obtain ⟨zv18, ze9, zhs⟩ := ltI_e zhs
            refine lv_iinc (v := zv18) (lv' := [(4, .int zv18), (3, .int zx3), (2, .int zx2), (0, .ref (h 58)), (1, .int a1)]) zhx zhb dX3_bestToFreeze_73 zhl (k := 0) rfl (by rw [ze9]; rfl) (by decide) rfl (fun zls zhl => ?_)
            clear ze9
            refine lv_goto (tgt := 12) zhx zhb dX3_bestToFreeze_76 (by decide) ?_
            cases zhs
            exact zih zx2 zx3 zv18 zq (itk_l zhq) k12_79 zH zlocs zls zhl zhw
          · replace zhs := br_F zhs zc9
            refine lv_aload_n zhx zhb dX3_bestToFreeze_39 rfl (lv_at zhl 3 rfl) ?_
            refine x_get C zhw inlX3 rfl 58 1 (by decide) kw_5_12 rfl (wX_c58 h cI M) rfl dX3_bestToFreeze_40 ?_
            refine lv_iload zhx zhb dX3_bestToFreeze_43 (lv_at zhl 0 rfl) ?_
            obtain ⟨zv19, zhp, zhs⟩ := bnd_e zhs
            refine x_cVI (As := [.int zx4]) (rest := []) C zhw zhl (cStock_kindOf l D cI h zx4 M zv19 zhp) (by decide) (by decide) kw_18_23 kw_18_8 kw_18_9 kw_2_0 kw_18_10 md_X8_kindOf rfl 40 (wX_c40 h cI M) rfl rfl rfl rfl (Nat.le_of_ble_eq_true rfl) dX3_bestToFreeze_45 (fun zH zlocs zhw hn9 => ?_)
            refine lv_iconst (v := 3) zhx zhb dX3_bestToFreeze_48 (by decide) ?_
            refine lv_icmp_eq (tgt := 73) zhx zhb dX3_bestToFreeze_49 (by decide) (fun zc9 => ?_) (fun zc9 => ?_)
            · replace zhs := br_T zhs zc9
              obtain ⟨zv21, ze9, zhs⟩ := ltI_e zhs
              refine lv_iinc (v := zv21) (lv' := [(4, .int zv21), (3, .int zx3), (2, .int zx2), (0, .ref (h 58)), (1, .int a1)]) zhx zhb dX3_bestToFreeze_73 zhl (k := 0) rfl (by rw [ze9]; rfl) (by decide) rfl (fun zls zhl => ?_)
              clear ze9
              refine lv_goto (tgt := 12) zhx zhb dX3_bestToFreeze_76 (by decide) ?_
              cases zhs
              exact zih zx2 zx3 zv21 zq (itk_l zhq) k12_79 zH zlocs zls zhl zhw
            · replace zhs := br_F zhs zc9
              refine lv_aload_n zhx zhb dX3_bestToFreeze_52 rfl (lv_at zhl 3 rfl) ?_
              refine lv_iload zhx zhb dX3_bestToFreeze_53 (lv_at zhl 0 rfl) ?_
              refine lv_iload_n zhx zhb dX3_bestToFreeze_55 rfl (lv_at zhl 4 rfl) ?_
              obtain ⟨zv22, zhp, zhs⟩ := bnd_e zhs
              refine x_cVI (As := [.int zx4, .int a1]) (rest := []) C zhw zhl (cFridge_lostIfFrozen l D cI h N zx4 a1 M zv22 zhp) (by decide) (by decide) kw_33_11 kw_33_12 kw_33_13 kw_2_6 kw_33_14 md_X3_lostIfFrozen rfl 58 (wX_c58 h cI M) rfl rfl rfl rfl (Nat.le_of_ble_eq_true rfl) dX3_bestToFreeze_56 (fun zH zlocs zhw hn9 => ?_)
              refine lv_istore (lv' := [(5, .int zv22), (4, .int zx4), (3, .int zx3), (2, .int zx2), (0, .ref (h 58)), (1, .int a1)]) zhx zhb dX3_bestToFreeze_59 zhl (by decide) rfl (fun zls zhl => ?_)
              refine lv_iload zhx zhb dX3_bestToFreeze_61 (lv_at zhl 0 rfl) ?_
              refine lv_iload_n zhx zhb dX3_bestToFreeze_63 rfl (lv_at zhl 2 rfl) ?_
              refine lv_icmp_ge (tgt := 73) zhx zhb dX3_bestToFreeze_64 (by decide) (fun zc9 => ?_) (fun zc9 => ?_)
              · replace zhs := br_T zhs zc9
                obtain ⟨zv23, ze9, zhs⟩ := ltI_e zhs
                refine lv_iinc (v := zv23) (lv' := [(4, .int zv23), (5, .int zv22), (3, .int zx3), (2, .int zx2), (0, .ref (h 58)), (1, .int a1)]) zhx zhb dX3_bestToFreeze_73 zhl (k := 1) rfl (by rw [ze9]; rfl) (by decide) rfl (fun zls zhl => ?_)
                clear ze9
                refine lv_goto (tgt := 12) zhx zhb dX3_bestToFreeze_76 (by decide) ?_
                cases zhs
                exact zih zx2 zx3 zv23 zq (itk_l zhq) k12_79 zH zlocs zls (lv_sub zhl [0, 2, 3, 4, 5] rfl) zhw
              · replace zhs := br_F zhs zc9
                refine lv_iload zhx zhb dX3_bestToFreeze_67 (lv_at zhl 1 rfl) ?_
                refine lv_istore_n (lv' := [(2, .int zx4), (5, .int zv22), (4, .int zx4), (3, .int zx3), (0, .ref (h 58)), (1, .int a1)]) zhx zhb dX3_bestToFreeze_69 rfl zhl (by decide) rfl (fun zls zhl => ?_)
                refine lv_iload zhx zhb dX3_bestToFreeze_70 (lv_at zhl 1 rfl) ?_
                refine lv_istore_n (lv' := [(3, .int zv22), (2, .int zx4), (5, .int zv22), (4, .int zx4), (0, .ref (h 58)), (1, .int a1)]) zhx zhb dX3_bestToFreeze_72 rfl zhl (by decide) rfl (fun zls zhl => ?_)
                obtain ⟨zv24, ze9, zhs⟩ := ltI_e zhs
                refine lv_iinc (v := zv24) (lv' := [(4, .int zv24), (3, .int zv22), (2, .int zx4), (5, .int zv22), (0, .ref (h 58)), (1, .int a1)]) zhx zhb dX3_bestToFreeze_73 zhl (k := 3) rfl (by rw [ze9]; rfl) (by decide) rfl (fun zls zhl => ?_)
                clear ze9
                refine lv_goto (tgt := 12) zhx zhb dX3_bestToFreeze_76 (by decide) ?_
                cases zhs
                exact zih zx4 zv22 zv24 zq (itk_l zhq) k12_79 zH zlocs zls (lv_sub zhl [0, 1, 2, 4, 5] rfl) zhw
  refine hloop25 N (-4) zv1 0 zq25 zhq25 (fun zv26 zhqe zH zlocs zls zhl zhw => ?_) zH zlocs zls zhl zhw
  · subst zhqe
    refine lv_iload_n zhx zhb dX3_bestToFreeze_79 rfl (lv_at zhl 0 rfl) ?_
    cases zhs
    exact zhret _ _ _ _ dX3_bestToFreeze_80 (by rfl) zhw

-- OffFirst.freeze in (0, ())
def sOff_freeze (N : Nat) (a1 : Int32) (a2 : Int32) (M : Mm) : Option Int32 :=
  (sOff_isWithin a1 0 500).bind fun zv1 =>
  (if zv1 = 0 then some (-1)
  else (sOff_isWithin a2 0 1).bind fun zv2 =>
  (if zv2 = 0 then some (-1)
  else (sFridge_bestToFreeze N a1 M).bind fun zv3 =>
  (if 0 ≤ zv3 then (if a2 = 0 then some zv3
  else (sFridge_lostIfFrozen N zv3 a1 M).bind fun zv5 =>
  some zv5)
  else some (-4))))
set_option maxHeartbeats 4000000 in
set_option maxRecDepth 100000 in
theorem cOff_freeze (l : Launch) (D : va_G) (cI : ClassId) (h : Nat → Nat) (N : Nat) (a1 : Int32) (a2 : Int32) (M : Mm) (r : Int32) (zhs : sOff_freeze N a1 a2 M = some r) : CtI l yX11_freeze cX11_freeze 4 (some .int) 8 D cI (wX h cI M) (wX h cI M) [.ref (h 0), .int a1, .int a2] r := by
  unfold sOff_freeze at zhs
  refine CtI_of (by decide +kernel) (Nat.le_of_ble_eq_true rfl) ⟨_, rfl⟩ ?_
  intro p e s m args below meth c A Q zls zH zlocs C zhw zhl zhret
  have zhx := C.1
  have zhb := C.2.1
  have zhown := C.2.2.2.2.1
  have zhtB := C.2.2.2.2.2.2.1
  have zhl : lv_has zls 4 [(0, .ref (h 0)), (1, .int a1), (2, .int a2)] := zhl
  refine lv_iload_n zhx zhb dX11_freeze_0 rfl (lv_at zhl 1 rfl) ?_
  refine lv_iconst (v := 0) zhx zhb dX11_freeze_1 (by decide) ?_
  refine lv_sipush (v := 500) zhx zhb dX11_freeze_2 (by decide) ?_
  obtain ⟨zv1, zhp, zhs⟩ := bnd_e zhs
  refine x_cSI (As := [.int a1, .int 0, .int 500]) (rest := []) C zhw zhl (cOff_isWithin l D cI h a1 0 500 M zv1 zhp) (by decide) (by decide) kw_9_22 kw_9_23 kw_1_2 kw_10_0 md_X11_isWithin rfl rfl (Nat.le_of_ble_eq_true rfl) dX11_freeze_5 (fun zH zlocs zhw hzv1 => ?_)
  refine lv_if_eq (tgt := 20) zhx zhb dX11_freeze_8 (by decide) (fun zc9 => ?_) (fun zc9 => ?_)
  · replace zhs := br_T zhs zc9
    refine lv_iconst (v := (-1)) zhx zhb dX11_freeze_20 (by decide) ?_
    cases zhs
    exact zhret _ _ _ _ dX11_freeze_21 (by rfl) zhw
  · replace zhs := br_F zhs zc9
    refine lv_iload_n zhx zhb dX11_freeze_11 rfl (lv_at zhl 2 rfl) ?_
    refine lv_iconst (v := 0) zhx zhb dX11_freeze_12 (by decide) ?_
    refine lv_iconst (v := 1) zhx zhb dX11_freeze_13 (by decide) ?_
    obtain ⟨zv2, zhp, zhs⟩ := bnd_e zhs
    refine x_cSI (As := [.int a2, .int 0, .int 1]) (rest := []) C zhw zhl (cOff_isWithin l D cI h a2 0 1 M zv2 zhp) (by decide) (by decide) kw_9_22 kw_9_23 kw_1_2 kw_10_0 md_X11_isWithin rfl rfl (Nat.le_of_ble_eq_true rfl) dX11_freeze_14 (fun zH zlocs zhw hzv2 => ?_)
    refine lv_if_ne (tgt := 22) zhx zhb dX11_freeze_17 (by decide) (fun zc9 => ?_) (fun zc9 => ?_)
    · replace zhs := br_F zhs zc9
      refine lv_aload_n zhx zhb dX11_freeze_22 rfl (lv_at zhl 0 rfl) ?_
      refine x_get C zhw inlX11 rfl 0 7 (by decide) kw_2_7 rfl (wX_c0 h cI M) rfl dX11_freeze_23 ?_
      refine lv_iload_n zhx zhb dX11_freeze_26 rfl (lv_at zhl 1 rfl) ?_
      obtain ⟨zv3, zhp, zhs⟩ := bnd_e zhs
      refine x_cVI (As := [.int a1]) (rest := []) C zhw zhl (cFridge_bestToFreeze l D cI h N a1 M zv3 zhp) (by decide) (by decide) kw_33_6 kw_33_7 kw_33_8 kw_2_6 kw_33_9 md_X3_bestToFreeze rfl 58 (wX_c58 h cI M) rfl rfl rfl rfl (Nat.le_of_ble_eq_true rfl) dX11_freeze_27 (fun zH zlocs zhw hn9 => ?_)
      refine lv_istore_n (lv' := [(3, .int zv3), (0, .ref (h 0)), (1, .int a1), (2, .int a2)]) zhx zhb dX11_freeze_30 rfl zhl (by decide) rfl (fun zls zhl => ?_)
      refine lv_iload_n zhx zhb dX11_freeze_31 rfl (lv_at zhl 0 rfl) ?_
      refine lv_if_ge (tgt := 38) zhx zhb dX11_freeze_32 (by decide) (fun zc9 => ?_) (fun zc9 => ?_)
      · replace zhs := br_T zhs zc9
        refine lv_iload_n zhx zhb dX11_freeze_38 rfl (lv_at zhl 3 rfl) ?_
        refine lv_if_ne (tgt := 46) zhx zhb dX11_freeze_39 (by decide) (fun zc9 => ?_) (fun zc9 => ?_)
        · replace zhs := br_F zhs zc9
          refine lv_aload_n zhx zhb dX11_freeze_46 rfl (lv_at zhl 1 rfl) ?_
          refine x_get C zhw inlX11 rfl 0 7 (by decide) kw_2_7 rfl (wX_c0 h cI M) rfl dX11_freeze_47 ?_
          refine lv_iload_n zhx zhb dX11_freeze_50 rfl (lv_at zhl 0 rfl) ?_
          refine lv_iload_n zhx zhb dX11_freeze_51 rfl (lv_at zhl 2 rfl) ?_
          obtain ⟨zv5, zhp, zhs⟩ := bnd_e zhs
          refine x_cVI (As := [.int zv3, .int a1]) (rest := []) C zhw zhl (cFridge_lostIfFrozen l D cI h N zv3 a1 M zv5 zhp) (by decide) (by decide) kw_33_15 kw_33_12 kw_33_13 kw_2_6 kw_33_14 md_X3_lostIfFrozen rfl 58 (wX_c58 h cI M) rfl rfl rfl rfl (Nat.le_of_ble_eq_true rfl) dX11_freeze_52 (fun zH zlocs zhw hn9 => ?_)
          cases zhs
          exact zhret _ _ _ _ dX11_freeze_55 (by rfl) zhw
        · replace zhs := br_T zhs zc9
          refine lv_iload_n zhx zhb dX11_freeze_42 rfl (lv_at zhl 0 rfl) ?_
          refine lv_goto (tgt := 55) zhx zhb dX11_freeze_43 (by decide) ?_
          cases zhs
          exact zhret _ _ _ _ dX11_freeze_55 (by rfl) zhw
      · replace zhs := br_F zhs zc9
        refine lv_bipush (v := (-4)) zhx zhb dX11_freeze_35 (by decide) ?_
        cases zhs
        exact zhret _ _ _ _ dX11_freeze_37 (by rfl) zhw
    · replace zhs := br_T zhs zc9
      refine lv_iconst (v := (-1)) zhx zhb dX11_freeze_20 (by decide) ?_
      cases zhs
      exact zhret _ _ _ _ dX11_freeze_21 (by rfl) zhw

