-- OffFirst$Evenings.oldestOn in (59, ())
def LEvenings_oldestOn_6_19 (N : Nat) (a1 : Int32) (a2 : Int32) (M : Mm) (zx1 : Int32) (zx2 : Int32) : Option ((Int32 × Int32) ⊕ ((Int32))) :=
  (if (M 27 7) ≤ zx2 then some (.inr zx1)
  else (sOff_hasBit a2 zx2).bind fun zv11 =>
  (if zv11 = 0 then ltI (zx2 + 1) fun zv13 =>
  some (.inl (zx1, zv13))
  else (if zx1 < 0 then ltI (zx2 + 1) fun zv15 =>
  some (.inl (zx2, zv15))
  else (sEvenings_isOlderOn a1 zx2 zx1 M).bind fun zv16 =>
  (if zv16 = 0 then ltI (zx2 + 1) fun zv17 =>
  some (.inl (zx1, zv17))
  else ltI (zx2 + 1) fun zv18 =>
  some (.inl (zx2, zv18))))))
def sEvenings_oldestOn (N : Nat) (a1 : Int32) (a2 : Int32) (M : Mm) : Option Int32 :=
  (itr (fun z : Int32 × Int32 => LEvenings_oldestOn_6_19 N a1 a2 M z.1 z.2) N ((-4), 0)).bind fun zv20 =>
  (if 0 ≤ zv20 then some (1 <<< (zv20 &&& 31))
  else some 0)
set_option maxHeartbeats 4000000 in
set_option maxRecDepth 100000 in
theorem cEvenings_oldestOn (l : Launch) (D : va_G) (cI : ClassId) (h : Nat → Nat) (N : Nat) (a1 : Int32) (a2 : Int32) (M : Mm) (r : Int32) (zhs : sEvenings_oldestOn N a1 a2 M = some r) : CtI l yX1_oldestOn cX1_oldestOn 5 (some .int) 3 D cI (wX h cI M) (wX h cI M) [.ref (h 59), .int a1, .int a2] r := by
  unfold sEvenings_oldestOn at zhs
  refine CtI_of (by decide +kernel) (Nat.le_of_ble_eq_true rfl) ⟨_, rfl⟩ ?_
  intro p e s m args below meth c A Q zls zH zlocs C zhw zhl zhret
  have zhx := C.1
  have zhb := C.2.1
  have zhown := C.2.2.2.2.1
  have zhtB := C.2.2.2.2.2.2.1
  have zhl : lv_has zls 5 [(0, .ref (h 59)), (1, .int a1), (2, .int a2)] := zhl
  refine lv_bipush (v := (-4)) zhx zhb dX1_oldestOn_0 (by decide) ?_
  refine lv_istore_n (lv' := [(3, .int (-4)), (0, .ref (h 59)), (1, .int a1), (2, .int a2)]) zhx zhb dX1_oldestOn_2 rfl zhl (by decide) rfl (fun zls zhl => ?_)
  refine lv_iconst (v := 0) zhx zhb dX1_oldestOn_3 (by decide) ?_
  refine lv_istore (lv' := [(4, .int 0), (3, .int (-4)), (0, .ref (h 59)), (1, .int a1), (2, .int a2)]) zhx zhb dX1_oldestOn_4 zhl (by decide) rfl (fun zls zhl => ?_)
  obtain ⟨zq19, zhq19, zhs⟩ := bnd_e zhs
  have hloop19 : ∀ (zn : Nat) (zx1 : Int32) (zx2 : Int32) (zq : (Int32)), itr (fun z : Int32 × Int32 => LEvenings_oldestOn_6_19 N a1 a2 M z.1 z.2) zn (zx1, zx2) = some zq → (∀ (zy1 : Int32), zy1 = zq → ∀ (zH : Heap) (zlocs : List Loc) (zls : Array Slot), lv_has zls 5 [(3, .int zy1)] → Hw D (wX h cI M) A s.heap zH zlocs → W p l e (RM 3) s m args below meth c zH zlocs 0 0 Q (F0 m 57 zls [])) → ∀ (zH : Heap) (zlocs : List Loc) (zls : Array Slot), lv_has zls 5 [(4, .int zx2), (3, .int zx1), (0, .ref (h 59)), (1, .int a1), (2, .int a2)] → Hw D (wX h cI M) A s.heap zH zlocs → W p l e (RM 3) s m args below meth c zH zlocs 0 0 Q (F0 m 6 zls []) := by
    intro zn
    induction zn with
    | zero => intro zx1 zx2 zq zhq; exact absurd zhq (fun h9 => itr_0 h9)
    | succ zn zih =>
        intro zx1 zx2 zq zhq k6_57 zH zlocs zls zhl zhw
        obtain ⟨zy9, zhs, zhq⟩ := itr_s zhq
        replace zhs : LEvenings_oldestOn_6_19 N a1 a2 M zx1 zx2 = some zy9 := zhs
        unfold LEvenings_oldestOn_6_19 at zhs
        refine lv_iload zhx zhb dX1_oldestOn_6 (lv_at zhl 0 rfl) ?_
        refine lv_aload_n zhx zhb dX1_oldestOn_8 rfl (lv_at zhl 2 rfl) ?_
        refine x_get C zhw inlX1 rfl 59 0 (by decide) kw_5_20 rfl (wX_c59 h cI M) rfl dX1_oldestOn_9 ?_
        refine x_getN C zhw inlX3 rfl 58 0 (by decide) (List.mem_of_getElem? (i := 33) rfl) rfl (wX_c58 h cI M) rfl dX1_oldestOn_12 ?_
        refine x_getN C zhw inlX10 rfl 22 1 (by decide) (List.mem_of_getElem? (i := 21) rfl) rfl (wX_c22 h cI M) rfl dX1_oldestOn_15 ?_
        refine x_getN C zhw inlX2 rfl 27 7 (by decide) (List.mem_of_getElem? (i := 9) rfl) rfl (wX_c27 h cI M) rfl dX1_oldestOn_18 ?_
        refine lv_icmp_ge (tgt := 57) zhx zhb dX1_oldestOn_21 (by decide) (fun zc9 => ?_) (fun zc9 => ?_)
        · replace zhs := br_T zhs zc9
          cases zhs
          exact k6_57 zx1 (itk_q zhq) zH zlocs zls (lv_sub zhl [1] rfl) zhw
        · replace zhs := br_F zhs zc9
          refine lv_iload_n zhx zhb dX1_oldestOn_24 rfl (lv_at zhl 4 rfl) ?_
          refine lv_iload zhx zhb dX1_oldestOn_25 (lv_at zhl 0 rfl) ?_
          obtain ⟨zv11, zhp, zhs⟩ := bnd_e zhs
          refine x_cSNI (As := [.int a2, .int zx2]) (rest := []) C zhw zhl (cOff_hasBit l D cI h a2 zx2 M zv11 zhp) (by decide) (by decide) (List.mem_of_getElem? (i := 26) rfl) kw_30_9 kw_1_2 kw_30_10 md_X11_hasBit rfl rfl (Nat.le_of_ble_eq_true rfl) dX1_oldestOn_27 (fun zH zlocs zhw hzv11 => ?_)
          refine lv_if_eq (tgt := 51) zhx zhb dX1_oldestOn_30 (by decide) (fun zc9 => ?_) (fun zc9 => ?_)
          · replace zhs := br_T zhs zc9
            obtain ⟨zv13, ze9, zhs⟩ := ltI_e zhs
            refine lv_iinc (v := zv13) (lv' := [(4, .int zv13), (3, .int zx1), (0, .ref (h 59)), (1, .int a1), (2, .int a2)]) zhx zhb dX1_oldestOn_51 zhl (k := 0) rfl (by rw [ze9]; rfl) (by decide) rfl (fun zls zhl => ?_)
            clear ze9
            refine lv_goto (tgt := 6) zhx zhb dX1_oldestOn_54 (by decide) ?_
            cases zhs
            exact zih zx1 zv13 zq (itk_l zhq) k6_57 zH zlocs zls zhl zhw
          · replace zhs := br_F zhs zc9
            refine lv_iload_n zhx zhb dX1_oldestOn_33 rfl (lv_at zhl 1 rfl) ?_
            refine lv_if_lt (tgt := 48) zhx zhb dX1_oldestOn_34 (by decide) (fun zc9 => ?_) (fun zc9 => ?_)
            · replace zhs := br_T zhs zc9
              refine lv_iload zhx zhb dX1_oldestOn_48 (lv_at zhl 0 rfl) ?_
              refine lv_istore_n (lv' := [(3, .int zx2), (4, .int zx2), (0, .ref (h 59)), (1, .int a1), (2, .int a2)]) zhx zhb dX1_oldestOn_50 rfl zhl (by decide) rfl (fun zls zhl => ?_)
              obtain ⟨zv15, ze9, zhs⟩ := ltI_e zhs
              refine lv_iinc (v := zv15) (lv' := [(4, .int zv15), (3, .int zx2), (0, .ref (h 59)), (1, .int a1), (2, .int a2)]) zhx zhb dX1_oldestOn_51 zhl (k := 1) rfl (by rw [ze9]; rfl) (by decide) rfl (fun zls zhl => ?_)
              clear ze9
              refine lv_goto (tgt := 6) zhx zhb dX1_oldestOn_54 (by decide) ?_
              cases zhs
              exact zih zx2 zv15 zq (itk_l zhq) k6_57 zH zlocs zls zhl zhw
            · replace zhs := br_F zhs zc9
              refine lv_aload_n zhx zhb dX1_oldestOn_37 rfl (lv_at zhl 2 rfl) ?_
              refine lv_iload_n zhx zhb dX1_oldestOn_38 rfl (lv_at zhl 3 rfl) ?_
              refine lv_iload zhx zhb dX1_oldestOn_39 (lv_at zhl 0 rfl) ?_
              refine lv_iload_n zhx zhb dX1_oldestOn_41 rfl (lv_at zhl 1 rfl) ?_
              obtain ⟨zv16, zhp, zhs⟩ := bnd_e zhs
              refine x_cVI (As := [.int a1, .int zx2, .int zx1]) (rest := []) C zhw zhl (cEvenings_isOlderOn l D cI h a1 zx2 zx1 M zv16 zhp) (by decide) (by decide) kw_31_15 kw_31_16 kw_31_17 kw_2_10 kw_31_18 md_X1_isOlderOn rfl 59 (wX_c59 h cI M) rfl rfl rfl rfl (Nat.le_of_ble_eq_true rfl) dX1_oldestOn_42 (fun zH zlocs zhw hzv16 => ?_)
              refine lv_if_eq (tgt := 51) zhx zhb dX1_oldestOn_45 (by decide) (fun zc9 => ?_) (fun zc9 => ?_)
              · replace zhs := br_T zhs zc9
                obtain ⟨zv17, ze9, zhs⟩ := ltI_e zhs
                refine lv_iinc (v := zv17) (lv' := [(4, .int zv17), (3, .int zx1), (0, .ref (h 59)), (1, .int a1), (2, .int a2)]) zhx zhb dX1_oldestOn_51 zhl (k := 0) rfl (by rw [ze9]; rfl) (by decide) rfl (fun zls zhl => ?_)
                clear ze9
                refine lv_goto (tgt := 6) zhx zhb dX1_oldestOn_54 (by decide) ?_
                cases zhs
                exact zih zx1 zv17 zq (itk_l zhq) k6_57 zH zlocs zls zhl zhw
              · replace zhs := br_F zhs zc9
                refine lv_iload zhx zhb dX1_oldestOn_48 (lv_at zhl 0 rfl) ?_
                refine lv_istore_n (lv' := [(3, .int zx2), (4, .int zx2), (0, .ref (h 59)), (1, .int a1), (2, .int a2)]) zhx zhb dX1_oldestOn_50 rfl zhl (by decide) rfl (fun zls zhl => ?_)
                obtain ⟨zv18, ze9, zhs⟩ := ltI_e zhs
                refine lv_iinc (v := zv18) (lv' := [(4, .int zv18), (3, .int zx2), (0, .ref (h 59)), (1, .int a1), (2, .int a2)]) zhx zhb dX1_oldestOn_51 zhl (k := 1) rfl (by rw [ze9]; rfl) (by decide) rfl (fun zls zhl => ?_)
                clear ze9
                refine lv_goto (tgt := 6) zhx zhb dX1_oldestOn_54 (by decide) ?_
                cases zhs
                exact zih zx2 zv18 zq (itk_l zhq) k6_57 zH zlocs zls zhl zhw
  refine hloop19 N (-4) 0 zq19 zhq19 (fun zv20 zhqe zH zlocs zls zhl zhw => ?_) zH zlocs zls zhl zhw
  · subst zhqe
    refine lv_iload_n zhx zhb dX1_oldestOn_57 rfl (lv_at zhl 0 rfl) ?_
    refine lv_if_ge (tgt := 65) zhx zhb dX1_oldestOn_58 (by decide) (fun zc9 => ?_) (fun zc9 => ?_)
    · replace zhs := br_T zhs zc9
      refine lv_iconst (v := 1) zhx zhb dX1_oldestOn_65 (by decide) ?_
      refine lv_iload_n zhx zhb dX1_oldestOn_66 rfl (lv_at zhl 0 rfl) ?_
      refine lv_ishl zhx zhb dX1_oldestOn_67 ?_
      cases zhs
      exact zhret _ _ _ _ dX1_oldestOn_68 (by rfl) zhw
    · replace zhs := br_F zhs zc9
      refine lv_iconst (v := 0) zhx zhb dX1_oldestOn_61 (by decide) ?_
      refine lv_goto (tgt := 68) zhx zhb dX1_oldestOn_62 (by decide) ?_
      cases zhs
      exact zhret _ _ _ _ dX1_oldestOn_68 (by rfl) zhw

-- OffFirst$Planner.eatenOn in (63, ())
def LPlanner_eatenOn_20_17 (N : Nat) (a1 : Int32) (a3 : Int32) (M : Mm) (zv2 : Int32) (zx3 : Int32) (zx4 : Int32) : Option ((Int32 × Int32) ⊕ ((Unit) ⊕ (Int32))) :=
  (if 4 ≤ zx4 then some (.inr (.inr zx3))
  else (sOff_hasBit a3 zx4).bind fun zv11 =>
  (if zv11 = 0 then ltI (zx4 + 1) fun zv12 =>
  some (.inl (zx3, zv12))
  else (sFoods_bitsOfSort_l zx4 M).bind fun zv13 =>
  (sEvenings_oldestOn N a1 (zv2 &&& zv13) M).bind fun zv14 =>
  (if zv14 = 0 then some (.inr (.inl ()))
  else ltI (zx3 ||| zv14) fun zv15 =>
  ltI (zx4 + 1) fun zv16 =>
  some (.inl (zv15, zv16)))))
def sPlanner_eatenOn (N : Nat) (a1 : Int32) (a2 : Int32) (a3 : Int32) (M : Mm) : Option Int32 :=
  (sEvenings_offOn a1 M).bind fun zv1 =>
  ltI (a2 &&& (zv1 ^^^ (-1))) fun zv2 =>
  ((itr (fun z : Int32 × Int32 => LPlanner_eatenOn_20_17 N a1 a3 M zv2 z.1 z.2) N (0, 0)).bind fun q => match q with
  | .inl () => some 0
  | .inr zv18 => some zv18)
set_option maxHeartbeats 4000000 in
set_option maxRecDepth 100000 in
theorem cPlanner_eatenOn (l : Launch) (D : va_G) (cI : ClassId) (h : Nat → Nat) (N : Nat) (a1 : Int32) (a2 : Int32) (a3 : Int32) (M : Mm) (r : Int32) (zhs : sPlanner_eatenOn N a1 a2 a3 M = some r) : CtI l yX6_eatenOn cX6_eatenOn 8 (some .int) 4 D cI (wX h cI M) (wX h cI M) [.ref (h 63), .int a1, .int a2, .int a3] r := by
  unfold sPlanner_eatenOn at zhs
  refine CtI_of (by decide +kernel) (Nat.le_of_ble_eq_true rfl) ⟨_, rfl⟩ ?_
  intro p e s m args below meth c A Q zls zH zlocs C zhw zhl zhret
  have zhx := C.1
  have zhb := C.2.1
  have zhown := C.2.2.2.2.1
  have zhtB := C.2.2.2.2.2.2.1
  have zhl : lv_has zls 8 [(0, .ref (h 63)), (1, .int a1), (2, .int a2), (3, .int a3)] := zhl
  refine lv_iload_n zhx zhb dX6_eatenOn_0 rfl (lv_at zhl 2 rfl) ?_
  refine lv_aload_n zhx zhb dX6_eatenOn_1 rfl (lv_at zhl 0 rfl) ?_
  refine x_get C zhw inlX6 rfl 63 1 (by decide) kw_6_4 rfl (wX_c63 h cI M) rfl dX6_eatenOn_2 ?_
  refine lv_iload_n zhx zhb dX6_eatenOn_5 rfl (lv_at zhl 1 rfl) ?_
  obtain ⟨zv1, zhp, zhs⟩ := bnd_e zhs
  refine x_cVI (As := [.int a1]) (rest := [.int a2]) C zhw zhl (cEvenings_offOn l D cI h a1 M zv1 zhp) (by decide) (by decide) kw_30_1 kw_30_2 kw_30_3 kw_2_10 kw_30_4 md_X1_offOn rfl 59 (wX_c59 h cI M) rfl rfl rfl rfl (Nat.le_of_ble_eq_true rfl) dX6_eatenOn_6 (fun zH zlocs zhw hn9 => ?_)
  refine lv_iconst (v := (-1)) zhx zhb dX6_eatenOn_9 (by decide) ?_
  refine lv_ixor zhx zhb dX6_eatenOn_10 ?_
  refine lv_iand zhx zhb dX6_eatenOn_11 ?_
  obtain ⟨zv2, ze9, zhs⟩ := ltI_e zhs
  refine lv_topi (fun zy9 ze8 => ?_)
  obtain rfl : zv2 = zy9 := ze9.trans ze8.symm
  clear ze9 ze8
  refine lv_istore (lv' := [(4, .int zv2), (0, .ref (h 63)), (1, .int a1), (2, .int a2), (3, .int a3)]) zhx zhb dX6_eatenOn_12 zhl (by decide) rfl (fun zls zhl => ?_)
  refine lv_iconst (v := 0) zhx zhb dX6_eatenOn_14 (by decide) ?_
  refine lv_istore (lv' := [(5, .int 0), (4, .int zv2), (0, .ref (h 63)), (1, .int a1), (2, .int a2), (3, .int a3)]) zhx zhb dX6_eatenOn_15 zhl (by decide) rfl (fun zls zhl => ?_)
  refine lv_iconst (v := 0) zhx zhb dX6_eatenOn_17 (by decide) ?_
  refine lv_istore (lv' := [(6, .int 0), (5, .int 0), (4, .int zv2), (0, .ref (h 63)), (1, .int a1), (2, .int a2), (3, .int a3)]) zhx zhb dX6_eatenOn_18 zhl (by decide) rfl (fun zls zhl => ?_)
  obtain ⟨zq17, zhq17, zhs⟩ := bnd_e zhs
  have hloop17 : ∀ (zn : Nat) (zx3 : Int32) (zx4 : Int32) (zq : (Unit) ⊕ (Int32)), itr (fun z : Int32 × Int32 => LPlanner_eatenOn_20_17 N a1 a3 M zv2 z.1 z.2) zn (zx3, zx4) = some zq → ((.inl ()) = zq → ∀ (zH : Heap) (zlocs : List Loc) (zls : Array Slot), lv_has zls 8 [] → Hw D (wX h cI M) A s.heap zH zlocs → W p l e (RM 4) s m args below meth c zH zlocs 0 0 Q (F0 m 68 zls [])) → (∀ (zy1 : Int32), (.inr zy1) = zq → ∀ (zH : Heap) (zlocs : List Loc) (zls : Array Slot), lv_has zls 8 [(5, .int zy1)] → Hw D (wX h cI M) A s.heap zH zlocs → W p l e (RM 4) s m args below meth c zH zlocs 0 0 Q (F0 m 83 zls [])) → ∀ (zH : Heap) (zlocs : List Loc) (zls : Array Slot), lv_has zls 8 [(6, .int zx4), (5, .int zx3), (4, .int zv2), (0, .ref (h 63)), (1, .int a1), (3, .int a3)] → Hw D (wX h cI M) A s.heap zH zlocs → W p l e (RM 4) s m args below meth c zH zlocs 0 0 Q (F0 m 20 zls []) := by
    intro zn
    induction zn with
    | zero => intro zx3 zx4 zq zhq; exact absurd zhq (fun h9 => itr_0 h9)
    | succ zn zih =>
        intro zx3 zx4 zq zhq k20_68 k20_83 zH zlocs zls zhl zhw
        obtain ⟨zy9, zhs, zhq⟩ := itr_s zhq
        replace zhs : LPlanner_eatenOn_20_17 N a1 a3 M zv2 zx3 zx4 = some zy9 := zhs
        unfold LPlanner_eatenOn_20_17 at zhs
        refine lv_iload zhx zhb dX6_eatenOn_20 (lv_at zhl 0 rfl) ?_
        refine lv_iconst (v := 4) zhx zhb dX6_eatenOn_22 (by decide) ?_
        refine lv_icmp_ge (tgt := 83) zhx zhb dX6_eatenOn_23 (by decide) (fun zc9 => ?_) (fun zc9 => ?_)
        · replace zhs := br_T zhs zc9
          cases zhs
          exact k20_83 zx3 (itk_q zhq) zH zlocs zls (lv_sub zhl [1] rfl) zhw
        · replace zhs := br_F zhs zc9
          refine lv_iload_n zhx zhb dX6_eatenOn_26 rfl (lv_at zhl 5 rfl) ?_
          refine lv_iload zhx zhb dX6_eatenOn_27 (lv_at zhl 0 rfl) ?_
          obtain ⟨zv11, zhp, zhs⟩ := bnd_e zhs
          refine x_cSNI (As := [.int a3, .int zx4]) (rest := []) C zhw zhl (cOff_hasBit l D cI h a3 zx4 M zv11 zhp) (by decide) (by decide) (List.mem_of_getElem? (i := 25) rfl) kw_30_9 kw_1_2 kw_30_10 md_X11_hasBit rfl rfl (Nat.le_of_ble_eq_true rfl) dX6_eatenOn_29 (fun zH zlocs zhw hzv11 => ?_)
          refine lv_if_eq (tgt := 77) zhx zhb dX6_eatenOn_32 (by decide) (fun zc9 => ?_) (fun zc9 => ?_)
          · replace zhs := br_T zhs zc9
            obtain ⟨zv12, ze9, zhs⟩ := ltI_e zhs
            refine lv_iinc (v := zv12) (lv' := [(6, .int zv12), (5, .int zx3), (4, .int zv2), (0, .ref (h 63)), (1, .int a1), (3, .int a3)]) zhx zhb dX6_eatenOn_77 zhl (k := 0) rfl (by rw [ze9]; rfl) (by decide) rfl (fun zls zhl => ?_)
            clear ze9
            refine lv_goto (tgt := 20) zhx zhb dX6_eatenOn_80 (by decide) ?_
            cases zhs
            exact zih zx3 zv12 zq (itk_l zhq) k20_68 k20_83 zH zlocs zls zhl zhw
          · replace zhs := br_F zhs zc9
            refine lv_aload_n zhx zhb dX6_eatenOn_35 rfl (lv_at zhl 3 rfl) ?_
            refine x_get C zhw inlX6 rfl 63 1 (by decide) kw_6_4 rfl (wX_c63 h cI M) rfl dX6_eatenOn_36 ?_
            refine lv_iload_n zhx zhb dX6_eatenOn_39 rfl (lv_at zhl 4 rfl) ?_
            refine lv_iload zhx zhb dX6_eatenOn_40 (lv_at zhl 2 rfl) ?_
            refine lv_aload_n zhx zhb dX6_eatenOn_42 rfl (lv_at zhl 3 rfl) ?_
            refine x_get C zhw inlX6 rfl 63 0 (by decide) kw_6_3 rfl (wX_c63 h cI M) rfl dX6_eatenOn_43 ?_
            refine x_getN C zhw inlX3 rfl 58 0 (by decide) (List.mem_of_getElem? (i := 34) rfl) rfl (wX_c58 h cI M) rfl dX6_eatenOn_46 ?_
            refine x_getN C zhw inlX10 rfl 22 1 (by decide) (List.mem_of_getElem? (i := 23) rfl) rfl (wX_c22 h cI M) rfl dX6_eatenOn_49 ?_
            refine lv_iload zhx zhb dX6_eatenOn_52 (lv_at zhl 0 rfl) ?_
            obtain ⟨zv13, zhp, zhs⟩ := bnd_e zhs
            refine x_cVI (As := [.int zx4]) (rest := [.int zv2, .int a1, .ref (h 59)]) C zhw zhl (cFoods_bitsOfSort_l l D cI h zx4 M zv13 zhp) (by decide) (by decide) kw_31_7 kw_31_8 kw_31_9 kw_3_15 kw_31_10 md_X2_bitsOfSort rfl 27 (wX_c27 h cI M) rfl rfl rfl rfl (Nat.le_of_ble_eq_true rfl) dX6_eatenOn_54 (fun zH zlocs zhw hn9 => ?_)
            refine lv_iand zhx zhb dX6_eatenOn_57 ?_
            obtain ⟨zv14, zhp, zhs⟩ := bnd_e zhs
            refine x_cVI (As := [.int a1, .int (zv2 &&& zv13)]) (rest := []) C zhw zhl (cEvenings_oldestOn l D cI h N a1 (zv2 &&& zv13) M zv14 zhp) (by decide) (by decide) kw_31_11 kw_31_12 kw_31_13 kw_2_10 kw_31_14 md_X1_oldestOn rfl 59 (wX_c59 h cI M) rfl rfl rfl rfl (Nat.le_of_ble_eq_true rfl) dX6_eatenOn_58 (fun zH zlocs zhw hn9 => ?_)
            refine lv_istore (lv' := [(7, .int zv14), (6, .int zx4), (5, .int zx3), (4, .int zv2), (0, .ref (h 63)), (1, .int a1), (3, .int a3)]) zhx zhb dX6_eatenOn_61 zhl (by decide) rfl (fun zls zhl => ?_)
            refine lv_iload zhx zhb dX6_eatenOn_63 (lv_at zhl 0 rfl) ?_
            refine lv_if_ne (tgt := 70) zhx zhb dX6_eatenOn_65 (by decide) (fun zc9 => ?_) (fun zc9 => ?_)
            · replace zhs := br_F zhs zc9
              refine lv_iload zhx zhb dX6_eatenOn_70 (lv_at zhl 2 rfl) ?_
              refine lv_iload zhx zhb dX6_eatenOn_72 (lv_at zhl 0 rfl) ?_
              refine lv_ior zhx zhb dX6_eatenOn_74 ?_
              obtain ⟨zv15, ze9, zhs⟩ := ltI_e zhs
              refine lv_topi (fun zy9 ze8 => ?_)
              obtain rfl : zv15 = zy9 := ze9.trans ze8.symm
              clear ze9 ze8
              refine lv_istore (lv' := [(5, .int zv15), (7, .int zv14), (6, .int zx4), (4, .int zv2), (0, .ref (h 63)), (1, .int a1), (3, .int a3)]) zhx zhb dX6_eatenOn_75 zhl (by decide) rfl (fun zls zhl => ?_)
              obtain ⟨zv16, ze9, zhs⟩ := ltI_e zhs
              refine lv_iinc (v := zv16) (lv' := [(6, .int zv16), (5, .int zv15), (7, .int zv14), (4, .int zv2), (0, .ref (h 63)), (1, .int a1), (3, .int a3)]) zhx zhb dX6_eatenOn_77 zhl (k := 2) rfl (by rw [ze9]; rfl) (by decide) rfl (fun zls zhl => ?_)
              clear ze9
              refine lv_goto (tgt := 20) zhx zhb dX6_eatenOn_80 (by decide) ?_
              cases zhs
              exact zih zv15 zv16 zq (itk_l zhq) k20_68 k20_83 zH zlocs zls (lv_sub zhl [0, 1, 3, 4, 5, 6] rfl) zhw
            · replace zhs := br_T zhs zc9
              cases zhs
              exact k20_68 (itk_q zhq) zH zlocs zls (lv_sub zhl [] rfl) zhw
  refine hloop17 N 0 0 zq17 zhq17 (fun zhqe zH zlocs zls zhl zhw => ?_) (fun zv18 zhqe zH zlocs zls zhl zhw => ?_) zH zlocs zls (lv_sub zhl [0, 1, 2, 3, 4, 6] rfl) zhw
  · subst zhqe
    try dsimp only at zhs
    refine lv_iconst (v := 0) zhx zhb dX6_eatenOn_68 (by decide) ?_
    cases zhs
    exact zhret _ _ _ _ dX6_eatenOn_69 (by rfl) zhw
  · subst zhqe
    try dsimp only at zhs
    refine lv_iload zhx zhb dX6_eatenOn_83 (lv_at zhl 0 rfl) ?_
    cases zhs
    exact zhret _ _ _ _ dX6_eatenOn_85 (by rfl) zhw

-- OffFirst$Planner.tryEvening in (None, (63,))
def LPlanner_tryEvening_62_28 (N : Nat) (a1 : Int32) (a2 : Int32) (a3 : Int32) (rec : Int32 → Int32 → Int32 → Mm → Option Mm) (zx6 : Int32) (zM7 : Mm) : Option ((Int32 × Mm) ⊕ ((Mm))) :=
  (if (zM7 22 3) ≤ zx6 then some (.inr zM7)
  else (sTold_sortsOfDish_l zx6 zM7).bind fun zv18 =>
  (sPlanner_eatenOn N a1 a2 zv18 zM7).bind fun zv19 =>
  (if zv19 = 0 then ltI (zx6 + 1) fun zv23 =>
  some (.inl (zv23, zM7))
  else ltM (putf 4 zM7 64 a1 zx6) fun zM24 =>
  (sPlanner_costOfHunger N zv18 zM24).bind fun zv25 =>
  (rec (a1 + 1) (a2 &&& (zv19 ^^^ (-1))) (a3 + zv25) zM24).bind fun zM26 =>
  ltI (zx6 + 1) fun zv27 =>
  some (.inl (zv27, zM26))))
def sPlanner_tryEveningB (N : Nat) (rec : Int32 → Int32 → Int32 → Mm → Option Mm) (a1 : Int32) (a2 : Int32) (a3 : Int32) (M : Mm) : Option Mm :=
  (if a3 < (M 63 5) then (if (M 63 4) ≤ a1 then (sPlanner_coinLeft N a2 M).bind fun zv1 =>
  (sPlanner_settle N (a3 + zv1) M).bind fun zM2 =>
  some zM2
  else (if a1 < 4 then ltM (putf 4 M 64 a1 (-4)) fun zM3 =>
  (sPlanner_costOfHunger N 0 zM3).bind fun zv4 =>
  (rec (a1 + 1) a2 (a3 + zv4) zM3).bind fun zM5 =>
  (itr (fun z : Int32 × Mm => LPlanner_tryEvening_62_28 N a1 a2 a3 rec z.1 z.2) N (0, zM5)).bind fun zM29 =>
  some zM29
  else (sPlanner_coinLeft N a2 M).bind fun zv30 =>
  (sPlanner_settle N (a3 + zv30) M).bind fun zM31 =>
  some zM31))
  else some M)
def sPlanner_tryEvening (N : Nat) : Nat → Int32 → Int32 → Int32 → Mm → Option Mm
  | 0 => fun _ _ _ _ => none
  | d + 1 => sPlanner_tryEveningB N (sPlanner_tryEvening N d)
set_option maxHeartbeats 4000000 in
set_option maxRecDepth 100000 in
theorem cPlanner_tryEveningB (l : Launch) (D : va_G) (cI : ClassId) (h : Nat → Nat) (N d : Nat) (rec : Int32 → Int32 → Int32 → Mm → Option Mm) (hrec : ∀ (a1 : Int32) (a2 : Int32) (a3 : Int32) (M M' : Mm), rec a1 a2 a3 M = some M' → CtV l yX6_tryEvening cX6_tryEvening 7 (5 + d) D cI (wX h cI M) (wX h cI M') [.ref (h 63), .int a1, .int a2, .int a3]) (a1 : Int32) (a2 : Int32) (a3 : Int32) (M : Mm) (M' : Mm) (zhs : sPlanner_tryEveningB N rec a1 a2 a3 M = some M') : CtV l yX6_tryEvening cX6_tryEvening 7 (5 + d + 1) D cI (wX h cI M) (wX h cI M') [.ref (h 63), .int a1, .int a2, .int a3] := by
  unfold sPlanner_tryEveningB at zhs
  refine CtV_of (by decide +kernel) (Nat.le_of_ble_eq_true rfl) ?_
  intro p e s m args below meth c A Q zls zH zlocs C zhw zhl zhret
  have zhx := C.1
  have zhb := C.2.1
  have zhown := C.2.2.2.2.1
  have zhtB := C.2.2.2.2.2.2.1
  have zhl : lv_has zls 7 [(0, .ref (h 63)), (1, .int a1), (2, .int a2), (3, .int a3)] := zhl
  refine lv_iload_n zhx zhb dX6_tryEvening_0 rfl (lv_at zhl 3 rfl) ?_
  refine lv_aload_n zhx zhb dX6_tryEvening_1 rfl (lv_at zhl 0 rfl) ?_
  refine x_get C zhw inlX6 rfl 63 5 (by decide) kw_29_7 rfl (wX_c63 h cI M) rfl dX6_tryEvening_2 ?_
  refine lv_icmp_lt (tgt := 9) zhx zhb dX6_tryEvening_5 (by decide) (fun zc9 => ?_) (fun zc9 => ?_)
  · replace zhs := br_T zhs zc9
    refine lv_iload_n zhx zhb dX6_tryEvening_9 rfl (lv_at zhl 1 rfl) ?_
    refine lv_aload_n zhx zhb dX6_tryEvening_10 rfl (lv_at zhl 0 rfl) ?_
    refine x_get C zhw inlX6 rfl 63 4 (by decide) kw_29_5 rfl (wX_c63 h cI M) rfl dX6_tryEvening_11 ?_
    refine lv_icmp_ge (tgt := 22) zhx zhb dX6_tryEvening_14 (by decide) (fun zc9 => ?_) (fun zc9 => ?_)
    · replace zhs := br_T zhs zc9
      refine lv_aload_n zhx zhb dX6_tryEvening_22 rfl (lv_at zhl 0 rfl) ?_
      refine lv_iload_n zhx zhb dX6_tryEvening_23 rfl (lv_at zhl 3 rfl) ?_
      refine lv_aload_n zhx zhb dX6_tryEvening_24 rfl (lv_at zhl 0 rfl) ?_
      refine lv_iload_n zhx zhb dX6_tryEvening_25 rfl (lv_at zhl 2 rfl) ?_
      obtain ⟨zv1, zhp, zhs⟩ := bnd_e zhs
      refine x_cVI (As := [.int a2]) (rest := [.int a3, .ref (h 63)]) C zhw zhl (cPlanner_coinLeft l D cI h N a2 M zv1 zhp) (by omega) (by decide) kw_29_21 kw_29_22 kw_29_23 kw_2_14 kw_30_0 md_X6_coinLeft rfl 63 (wX_c63 h cI M) rfl rfl rfl rfl (Nat.le_of_ble_eq_true rfl) dX6_tryEvening_26 (fun zH zlocs zhw hn9 => ?_)
      refine lv_iadd zhx zhb dX6_tryEvening_29 ?_
      obtain ⟨zM2, zhp, zhs⟩ := bnd_e zhs
      refine x_cVV (As := [.int (a3 + zv1)]) (rest := []) C zhw zhl (cPlanner_settle l D cI h N (a3 + zv1) M zM2 zhp) (by omega) (by decide) kw_30_11 kw_30_12 kw_30_13 kw_2_14 kw_30_14 md_X6_settle rfl 63 (wX_c63 h cI M) rfl rfl rfl rfl (Nat.le_of_ble_eq_true rfl) dX6_tryEvening_30 (fun zH zlocs zhw => ?_)
      cases zhs
      exact zhret _ _ _ _ dX6_tryEvening_33 zhw
    · replace zhs := br_F zhs zc9
      refine lv_iload_n zhx zhb dX6_tryEvening_17 rfl (lv_at zhl 1 rfl) ?_
      refine lv_iconst (v := 4) zhx zhb dX6_tryEvening_18 (by decide) ?_
      refine lv_icmp_lt (tgt := 34) zhx zhb dX6_tryEvening_19 (by decide) (fun zc9 => ?_) (fun zc9 => ?_)
      · replace zhs := br_T zhs zc9
        refine lv_aload_n zhx zhb dX6_tryEvening_34 rfl (lv_at zhl 0 rfl) ?_
        refine x_get C zhw inlX6 rfl 63 2 (by decide) kw_6_1 rfl (wX_c63 h cI M) rfl dX6_tryEvening_35 ?_
        refine lv_iload_n zhx zhb dX6_tryEvening_38 rfl (lv_at zhl 1 rfl) ?_
        refine lv_bipush (v := (-4)) zhx zhb dX6_tryEvening_39 (by decide) ?_
        refine x_cSNV (As := [.ref (h 64), .int a1, .int (-4)]) (rest := []) C zhw zhl (c_put l D cI (wX h cI) M 64 4 (h 64) (wX_c64 h cI M) (fun j v => wX_a64 h cI M j v) (by decide) a1 (-4)) (by omega) (by decide) (List.mem_of_getElem? (i := 23) rfl) kw_7_0 kw_1_2 kw_7_1 md_X11_put rfl rfl (Nat.le_of_ble_eq_true rfl) dX6_tryEvening_41 (fun zH zlocs zhw => ?_)
        obtain ⟨zM3, ze9, zhs⟩ := ltM_e zhs
        rw [← ze9] at zhw; clear ze9
        refine lv_aload_n zhx zhb dX6_tryEvening_44 rfl (lv_at zhl 0 rfl) ?_
        refine lv_iload_n zhx zhb dX6_tryEvening_45 rfl (lv_at zhl 1 rfl) ?_
        refine lv_iconst (v := 1) zhx zhb dX6_tryEvening_46 (by decide) ?_
        refine lv_iadd zhx zhb dX6_tryEvening_47 ?_
        refine lv_iload_n zhx zhb dX6_tryEvening_48 rfl (lv_at zhl 2 rfl) ?_
        refine lv_iload_n zhx zhb dX6_tryEvening_49 rfl (lv_at zhl 3 rfl) ?_
        refine lv_aload_n zhx zhb dX6_tryEvening_50 rfl (lv_at zhl 0 rfl) ?_
        refine lv_iconst (v := 0) zhx zhb dX6_tryEvening_51 (by decide) ?_
        obtain ⟨zv4, zhp, zhs⟩ := bnd_e zhs
        refine x_cVI (As := [.int 0]) (rest := [.int a3, .int a2, .int (a1 + 1), .ref (h 63)]) C zhw zhl (cPlanner_costOfHunger l D cI h N 0 zM3 zv4 zhp) (by omega) (by decide) kw_30_15 kw_30_16 kw_30_17 kw_2_14 kw_30_18 md_X6_costOfHunger rfl 63 (wX_c63 h cI zM3) rfl rfl rfl rfl (Nat.le_of_ble_eq_true rfl) dX6_tryEvening_52 (fun zH zlocs zhw hn9 => ?_)
        refine lv_iadd zhx zhb dX6_tryEvening_55 ?_
        obtain ⟨zM5, zhp, zhs⟩ := bnd_e zhs
        refine x_cSV (As := [.ref (h 63), .int (a1 + 1), .int a2, .int (a3 + zv4)]) (rest := []) C zhw zhl (hrec (a1 + 1) a2 (a3 + zv4) zM3 zM5 zhp) (by omega) (by decide) kw_29_18 kw_29_19 kw_2_14 kw_29_20 md_X6_tryEvening rfl rfl (Nat.le_of_ble_eq_true rfl) dX6_tryEvening_56 (fun zH zlocs zhw => ?_)
        refine lv_iconst (v := 0) zhx zhb dX6_tryEvening_59 (by decide) ?_
        refine lv_istore (lv' := [(4, .int 0), (0, .ref (h 63)), (1, .int a1), (2, .int a2), (3, .int a3)]) zhx zhb dX6_tryEvening_60 zhl (by decide) rfl (fun zls zhl => ?_)
        obtain ⟨zq28, zhq28, zhs⟩ := bnd_e zhs
        have hloop28 : ∀ (zn : Nat) (zx6 : Int32) (zM7 : Mm) (zq : (Mm)), itr (fun z : Int32 × Mm => LPlanner_tryEvening_62_28 N a1 a2 a3 rec z.1 z.2) zn (zx6, zM7) = some zq → (∀ (zy1 : Mm), zy1 = zq → ∀ (zH : Heap) (zlocs : List Loc) (zls : Array Slot), lv_has zls 7 [] → Hw D (wX h cI zy1) A s.heap zH zlocs → W p l e (RM (5 + d + 1)) s m args below meth c zH zlocs 0 0 Q (F0 m 143 zls [])) → ∀ (zH : Heap) (zlocs : List Loc) (zls : Array Slot), lv_has zls 7 [(4, .int zx6), (0, .ref (h 63)), (1, .int a1), (2, .int a2), (3, .int a3)] → Hw D (wX h cI zM7) A s.heap zH zlocs → W p l e (RM (5 + d + 1)) s m args below meth c zH zlocs 0 0 Q (F0 m 62 zls []) := by
          intro zn
          induction zn with
          | zero => intro zx6 zM7 zq zhq; exact absurd zhq (fun h9 => itr_0 h9)
          | succ zn zih =>
              intro zx6 zM7 zq zhq k62_143 zH zlocs zls zhl zhw
              obtain ⟨zy9, zhs, zhq⟩ := itr_s zhq
              replace zhs : LPlanner_tryEvening_62_28 N a1 a2 a3 rec zx6 zM7 = some zy9 := zhs
              unfold LPlanner_tryEvening_62_28 at zhs
              refine lv_iload zhx zhb dX6_tryEvening_62 (lv_at zhl 0 rfl) ?_
              refine lv_aload_n zhx zhb dX6_tryEvening_64 rfl (lv_at zhl 1 rfl) ?_
              refine x_get C zhw inlX6 rfl 63 0 (by decide) kw_6_3 rfl (wX_c63 h cI zM7) rfl dX6_tryEvening_65 ?_
              refine x_getN C zhw inlX3 rfl 58 0 (by decide) (List.mem_of_getElem? (i := 34) rfl) rfl (wX_c58 h cI zM7) rfl dX6_tryEvening_68 ?_
              refine x_getN C zhw inlX10 rfl 22 3 (by decide) (List.mem_of_getElem? (i := 24) rfl) rfl (wX_c22 h cI zM7) rfl dX6_tryEvening_71 ?_
              refine lv_icmp_ge (tgt := 143) zhx zhb dX6_tryEvening_74 (by decide) (fun zc9 => ?_) (fun zc9 => ?_)
              · replace zhs := br_T zhs zc9
                cases zhs
                exact k62_143 zM7 (itk_q zhq) zH zlocs zls (lv_sub zhl [] rfl) zhw
              · replace zhs := br_F zhs zc9
                refine lv_aload_n zhx zhb dX6_tryEvening_77 rfl (lv_at zhl 1 rfl) ?_
                refine x_get C zhw inlX6 rfl 63 0 (by decide) kw_6_3 rfl (wX_c63 h cI zM7) rfl dX6_tryEvening_78 ?_
                refine x_getN C zhw inlX3 rfl 58 0 (by decide) (List.mem_of_getElem? (i := 34) rfl) rfl (wX_c58 h cI zM7) rfl dX6_tryEvening_81 ?_
                refine lv_iload zhx zhb dX6_tryEvening_84 (lv_at zhl 0 rfl) ?_
                obtain ⟨zv18, zhp, zhs⟩ := bnd_e zhs
                refine x_cVI (As := [.int zx6]) (rest := []) C zhw zhl (cTold_sortsOfDish_l l D cI h zx6 zM7 zv18 zhp) (by omega) (by decide) kw_30_23 kw_31_0 kw_31_1 kw_1_19 kw_31_2 md_X10_sortsOfDish rfl 22 (wX_c22 h cI zM7) rfl rfl rfl rfl (Nat.le_of_ble_eq_true rfl) dX6_tryEvening_86 (fun zH zlocs zhw hn9 => ?_)
                refine lv_istore (lv' := [(5, .int zv18), (4, .int zx6), (0, .ref (h 63)), (1, .int a1), (2, .int a2), (3, .int a3)]) zhx zhb dX6_tryEvening_89 zhl (by decide) rfl (fun zls zhl => ?_)
                refine lv_aload_n zhx zhb dX6_tryEvening_91 rfl (lv_at zhl 2 rfl) ?_
                refine lv_iload_n zhx zhb dX6_tryEvening_92 rfl (lv_at zhl 3 rfl) ?_
                refine lv_iload_n zhx zhb dX6_tryEvening_93 rfl (lv_at zhl 4 rfl) ?_
                refine lv_iload zhx zhb dX6_tryEvening_94 (lv_at zhl 0 rfl) ?_
                obtain ⟨zv19, zhp, zhs⟩ := bnd_e zhs
                refine x_cVI (As := [.int a1, .int a2, .int zv18]) (rest := []) C zhw zhl (cPlanner_eatenOn l D cI h N a1 a2 zv18 zM7 zv19 zhp) (by omega) (by decide) kw_31_3 kw_31_4 kw_31_5 kw_2_14 kw_31_6 md_X6_eatenOn rfl 63 (wX_c63 h cI zM7) rfl rfl rfl rfl (Nat.le_of_ble_eq_true rfl) dX6_tryEvening_96 (fun zH zlocs zhw hn9 => ?_)
                refine lv_istore (lv' := [(6, .int zv19), (5, .int zv18), (4, .int zx6), (0, .ref (h 63)), (1, .int a1), (2, .int a2), (3, .int a3)]) zhx zhb dX6_tryEvening_99 zhl (by decide) rfl (fun zls zhl => ?_)
                refine lv_iload zhx zhb dX6_tryEvening_101 (lv_at zhl 0 rfl) ?_
                refine lv_if_eq (tgt := 137) zhx zhb dX6_tryEvening_103 (by decide) (fun zc9 => ?_) (fun zc9 => ?_)
                · replace zhs := br_T zhs zc9
                  obtain ⟨zv23, ze9, zhs⟩ := ltI_e zhs
                  refine lv_iinc (v := zv23) (lv' := [(4, .int zv23), (6, .int zv19), (5, .int zv18), (0, .ref (h 63)), (1, .int a1), (2, .int a2), (3, .int a3)]) zhx zhb dX6_tryEvening_137 zhl (k := 2) rfl (by rw [ze9]; rfl) (by decide) rfl (fun zls zhl => ?_)
                  clear ze9
                  refine lv_goto (tgt := 62) zhx zhb dX6_tryEvening_140 (by decide) ?_
                  cases zhs
                  exact zih zv23 zM7 zq (itk_l zhq) k62_143 zH zlocs zls (lv_sub zhl [0, 3, 4, 5, 6] rfl) zhw
                · replace zhs := br_F zhs zc9
                  refine lv_aload_n zhx zhb dX6_tryEvening_106 rfl (lv_at zhl 3 rfl) ?_
                  refine x_get C zhw inlX6 rfl 63 2 (by decide) kw_6_1 rfl (wX_c63 h cI zM7) rfl dX6_tryEvening_107 ?_
                  refine lv_iload_n zhx zhb dX6_tryEvening_110 rfl (lv_at zhl 4 rfl) ?_
                  refine lv_iload zhx zhb dX6_tryEvening_111 (lv_at zhl 2 rfl) ?_
                  refine x_cSNV (As := [.ref (h 64), .int a1, .int zx6]) (rest := []) C zhw zhl (c_put l D cI (wX h cI) zM7 64 4 (h 64) (wX_c64 h cI zM7) (fun j v => wX_a64 h cI zM7 j v) (by decide) a1 zx6) (by omega) (by decide) (List.mem_of_getElem? (i := 23) rfl) kw_7_0 kw_1_2 kw_7_1 md_X11_put rfl rfl (Nat.le_of_ble_eq_true rfl) dX6_tryEvening_113 (fun zH zlocs zhw => ?_)
                  obtain ⟨zM24, ze9, zhs⟩ := ltM_e zhs
                  rw [← ze9] at zhw; clear ze9
                  refine lv_aload_n zhx zhb dX6_tryEvening_116 rfl (lv_at zhl 3 rfl) ?_
                  refine lv_iload_n zhx zhb dX6_tryEvening_117 rfl (lv_at zhl 4 rfl) ?_
                  refine lv_iconst (v := 1) zhx zhb dX6_tryEvening_118 (by decide) ?_
                  refine lv_iadd zhx zhb dX6_tryEvening_119 ?_
                  refine lv_iload_n zhx zhb dX6_tryEvening_120 rfl (lv_at zhl 5 rfl) ?_
                  refine lv_iload zhx zhb dX6_tryEvening_121 (lv_at zhl 0 rfl) ?_
                  refine lv_iconst (v := (-1)) zhx zhb dX6_tryEvening_123 (by decide) ?_
                  refine lv_ixor zhx zhb dX6_tryEvening_124 ?_
                  refine lv_iand zhx zhb dX6_tryEvening_125 ?_
                  refine lv_iload_n zhx zhb dX6_tryEvening_126 rfl (lv_at zhl 6 rfl) ?_
                  refine lv_aload_n zhx zhb dX6_tryEvening_127 rfl (lv_at zhl 3 rfl) ?_
                  refine lv_iload zhx zhb dX6_tryEvening_128 (lv_at zhl 1 rfl) ?_
                  obtain ⟨zv25, zhp, zhs⟩ := bnd_e zhs
                  refine x_cVI (As := [.int zv18]) (rest := [.int a3, .int (a2 &&& (zv19 ^^^ (-1))), .int (a1 + 1), .ref (h 63)]) C zhw zhl (cPlanner_costOfHunger l D cI h N zv18 zM24 zv25 zhp) (by omega) (by decide) kw_30_15 kw_30_16 kw_30_17 kw_2_14 kw_30_18 md_X6_costOfHunger rfl 63 (wX_c63 h cI zM24) rfl rfl rfl rfl (Nat.le_of_ble_eq_true rfl) dX6_tryEvening_130 (fun zH zlocs zhw hn9 => ?_)
                  refine lv_iadd zhx zhb dX6_tryEvening_133 ?_
                  obtain ⟨zM26, zhp, zhs⟩ := bnd_e zhs
                  refine x_cSV (As := [.ref (h 63), .int (a1 + 1), .int (a2 &&& (zv19 ^^^ (-1))), .int (a3 + zv25)]) (rest := []) C zhw zhl (hrec (a1 + 1) (a2 &&& (zv19 ^^^ (-1))) (a3 + zv25) zM24 zM26 zhp) (by omega) (by decide) kw_29_18 kw_29_19 kw_2_14 kw_29_20 md_X6_tryEvening rfl rfl (Nat.le_of_ble_eq_true rfl) dX6_tryEvening_134 (fun zH zlocs zhw => ?_)
                  obtain ⟨zv27, ze9, zhs⟩ := ltI_e zhs
                  refine lv_iinc (v := zv27) (lv' := [(4, .int zv27), (6, .int zv19), (5, .int zv18), (0, .ref (h 63)), (1, .int a1), (2, .int a2), (3, .int a3)]) zhx zhb dX6_tryEvening_137 zhl (k := 2) rfl (by rw [ze9]; rfl) (by decide) rfl (fun zls zhl => ?_)
                  clear ze9
                  refine lv_goto (tgt := 62) zhx zhb dX6_tryEvening_140 (by decide) ?_
                  cases zhs
                  exact zih zv27 zM26 zq (itk_l zhq) k62_143 zH zlocs zls (lv_sub zhl [0, 3, 4, 5, 6] rfl) zhw
        refine hloop28 N 0 zM5 zq28 zhq28 (fun zM29 zhqe zH zlocs zls zhl zhw => ?_) zH zlocs zls zhl zhw
        · subst zhqe
          cases zhs
          exact zhret _ _ _ _ dX6_tryEvening_143 zhw
      · replace zhs := br_F zhs zc9
        refine lv_aload_n zhx zhb dX6_tryEvening_22 rfl (lv_at zhl 0 rfl) ?_
        refine lv_iload_n zhx zhb dX6_tryEvening_23 rfl (lv_at zhl 3 rfl) ?_
        refine lv_aload_n zhx zhb dX6_tryEvening_24 rfl (lv_at zhl 0 rfl) ?_
        refine lv_iload_n zhx zhb dX6_tryEvening_25 rfl (lv_at zhl 2 rfl) ?_
        obtain ⟨zv30, zhp, zhs⟩ := bnd_e zhs
        refine x_cVI (As := [.int a2]) (rest := [.int a3, .ref (h 63)]) C zhw zhl (cPlanner_coinLeft l D cI h N a2 M zv30 zhp) (by omega) (by decide) kw_29_21 kw_29_22 kw_29_23 kw_2_14 kw_30_0 md_X6_coinLeft rfl 63 (wX_c63 h cI M) rfl rfl rfl rfl (Nat.le_of_ble_eq_true rfl) dX6_tryEvening_26 (fun zH zlocs zhw hn9 => ?_)
        refine lv_iadd zhx zhb dX6_tryEvening_29 ?_
        obtain ⟨zM31, zhp, zhs⟩ := bnd_e zhs
        refine x_cVV (As := [.int (a3 + zv30)]) (rest := []) C zhw zhl (cPlanner_settle l D cI h N (a3 + zv30) M zM31 zhp) (by omega) (by decide) kw_30_11 kw_30_12 kw_30_13 kw_2_14 kw_30_14 md_X6_settle rfl 63 (wX_c63 h cI M) rfl rfl rfl rfl (Nat.le_of_ble_eq_true rfl) dX6_tryEvening_30 (fun zH zlocs zhw => ?_)
        cases zhs
        exact zhret _ _ _ _ dX6_tryEvening_33 zhw
  · replace zhs := br_F zhs zc9
    cases zhs
    exact zhret _ _ _ _ dX6_tryEvening_8 zhw
theorem cPlanner_tryEvening (l : Launch) (D : va_G) (cI : ClassId) (h : Nat → Nat) (N : Nat) : ∀ (d : Nat) (a1 : Int32) (a2 : Int32) (a3 : Int32) (M : Mm) (M' : Mm) (hs : sPlanner_tryEvening N d a1 a2 a3 M = some M'), CtV l yX6_tryEvening cX6_tryEvening 7 (5 + d) D cI (wX h cI M) (wX h cI M') [.ref (h 63), .int a1, .int a2, .int a3]
  | 0, _, _, _, _, _, hs => by cases hs
  | d + 1, a1, a2, a3, M, M', hs => cPlanner_tryEveningB l D cI h N d (sPlanner_tryEvening N d) (fun a1 a2 a3 M M' hs => cPlanner_tryEvening l D cI h N d a1 a2 a3 M M' hs) a1 a2 a3 M M' hs


-- OffFirst$Planner.findCheapest in (63, ())
def sPlanner_findCheapest (N : Nat) (a1 : Int32) (M : Mm) : Option Mm :=
  ltM (mset M 63 4 a1) fun zM1 =>
  ltM (mset zM1 63 5 1000000000) fun zM2 =>
  (sEvenings_lookAhead N (zM2 63 4) zM2).bind fun zM3 =>
  (sStock_bitsThere N zM3).bind fun zv4 =>
  (sPlanner_tryEvening N 6 0 zv4 0 zM3).bind fun zM5 =>
  some zM5
set_option maxHeartbeats 4000000 in
set_option maxRecDepth 100000 in
theorem cPlanner_findCheapest (l : Launch) (D : va_G) (cI : ClassId) (h : Nat → Nat) (N : Nat) (a1 : Int32) (M : Mm) (M' : Mm) (zhs : sPlanner_findCheapest N a1 M = some M') : CtV l yX6_findCheapest cX6_findCheapest 2 12 D cI (wX h cI M) (wX h cI M') [.ref (h 63), .int a1] := by
  unfold sPlanner_findCheapest at zhs
  refine CtV_of (by decide +kernel) (Nat.le_of_ble_eq_true rfl) ?_
  intro p e s m args below meth c A Q zls zH zlocs C zhw zhl zhret
  have zhx := C.1
  have zhb := C.2.1
  have zhown := C.2.2.2.2.1
  have zhtB := C.2.2.2.2.2.2.1
  have zhl : lv_has zls 2 [(0, .ref (h 63)), (1, .int a1)] := zhl
  refine lv_aload_n zhx zhb dX6_findCheapest_0 rfl (lv_at zhl 0 rfl) ?_
  refine lv_iload_n zhx zhb dX6_findCheapest_1 rfl (lv_at zhl 1 rfl) ?_
  refine x_put C zhw inlX6 rfl tyX6_ok nmX6 63 4 (by decide) kw_29_5 rfl rfl rfl (wX_c63 h cI M) (Nat.le_of_ble_eq_true rfl) (wX_s63_4 h cI M _) dX6_findCheapest_2 (fun zH zlocs zhw => ?_)
  obtain ⟨zM1, ze9, zhs⟩ := ltM_e zhs
  rw [← ze9] at zhw; clear ze9
  refine lv_aload_n zhx zhb dX6_findCheapest_5 rfl (lv_at zhl 0 rfl) ?_
  refine lv_ldc zhx zhb zhown (zhtB _ kw_29_6) dX6_findCheapest_6 ?_
  refine x_put C zhw inlX6 rfl tyX6_ok nmX6 63 5 (by decide) kw_29_7 rfl rfl rfl (wX_c63 h cI zM1) (Nat.le_of_ble_eq_true rfl) (wX_s63_5 h cI zM1 _) dX6_findCheapest_8 (fun zH zlocs zhw => ?_)
  obtain ⟨zM2, ze9, zhs⟩ := ltM_e zhs
  rw [← ze9] at zhw; clear ze9
  refine lv_aload_n zhx zhb dX6_findCheapest_11 rfl (lv_at zhl 0 rfl) ?_
  refine x_get C zhw inlX6 rfl 63 1 (by decide) kw_6_4 rfl (wX_c63 h cI zM2) rfl dX6_findCheapest_12 ?_
  refine lv_aload_n zhx zhb dX6_findCheapest_15 rfl (lv_at zhl 0 rfl) ?_
  refine x_get C zhw inlX6 rfl 63 4 (by decide) kw_29_5 rfl (wX_c63 h cI zM2) rfl dX6_findCheapest_16 ?_
  obtain ⟨zM3, zhp, zhs⟩ := bnd_e zhs
  refine x_cVV (As := [.int (zM2 63 4)]) (rest := []) C zhw zhl (cEvenings_lookAhead l D cI h N (zM2 63 4) zM2 zM3 zhp) (by decide) (by decide) kw_29_8 kw_29_9 kw_29_10 kw_2_10 kw_29_11 md_X1_lookAhead rfl 59 (wX_c59 h cI zM2) rfl rfl rfl rfl (Nat.le_of_ble_eq_true rfl) dX6_findCheapest_19 (fun zH zlocs zhw => ?_)
  refine lv_aload_n zhx zhb dX6_findCheapest_22 rfl (lv_at zhl 0 rfl) ?_
  refine lv_iconst (v := 0) zhx zhb dX6_findCheapest_23 (by decide) ?_
  refine lv_aload_n zhx zhb dX6_findCheapest_24 rfl (lv_at zhl 0 rfl) ?_
  refine x_get C zhw inlX6 rfl 63 0 (by decide) kw_6_3 rfl (wX_c63 h cI zM3) rfl dX6_findCheapest_25 ?_
  refine x_getN C zhw inlX3 rfl 58 1 (by decide) (List.mem_of_getElem? (i := 36) rfl) rfl (wX_c58 h cI zM3) rfl dX6_findCheapest_28 ?_
  obtain ⟨zv4, zhp, zhs⟩ := bnd_e zhs
  refine x_cVI (As := []) (rest := [.int 0, .ref (h 63)]) C zhw zhl (cStock_bitsThere l D cI h N zM3 zv4 zhp) (by decide) (by decide) kw_29_14 kw_29_15 kw_29_16 kw_2_0 kw_29_17 md_X8_bitsThere rfl 40 (wX_c40 h cI zM3) rfl rfl rfl rfl (Nat.le_of_ble_eq_true rfl) dX6_findCheapest_31 (fun zH zlocs zhw hn9 => ?_)
  refine lv_iconst (v := 0) zhx zhb dX6_findCheapest_34 (by decide) ?_
  obtain ⟨zM5, zhp, zhs⟩ := bnd_e zhs
  refine x_cSV (As := [.ref (h 63), .int 0, .int zv4, .int 0]) (rest := []) C zhw zhl (cPlanner_tryEvening l D cI h N 6 0 zv4 0 zM3 zM5 zhp) (by decide) (by decide) kw_29_18 kw_29_19 kw_2_14 kw_29_20 md_X6_tryEvening rfl rfl (Nat.le_of_ble_eq_true rfl) dX6_findCheapest_35 (fun zH zlocs zhw => ?_)
  cases zhs
  exact zhret _ _ _ _ dX6_findCheapest_38 zhw

-- OffFirst$Planner.dishOn in (63, ())
def sPlanner_dishOn (a1 : Int32) (M : Mm) : Option Int32 :=
  some (atf 4 (M 65) a1)
set_option maxHeartbeats 4000000 in
set_option maxRecDepth 100000 in
theorem cPlanner_dishOn (l : Launch) (D : va_G) (cI : ClassId) (h : Nat → Nat) (a1 : Int32) (M : Mm) (r : Int32) (zhs : sPlanner_dishOn a1 M = some r) : CtI l yX6_dishOn cX6_dishOn 2 (some .int) 2 D cI (wX h cI M) (wX h cI M) [.ref (h 63), .int a1] r := by
  unfold sPlanner_dishOn at zhs
  refine CtI_of (by decide +kernel) (Nat.le_of_ble_eq_true rfl) ⟨_, rfl⟩ ?_
  intro p e s m args below meth c A Q zls zH zlocs C zhw zhl zhret
  have zhx := C.1
  have zhb := C.2.1
  have zhown := C.2.2.2.2.1
  have zhtB := C.2.2.2.2.2.2.1
  have zhl : lv_has zls 2 [(0, .ref (h 63)), (1, .int a1)] := zhl
  refine lv_aload_n zhx zhb dX6_dishOn_0 rfl (lv_at zhl 0 rfl) ?_
  refine x_get C zhw inlX6 rfl 63 3 (by decide) kw_6_2 rfl (wX_c63 h cI M) rfl dX6_dishOn_1 ?_
  refine lv_iload_n zhx zhb dX6_dishOn_4 rfl (lv_at zhl 1 rfl) ?_
  refine x_cSNI (As := [.ref (h 65), .int a1]) (rest := []) C zhw zhl (c_at l D cI (wX h cI M) 65 4 (h 65) (M 65) (wX_c65 h cI M) (by decide) a1) (by decide) (by decide) (List.mem_of_getElem? (i := 22) rfl) kw_7_7 kw_1_2 kw_7_8 md_X11_at rfl rfl (Nat.le_of_ble_eq_true rfl) dX6_dishOn_5 (fun zH zlocs zhw hn9 => ?_)
  cases zhs
  exact zhret _ _ _ _ dX6_dishOn_8 (by rfl) zhw

-- OffFirst.plan in (0, ())
def sOff_plan (N : Nat) (a1 : Int32) (a2 : Int32) (M : Mm) : Option (Int32 × Mm) :=
  (sOff_isWithin a1 1 4).bind fun zv1 =>
  (if zv1 = 0 then some ((-1), M)
  else (sOff_isWithin a2 (-1) (a1 - 1)).bind fun zv2 =>
  (if zv2 = 0 then some ((-1), M)
  else (sPlanner_findCheapest N a1 M).bind fun zM3 =>
  (if 0 ≤ a2 then (sPlanner_dishOn a2 zM3).bind fun zv5 =>
  some (zv5, zM3)
  else some ((zM3 63 5), zM3))))
set_option maxHeartbeats 4000000 in
set_option maxRecDepth 100000 in
theorem cOff_plan (l : Launch) (D : va_G) (cI : ClassId) (h : Nat → Nat) (N : Nat) (a1 : Int32) (a2 : Int32) (M : Mm) (r : Int32) (M' : Mm) (zhs : sOff_plan N a1 a2 M = some (r, M')) : CtI l yX11_plan cX11_plan 3 (some .int) 13 D cI (wX h cI M) (wX h cI M') [.ref (h 0), .int a1, .int a2] r := by
  unfold sOff_plan at zhs
  refine CtI_of (by decide +kernel) (Nat.le_of_ble_eq_true rfl) ⟨_, rfl⟩ ?_
  intro p e s m args below meth c A Q zls zH zlocs C zhw zhl zhret
  have zhx := C.1
  have zhb := C.2.1
  have zhown := C.2.2.2.2.1
  have zhtB := C.2.2.2.2.2.2.1
  have zhl : lv_has zls 3 [(0, .ref (h 0)), (1, .int a1), (2, .int a2)] := zhl
  refine lv_iload_n zhx zhb dX11_plan_0 rfl (lv_at zhl 1 rfl) ?_
  refine lv_iconst (v := 1) zhx zhb dX11_plan_1 (by decide) ?_
  refine lv_iconst (v := 4) zhx zhb dX11_plan_2 (by decide) ?_
  obtain ⟨zv1, zhp, zhs⟩ := bnd_e zhs
  refine x_cSI (As := [.int a1, .int 1, .int 4]) (rest := []) C zhw zhl (cOff_isWithin l D cI h a1 1 4 M zv1 zhp) (by decide) (by decide) kw_9_22 kw_9_23 kw_1_2 kw_10_0 md_X11_isWithin rfl rfl (Nat.le_of_ble_eq_true rfl) dX11_plan_3 (fun zH zlocs zhw hzv1 => ?_)
  refine lv_if_eq (tgt := 20) zhx zhb dX11_plan_6 (by decide) (fun zc9 => ?_) (fun zc9 => ?_)
  · replace zhs := br_T zhs zc9
    refine lv_iconst (v := (-1)) zhx zhb dX11_plan_20 (by decide) ?_
    cases zhs
    exact zhret _ _ _ _ dX11_plan_21 (by rfl) zhw
  · replace zhs := br_F zhs zc9
    refine lv_iload_n zhx zhb dX11_plan_9 rfl (lv_at zhl 2 rfl) ?_
    refine lv_iconst (v := (-1)) zhx zhb dX11_plan_10 (by decide) ?_
    refine lv_iload_n zhx zhb dX11_plan_11 rfl (lv_at zhl 1 rfl) ?_
    refine lv_iconst (v := 1) zhx zhb dX11_plan_12 (by decide) ?_
    refine lv_isub zhx zhb dX11_plan_13 ?_
    obtain ⟨zv2, zhp, zhs⟩ := bnd_e zhs
    refine x_cSI (As := [.int a2, .int (-1), .int (a1 - 1)]) (rest := []) C zhw zhl (cOff_isWithin l D cI h a2 (-1) (a1 - 1) M zv2 zhp) (by decide) (by decide) kw_9_22 kw_9_23 kw_1_2 kw_10_0 md_X11_isWithin rfl rfl (Nat.le_of_ble_eq_true rfl) dX11_plan_14 (fun zH zlocs zhw hzv2 => ?_)
    refine lv_if_ne (tgt := 22) zhx zhb dX11_plan_17 (by decide) (fun zc9 => ?_) (fun zc9 => ?_)
    · replace zhs := br_F zhs zc9
      refine lv_aload_n zhx zhb dX11_plan_22 rfl (lv_at zhl 0 rfl) ?_
      refine x_get C zhw inlX11 rfl 0 9 (by decide) kw_2_15 rfl (wX_c0 h cI M) rfl dX11_plan_23 ?_
      refine lv_iload_n zhx zhb dX11_plan_26 rfl (lv_at zhl 1 rfl) ?_
      obtain ⟨zM3, zhp, zhs⟩ := bnd_e zhs
      refine x_cVV (As := [.int a1]) (rest := []) C zhw zhl (cPlanner_findCheapest l D cI h N a1 M zM3 zhp) (by decide) (by decide) kw_29_1 kw_29_2 kw_29_3 kw_2_14 kw_29_4 md_X6_findCheapest rfl 63 (wX_c63 h cI M) rfl rfl rfl rfl (Nat.le_of_ble_eq_true rfl) dX11_plan_27 (fun zH zlocs zhw => ?_)
      refine lv_iload_n zhx zhb dX11_plan_30 rfl (lv_at zhl 2 rfl) ?_
      refine lv_if_ge (tgt := 44) zhx zhb dX11_plan_31 (by decide) (fun zc9 => ?_) (fun zc9 => ?_)
      · replace zhs := br_T zhs zc9
        refine lv_aload_n zhx zhb dX11_plan_44 rfl (lv_at zhl 0 rfl) ?_
        refine x_get C zhw inlX11 rfl 0 9 (by decide) kw_2_15 rfl (wX_c0 h cI zM3) rfl dX11_plan_45 ?_
        refine lv_iload_n zhx zhb dX11_plan_48 rfl (lv_at zhl 2 rfl) ?_
        obtain ⟨zv5, zhp, zhs⟩ := bnd_e zhs
        refine x_cVI (As := [.int a2]) (rest := []) C zhw zhl (cPlanner_dishOn l D cI h a2 zM3 zv5 zhp) (by decide) (by decide) kw_31_19 kw_31_20 kw_31_21 kw_2_14 kw_31_22 md_X6_dishOn rfl 63 (wX_c63 h cI zM3) rfl rfl rfl rfl (Nat.le_of_ble_eq_true rfl) dX11_plan_49 (fun zH zlocs zhw hn9 => ?_)
        cases zhs
        exact zhret _ _ _ _ dX11_plan_52 (by rfl) zhw
      · replace zhs := br_F zhs zc9
        refine lv_aload_n zhx zhb dX11_plan_34 rfl (lv_at zhl 0 rfl) ?_
        refine x_get C zhw inlX11 rfl 0 9 (by decide) kw_2_15 rfl (wX_c0 h cI zM3) rfl dX11_plan_35 ?_
        refine x_getN C zhw inlX6 rfl 63 5 (by decide) (List.mem_of_getElem? (i := 38) rfl) rfl (wX_c63 h cI zM3) rfl dX11_plan_38 ?_
        refine lv_goto (tgt := 52) zhx zhb dX11_plan_41 (by decide) ?_
        cases zhs
        exact zhret _ _ _ _ dX11_plan_52 (by rfl) zhw
    · replace zhs := br_T zhs zc9
      refine lv_iconst (v := (-1)) zhx zhb dX11_plan_20 (by decide) ?_
      cases zhs
      exact zhret _ _ _ _ dX11_plan_21 (by rfl) zhw

-- OffFirst$Fridge.lostIfFrozen in (58, ())
def sFridge_lostIfFrozen (N : Nat) (a1 : Int32) (a2 : Int32) (a3 : Int32) (M : Mm) : Option Int32 :=
  (sStock_cellOf a1 M).bind fun zv1 =>
  (sStock_kindOf a1 M).bind fun zv2 =>
  (sFridge_coinLostAs N a1 zv2 zv1 a2 M).bind fun zv3 =>
  (sFridge_coinLostAs N a1 3 zv1 a2 M).bind fun zv4 =>
  some ((a3 - zv3) + zv4)
set_option maxHeartbeats 4000000 in
set_option maxRecDepth 100000 in
theorem cFridge_lostIfFrozen (l : Launch) (D : va_G) (cI : ClassId) (h : Nat → Nat) (N : Nat) (a1 : Int32) (a2 : Int32) (a3 : Int32) (M : Mm) (r : Int32) (zhs : sFridge_lostIfFrozen N a1 a2 a3 M = some r) : CtI l yX3_lostIfFrozen cX3_lostIfFrozen 6 (some .int) 5 D cI (wX h cI M) (wX h cI M) [.ref (h 58), .int a1, .int a2, .int a3] r := by
  unfold sFridge_lostIfFrozen at zhs
  refine CtI_of (by decide +kernel) (Nat.le_of_ble_eq_true rfl) ⟨_, rfl⟩ ?_
  intro p e s m args below meth c A Q zls zH zlocs C zhw zhl zhret
  have zhx := C.1
  have zhb := C.2.1
  have zhown := C.2.2.2.2.1
  have zhtB := C.2.2.2.2.2.2.1
  have zhl : lv_has zls 6 [(0, .ref (h 58)), (1, .int a1), (2, .int a2), (3, .int a3)] := zhl
  refine lv_aload_n zhx zhb dX3_lostIfFrozen_0 rfl (lv_at zhl 0 rfl) ?_
  refine x_get C zhw inlX3 rfl 58 1 (by decide) kw_5_12 rfl (wX_c58 h cI M) rfl dX3_lostIfFrozen_1 ?_
  refine lv_iload_n zhx zhb dX3_lostIfFrozen_4 rfl (lv_at zhl 1 rfl) ?_
  obtain ⟨zv1, zhp, zhs⟩ := bnd_e zhs
  refine x_cVI (As := [.int a1]) (rest := []) C zhw zhl (cStock_cellOf l D cI h a1 M zv1 zhp) (by decide) (by decide) kw_22_9 kw_18_12 kw_18_13 kw_2_0 kw_18_14 md_X8_cellOf rfl 40 (wX_c40 h cI M) rfl rfl rfl rfl (Nat.le_of_ble_eq_true rfl) dX3_lostIfFrozen_5 (fun zH zlocs zhw hn9 => ?_)
  refine lv_istore (lv' := [(4, .int zv1), (0, .ref (h 58)), (1, .int a1), (2, .int a2), (3, .int a3)]) zhx zhb dX3_lostIfFrozen_8 zhl (by decide) rfl (fun zls zhl => ?_)
  refine lv_aload_n zhx zhb dX3_lostIfFrozen_10 rfl (lv_at zhl 1 rfl) ?_
  refine lv_iload_n zhx zhb dX3_lostIfFrozen_11 rfl (lv_at zhl 2 rfl) ?_
  refine lv_aload_n zhx zhb dX3_lostIfFrozen_12 rfl (lv_at zhl 1 rfl) ?_
  refine x_get C zhw inlX3 rfl 58 1 (by decide) kw_5_12 rfl (wX_c58 h cI M) rfl dX3_lostIfFrozen_13 ?_
  refine lv_iload_n zhx zhb dX3_lostIfFrozen_16 rfl (lv_at zhl 2 rfl) ?_
  obtain ⟨zv2, zhp, zhs⟩ := bnd_e zhs
  refine x_cVI (As := [.int a1]) (rest := [.int a1, .ref (h 58)]) C zhw zhl (cStock_kindOf l D cI h a1 M zv2 zhp) (by decide) (by decide) kw_18_23 kw_18_8 kw_18_9 kw_2_0 kw_18_10 md_X8_kindOf rfl 40 (wX_c40 h cI M) rfl rfl rfl rfl (Nat.le_of_ble_eq_true rfl) dX3_lostIfFrozen_17 (fun zH zlocs zhw hn9 => ?_)
  refine lv_iload zhx zhb dX3_lostIfFrozen_20 (lv_at zhl 0 rfl) ?_
  refine lv_iload_n zhx zhb dX3_lostIfFrozen_22 rfl (lv_at zhl 3 rfl) ?_
  obtain ⟨zv3, zhp, zhs⟩ := bnd_e zhs
  refine x_cVI (As := [.int a1, .int zv2, .int zv1, .int a2]) (rest := []) C zhw zhl (cFridge_coinLostAs l D cI h N a1 zv2 zv1 a2 M zv3 zhp) (by decide) (by decide) kw_27_17 kw_27_18 kw_27_19 kw_2_6 kw_27_20 md_X3_coinLostAs rfl 58 (wX_c58 h cI M) rfl rfl rfl rfl (Nat.le_of_ble_eq_true rfl) dX3_lostIfFrozen_23 (fun zH zlocs zhw hn9 => ?_)
  refine lv_istore (lv' := [(5, .int zv3), (4, .int zv1), (0, .ref (h 58)), (1, .int a1), (2, .int a2), (3, .int a3)]) zhx zhb dX3_lostIfFrozen_26 zhl (by decide) rfl (fun zls zhl => ?_)
  refine lv_iload_n zhx zhb dX3_lostIfFrozen_28 rfl (lv_at zhl 5 rfl) ?_
  refine lv_iload zhx zhb dX3_lostIfFrozen_29 (lv_at zhl 0 rfl) ?_
  refine lv_isub zhx zhb dX3_lostIfFrozen_31 ?_
  refine lv_aload_n zhx zhb dX3_lostIfFrozen_32 rfl (lv_at zhl 2 rfl) ?_
  refine lv_iload_n zhx zhb dX3_lostIfFrozen_33 rfl (lv_at zhl 3 rfl) ?_
  refine lv_iconst (v := 3) zhx zhb dX3_lostIfFrozen_34 (by decide) ?_
  refine lv_iload zhx zhb dX3_lostIfFrozen_35 (lv_at zhl 1 rfl) ?_
  refine lv_iload_n zhx zhb dX3_lostIfFrozen_37 rfl (lv_at zhl 4 rfl) ?_
  obtain ⟨zv4, zhp, zhs⟩ := bnd_e zhs
  refine x_cVI (As := [.int a1, .int 3, .int zv1, .int a2]) (rest := [.int (a3 - zv3)]) C zhw zhl (cFridge_coinLostAs l D cI h N a1 3 zv1 a2 M zv4 zhp) (by decide) (by decide) kw_27_17 kw_27_18 kw_27_19 kw_2_6 kw_27_20 md_X3_coinLostAs rfl 58 (wX_c58 h cI M) rfl rfl rfl rfl (Nat.le_of_ble_eq_true rfl) dX3_lostIfFrozen_38 (fun zH zlocs zhw hn9 => ?_)
  refine lv_iadd zhx zhb dX3_lostIfFrozen_41 ?_
  cases zhs
  exact zhret _ _ _ _ dX3_lostIfFrozen_42 (by rfl) zhw

-- OffFirst$Fridge.bestToFreeze in (58, ())
def LFridge_bestToFreeze_15_25 (N : Nat) (a1 : Int32) (M : Mm) (zv1 : Int32) (zx2 : Int32) (zx3 : Int32) (zx4 : Int32) : Option ((Int32 × Int32 × Int32) ⊕ ((Int32))) :=
  (if (M 27 7) ≤ zx4 then some (.inr zx2)
  else (sStock_isThere zx4 M).bind fun zv15 =>
  (if zv15 = 0 then ltI (zx4 + 1) fun zv18 =>
  some (.inl (zx2, zx3, zv18))
  else (sStock_kindOf zx4 M).bind fun zv19 =>
  (if zv19 = 3 then ltI (zx4 + 1) fun zv21 =>
  some (.inl (zx2, zx3, zv21))
  else (sFridge_lostIfFrozen N zx4 a1 zv1 M).bind fun zv22 =>
  (if zx3 ≤ zv22 then ltI (zx4 + 1) fun zv23 =>
  some (.inl (zx2, zx3, zv23))
  else ltI (zx4 + 1) fun zv24 =>
  some (.inl (zx4, zv22, zv24))))))
def sFridge_bestToFreeze (N : Nat) (a1 : Int32) (M : Mm) : Option Int32 :=
  (sFridge_lostBehind N a1 M).bind fun zv1 =>
  (itr (fun z : Int32 × Int32 × Int32 => LFridge_bestToFreeze_15_25 N a1 M zv1 z.1 z.2.1 z.2.2) N ((-4), zv1, 0)).bind fun zv26 =>
  some zv26
set_option maxHeartbeats 4000000 in
set_option maxRecDepth 100000 in
theorem cFridge_bestToFreeze (l : Launch) (D : va_G) (cI : ClassId) (h : Nat → Nat) (N : Nat) (a1 : Int32) (M : Mm) (r : Int32) (zhs : sFridge_bestToFreeze N a1 M = some r) : CtI l yX3_bestToFreeze cX3_bestToFreeze 7 (some .int) 6 D cI (wX h cI M) (wX h cI M) [.ref (h 58), .int a1] r := by
  unfold sFridge_bestToFreeze at zhs
  refine CtI_of (by decide +kernel) (Nat.le_of_ble_eq_true rfl) ⟨_, rfl⟩ ?_
  intro p e s m args below meth c A Q zls zH zlocs C zhw zhl zhret
  have zhx := C.1
  have zhb := C.2.1
  have zhown := C.2.2.2.2.1
  have zhtB := C.2.2.2.2.2.2.1
  have zhl : lv_has zls 7 [(0, .ref (h 58)), (1, .int a1)] := zhl
  refine lv_bipush (v := (-4)) zhx zhb dX3_bestToFreeze_0 (by decide) ?_
  refine lv_istore_n (lv' := [(2, .int (-4)), (0, .ref (h 58)), (1, .int a1)]) zhx zhb dX3_bestToFreeze_2 rfl zhl (by decide) rfl (fun zls zhl => ?_)
  refine lv_aload_n zhx zhb dX3_bestToFreeze_3 rfl (lv_at zhl 1 rfl) ?_
  refine lv_iload_n zhx zhb dX3_bestToFreeze_4 rfl (lv_at zhl 2 rfl) ?_
  obtain ⟨zv1, zhp, zhs⟩ := bnd_e zhs
  refine x_cVI (As := [.int a1]) (rest := []) C zhw zhl (cFridge_lostBehind l D cI h N a1 M zv1 zhp) (by decide) (by decide) kw_33_17 kw_27_14 kw_27_15 kw_2_6 kw_27_16 md_X3_lostBehind rfl 58 (wX_c58 h cI M) rfl rfl rfl rfl (Nat.le_of_ble_eq_true rfl) dX3_bestToFreeze_5 (fun zH zlocs zhw hn9 => ?_)
  refine lv_istore_n (lv' := [(3, .int zv1), (2, .int (-4)), (0, .ref (h 58)), (1, .int a1)]) zhx zhb dX3_bestToFreeze_8 rfl zhl (by decide) rfl (fun zls zhl => ?_)
  refine lv_iload_n zhx zhb dX3_bestToFreeze_9 rfl (lv_at zhl 0 rfl) ?_
  refine lv_istore (lv' := [(4, .int zv1), (3, .int zv1), (2, .int (-4)), (0, .ref (h 58)), (1, .int a1)]) zhx zhb dX3_bestToFreeze_10 zhl (by decide) rfl (fun zls zhl => ?_)
  refine lv_iconst (v := 0) zhx zhb dX3_bestToFreeze_12 (by decide) ?_
  refine lv_istore (lv' := [(5, .int 0), (4, .int zv1), (3, .int zv1), (2, .int (-4)), (0, .ref (h 58)), (1, .int a1)]) zhx zhb dX3_bestToFreeze_13 zhl (by decide) rfl (fun zls zhl => ?_)
  obtain ⟨zq25, zhq25, zhs⟩ := bnd_e zhs
  have hloop25 : ∀ (zn : Nat) (zx2 : Int32) (zx3 : Int32) (zx4 : Int32) (zq : (Int32)), itr (fun z : Int32 × Int32 × Int32 => LFridge_bestToFreeze_15_25 N a1 M zv1 z.1 z.2.1 z.2.2) zn (zx2, zx3, zx4) = some zq → (∀ (zy1 : Int32), zy1 = zq → ∀ (zH : Heap) (zlocs : List Loc) (zls : Array Slot), lv_has zls 7 [(2, .int zy1)] → Hw D (wX h cI M) A s.heap zH zlocs → W p l e (RM 6) s m args below meth c zH zlocs 0 0 Q (F0 m 85 zls [])) → ∀ (zH : Heap) (zlocs : List Loc) (zls : Array Slot), lv_has zls 7 [(5, .int zx4), (4, .int zx3), (3, .int zv1), (2, .int zx2), (0, .ref (h 58)), (1, .int a1)] → Hw D (wX h cI M) A s.heap zH zlocs → W p l e (RM 6) s m args below meth c zH zlocs 0 0 Q (F0 m 15 zls []) := by
    intro zn
    induction zn with
    | zero => intro zx2 zx3 zx4 zq zhq; exact absurd zhq (fun h9 => itr_0 h9)
    | succ zn zih =>
        intro zx2 zx3 zx4 zq zhq k15_85 zH zlocs zls zhl zhw
        obtain ⟨zy9, zhs, zhq⟩ := itr_s zhq
        replace zhs : LFridge_bestToFreeze_15_25 N a1 M zv1 zx2 zx3 zx4 = some zy9 := zhs
        unfold LFridge_bestToFreeze_15_25 at zhs
        refine lv_iload zhx zhb dX3_bestToFreeze_15 (lv_at zhl 0 rfl) ?_
        refine lv_aload_n zhx zhb dX3_bestToFreeze_17 rfl (lv_at zhl 4 rfl) ?_
        refine x_get C zhw inlX3 rfl 58 0 (by decide) kw_5_11 rfl (wX_c58 h cI M) rfl dX3_bestToFreeze_18 ?_
        refine x_getN C zhw inlX10 rfl 22 1 (by decide) (List.mem_of_getElem? (i := 20) rfl) rfl (wX_c22 h cI M) rfl dX3_bestToFreeze_21 ?_
        refine x_getN C zhw inlX2 rfl 27 7 (by decide) (List.mem_of_getElem? (i := 8) rfl) rfl (wX_c27 h cI M) rfl dX3_bestToFreeze_24 ?_
        refine lv_icmp_ge (tgt := 85) zhx zhb dX3_bestToFreeze_27 (by decide) (fun zc9 => ?_) (fun zc9 => ?_)
        · replace zhs := br_T zhs zc9
          cases zhs
          exact k15_85 zx2 (itk_q zhq) zH zlocs zls (lv_sub zhl [3] rfl) zhw
        · replace zhs := br_F zhs zc9
          refine lv_aload_n zhx zhb dX3_bestToFreeze_30 rfl (lv_at zhl 4 rfl) ?_
          refine x_get C zhw inlX3 rfl 58 1 (by decide) kw_5_12 rfl (wX_c58 h cI M) rfl dX3_bestToFreeze_31 ?_
          refine lv_iload zhx zhb dX3_bestToFreeze_34 (lv_at zhl 0 rfl) ?_
          obtain ⟨zv15, zhp, zhs⟩ := bnd_e zhs
          refine x_cVI (As := [.int zx4]) (rest := []) C zhw zhl (cStock_isThere l D cI h zx4 M zv15 zhp) (by decide) (by decide) kw_22_1 kw_22_2 kw_22_3 kw_2_0 kw_22_4 md_X8_isThere rfl 40 (wX_c40 h cI M) rfl rfl rfl rfl (Nat.le_of_ble_eq_true rfl) dX3_bestToFreeze_36 (fun zH zlocs zhw hzv15 => ?_)
          refine lv_if_eq (tgt := 79) zhx zhb dX3_bestToFreeze_39 (by decide) (fun zc9 => ?_) (fun zc9 => ?_)
          · replace zhs := br_T zhs zc9
            obtain ⟨zv18, ze9, zhs⟩ := ltI_e zhs
            refine lv_iinc (v := zv18) (lv' := [(5, .int zv18), (4, .int zx3), (3, .int zv1), (2, .int zx2), (0, .ref (h 58)), (1, .int a1)]) zhx zhb dX3_bestToFreeze_79 zhl (k := 0) rfl (by rw [ze9]; rfl) (by decide) rfl (fun zls zhl => ?_)
            clear ze9
            refine lv_goto (tgt := 15) zhx zhb dX3_bestToFreeze_82 (by decide) ?_
            cases zhs
            exact zih zx2 zx3 zv18 zq (itk_l zhq) k15_85 zH zlocs zls zhl zhw
          · replace zhs := br_F zhs zc9
            refine lv_aload_n zhx zhb dX3_bestToFreeze_42 rfl (lv_at zhl 4 rfl) ?_
            refine x_get C zhw inlX3 rfl 58 1 (by decide) kw_5_12 rfl (wX_c58 h cI M) rfl dX3_bestToFreeze_43 ?_
            refine lv_iload zhx zhb dX3_bestToFreeze_46 (lv_at zhl 0 rfl) ?_
            obtain ⟨zv19, zhp, zhs⟩ := bnd_e zhs
            refine x_cVI (As := [.int zx4]) (rest := []) C zhw zhl (cStock_kindOf l D cI h zx4 M zv19 zhp) (by decide) (by decide) kw_18_23 kw_18_8 kw_18_9 kw_2_0 kw_18_10 md_X8_kindOf rfl 40 (wX_c40 h cI M) rfl rfl rfl rfl (Nat.le_of_ble_eq_true rfl) dX3_bestToFreeze_48 (fun zH zlocs zhw hn9 => ?_)
            refine lv_iconst (v := 3) zhx zhb dX3_bestToFreeze_51 (by decide) ?_
            refine lv_icmp_eq (tgt := 79) zhx zhb dX3_bestToFreeze_52 (by decide) (fun zc9 => ?_) (fun zc9 => ?_)
            · replace zhs := br_T zhs zc9
              obtain ⟨zv21, ze9, zhs⟩ := ltI_e zhs
              refine lv_iinc (v := zv21) (lv' := [(5, .int zv21), (4, .int zx3), (3, .int zv1), (2, .int zx2), (0, .ref (h 58)), (1, .int a1)]) zhx zhb dX3_bestToFreeze_79 zhl (k := 0) rfl (by rw [ze9]; rfl) (by decide) rfl (fun zls zhl => ?_)
              clear ze9
              refine lv_goto (tgt := 15) zhx zhb dX3_bestToFreeze_82 (by decide) ?_
              cases zhs
              exact zih zx2 zx3 zv21 zq (itk_l zhq) k15_85 zH zlocs zls zhl zhw
            · replace zhs := br_F zhs zc9
              refine lv_aload_n zhx zhb dX3_bestToFreeze_55 rfl (lv_at zhl 4 rfl) ?_
              refine lv_iload zhx zhb dX3_bestToFreeze_56 (lv_at zhl 0 rfl) ?_
              refine lv_iload_n zhx zhb dX3_bestToFreeze_58 rfl (lv_at zhl 5 rfl) ?_
              refine lv_iload_n zhx zhb dX3_bestToFreeze_59 rfl (lv_at zhl 2 rfl) ?_
              obtain ⟨zv22, zhp, zhs⟩ := bnd_e zhs
              refine x_cVI (As := [.int zx4, .int a1, .int zv1]) (rest := []) C zhw zhl (cFridge_lostIfFrozen l D cI h N zx4 a1 zv1 M zv22 zhp) (by decide) (by decide) kw_33_18 kw_33_19 kw_33_20 kw_2_6 kw_33_21 md_X3_lostIfFrozen rfl 58 (wX_c58 h cI M) rfl rfl rfl rfl (Nat.le_of_ble_eq_true rfl) dX3_bestToFreeze_60 (fun zH zlocs zhw hn9 => ?_)
              refine lv_istore (lv' := [(6, .int zv22), (5, .int zx4), (4, .int zx3), (3, .int zv1), (2, .int zx2), (0, .ref (h 58)), (1, .int a1)]) zhx zhb dX3_bestToFreeze_63 zhl (by decide) rfl (fun zls zhl => ?_)
              refine lv_iload zhx zhb dX3_bestToFreeze_65 (lv_at zhl 0 rfl) ?_
              refine lv_iload zhx zhb dX3_bestToFreeze_67 (lv_at zhl 2 rfl) ?_
              refine lv_icmp_ge (tgt := 79) zhx zhb dX3_bestToFreeze_69 (by decide) (fun zc9 => ?_) (fun zc9 => ?_)
              · replace zhs := br_T zhs zc9
                obtain ⟨zv23, ze9, zhs⟩ := ltI_e zhs
                refine lv_iinc (v := zv23) (lv' := [(5, .int zv23), (6, .int zv22), (4, .int zx3), (3, .int zv1), (2, .int zx2), (0, .ref (h 58)), (1, .int a1)]) zhx zhb dX3_bestToFreeze_79 zhl (k := 1) rfl (by rw [ze9]; rfl) (by decide) rfl (fun zls zhl => ?_)
                clear ze9
                refine lv_goto (tgt := 15) zhx zhb dX3_bestToFreeze_82 (by decide) ?_
                cases zhs
                exact zih zx2 zx3 zv23 zq (itk_l zhq) k15_85 zH zlocs zls (lv_sub zhl [0, 2, 3, 4, 5, 6] rfl) zhw
              · replace zhs := br_F zhs zc9
                refine lv_iload zhx zhb dX3_bestToFreeze_72 (lv_at zhl 1 rfl) ?_
                refine lv_istore_n (lv' := [(2, .int zx4), (6, .int zv22), (5, .int zx4), (4, .int zx3), (3, .int zv1), (0, .ref (h 58)), (1, .int a1)]) zhx zhb dX3_bestToFreeze_74 rfl zhl (by decide) rfl (fun zls zhl => ?_)
                refine lv_iload zhx zhb dX3_bestToFreeze_75 (lv_at zhl 1 rfl) ?_
                refine lv_istore (lv' := [(4, .int zv22), (2, .int zx4), (6, .int zv22), (5, .int zx4), (3, .int zv1), (0, .ref (h 58)), (1, .int a1)]) zhx zhb dX3_bestToFreeze_77 zhl (by decide) rfl (fun zls zhl => ?_)
                obtain ⟨zv24, ze9, zhs⟩ := ltI_e zhs
                refine lv_iinc (v := zv24) (lv' := [(5, .int zv24), (4, .int zv22), (2, .int zx4), (6, .int zv22), (3, .int zv1), (0, .ref (h 58)), (1, .int a1)]) zhx zhb dX3_bestToFreeze_79 zhl (k := 3) rfl (by rw [ze9]; rfl) (by decide) rfl (fun zls zhl => ?_)
                clear ze9
                refine lv_goto (tgt := 15) zhx zhb dX3_bestToFreeze_82 (by decide) ?_
                cases zhs
                exact zih zx4 zv22 zv24 zq (itk_l zhq) k15_85 zH zlocs zls (lv_sub zhl [0, 1, 4, 2, 5, 6] rfl) zhw
  refine hloop25 N (-4) zv1 0 zq25 zhq25 (fun zv26 zhqe zH zlocs zls zhl zhw => ?_) zH zlocs zls zhl zhw
  · subst zhqe
    refine lv_iload_n zhx zhb dX3_bestToFreeze_85 rfl (lv_at zhl 0 rfl) ?_
    cases zhs
    exact zhret _ _ _ _ dX3_bestToFreeze_86 (by rfl) zhw

