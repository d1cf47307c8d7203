-- OffFirstModel.freeze in (0, ())
def LRef_freeze_38_54 (N : Nat) (a1 : Int32) (zx6 : Int32) (zx7 : Int32) (zx8 : Int32) (zM9 : Mm) : Option ((Int32 × Int32 × Int32 × Mm) ⊕ ((Int32 × Int32 × Mm))) :=
  rdc 2 (zM9 7) 0 fun zv32 =>
  (if zv32 ≤ zx8 then some (.inr (zx6, zx7, zM9))
  else rdc 40 (zM9 25) zx8 fun zv33 =>
  (if zv33 = 0 then rdc 40 (zM9 22) zx8 fun zv40 =>
  (if zv40 = 3 then ltI (zx8 + 1) fun zv45 =>
  some (.inl (zx6, zx7, zv45, zM9))
  else (sRef_copy N 0 1 zM9).bind fun zM46 =>
  inc 40 (10 + zx8) <| ltM (mset zM46 22 (Int32.toNatClampNeg (10 + zx8)) 3) fun zM47 =>
  (sRef_lostOf N a1 zM47).bind fun (zv48, zM49) =>
  (if zx6 ≤ zv48 then (if zx6 ≤ zv48 then ltI (zx8 + 1) fun zv50 =>
  some (.inl (zx6, zx7, zv50, zM49))
  else ltI (zx8 + 1) fun zv51 =>
  some (.inl (zv48, zx7, zv51, zM49)))
  else (if zx6 ≤ zv48 then ltI (zx8 + 1) fun zv52 =>
  some (.inl (zx6, zx8, zv52, zM49))
  else ltI (zx8 + 1) fun zv53 =>
  some (.inl (zv48, zx8, zv53, zM49)))))
  else ltI (zx8 + 1) fun zv39 =>
  some (.inl (zx6, zx7, zv39, zM9))))
def sRef_freeze (N : Nat) (a1 : Int32) (a2 : Int32) (M : Mm) : Option (Int32 × Mm) :=
  (sRef_isLater a1).bind fun zv1 =>
  (if zv1 = 0 then some ((-1), M)
  else (sRef_in (Int32.toInt64 a2) 0 1).bind fun zv2 =>
  (if zv2 = 0 then some ((-1), M)
  else (sRef_copy N 0 1 M).bind fun zM3 =>
  (sRef_lostOf N a1 zM3).bind fun (zv4, zM5) =>
  (itr (fun z : Int32 × Int32 × Int32 × Mm => LRef_freeze_38_54 N a1 z.1 z.2.1 z.2.2.1 z.2.2.2) N (zv4, (-4), 0, zM5)).bind fun (zv55, zv56, zM57) =>
  (if 0 ≤ zv56 then (if a2 = 0 then some (zv56, zM57)
  else some (zv55, zM57))
  else some ((-4), zM57))))
set_option maxHeartbeats 4000000 in
set_option maxRecDepth 100000 in
theorem cRef_freeze (l : Launch) (D : va_G) (cI : ClassId) (h : Nat → Nat) (N : Nat) (a1 : Int32) (a2 : Int32) (M : Mm) (r : Int32) (M' : Mm) (zhs : sRef_freeze N a1 a2 M = some (r, M')) : CtI l yX12_freeze cX12_freeze 7 (some .int) 5 D cI (wR h cI M) (wR h cI M') [.ref (h 0), .int a1, .int a2] r := by
  unfold sRef_freeze at zhs
  refine CtI_of (by decide +kernel) (Nat.le_of_ble_eq_true rfl) ⟨_, rfl⟩ ?_
  intro p e s m args below meth c A Q zls zH zlocs C zhw zhl zhret
  have zhx := C.1
  have zhb := C.2.1
  have zhown := C.2.2.2.2.1
  have zhtB := C.2.2.2.2.2.2.1
  have zhl : lv_has zls 7 [(0, .ref (h 0)), (1, .int a1), (2, .int a2)] := zhl
  refine lv_iload_n zhx zhb dX12_freeze_0 rfl (lv_at zhl 1 rfl) ?_
  obtain ⟨zv1, zhp, zhs⟩ := bnd_e zhs
  refine x_cSI (As := [.int a1]) (rest := []) C zhw zhl (cRef_isLater l D cI h a1 M zv1 zhp) (by decide) (by decide) kw_28_5 kw_28_6 kw_1_5 kw_28_7 md_X12_isLater rfl rfl (Nat.le_of_ble_eq_true rfl) dX12_freeze_1 (fun zH zlocs zhw hzv1 => ?_)
  refine lv_if_eq (tgt := 17) zhx zhb dX12_freeze_4 (by decide) (fun zc9 => ?_) (fun zc9 => ?_)
  · replace zhs := br_T zhs zc9
    refine lv_iconst (v := (-1)) zhx zhb dX12_freeze_17 (by decide) ?_
    cases zhs
    exact zhret _ _ _ _ dX12_freeze_18 (by rfl) zhw
  · replace zhs := br_F zhs zc9
    refine lv_iload_n zhx zhb dX12_freeze_7 rfl (lv_at zhl 2 rfl) ?_
    refine lv_i2l zhx zhb dX12_freeze_8 rfl ?_
    refine lv_lconst (v := 0) zhx zhb dX12_freeze_9 (by decide) ?_
    refine lv_lconst (v := 1) zhx zhb dX12_freeze_10 (by decide) ?_
    obtain ⟨zv2, zhp, zhs⟩ := bnd_e zhs
    refine x_cSI (As := [.long (Int32.toInt64 a2), .long 0, .long 1]) (rest := []) C zhw zhl (cRef_in l D cI h (Int32.toInt64 a2) 0 1 M zv2 zhp) (by decide) (by decide) kw_10_14 kw_10_15 kw_1_5 kw_10_16 md_X12_in rfl rfl (Nat.le_of_ble_eq_true rfl) dX12_freeze_11 (fun zH zlocs zhw hzv2 => ?_)
    refine lv_if_ne (tgt := 19) zhx zhb dX12_freeze_14 (by decide) (fun zc9 => ?_) (fun zc9 => ?_)
    · replace zhs := br_F zhs zc9
      refine lv_aload_n zhx zhb dX12_freeze_19 rfl (lv_at zhl 0 rfl) ?_
      refine lv_iconst (v := 0) zhx zhb dX12_freeze_20 (by decide) ?_
      refine lv_iconst (v := 1) zhx zhb dX12_freeze_21 (by decide) ?_
      obtain ⟨zM3, zhp, zhs⟩ := bnd_e zhs
      refine x_cVV (As := [.int 0, .int 1]) (rest := []) C zhw zhl (cRef_copy l D cI h N 0 1 M zM3 zhp) (by decide) (by decide) kw_28_9 kw_28_10 kw_28_11 kw_1_5 kw_28_12 md_X12_copy rfl 0 (wR_c0 h cI M) rfl rfl rfl rfl (Nat.le_of_ble_eq_true rfl) dX12_freeze_22 (fun zH zlocs zhw => ?_)
      refine lv_aload_n zhx zhb dX12_freeze_25 rfl (lv_at zhl 0 rfl) ?_
      refine lv_iload_n zhx zhb dX12_freeze_26 rfl (lv_at zhl 1 rfl) ?_
      obtain ⟨⟨zv4, zM5⟩, zhp, zhs⟩ := bnd_e zhs
      try dsimp only at zhs
      refine x_cVI (As := [.int a1]) (rest := []) C zhw zhl (cRef_lostOf l D cI h N a1 zM3 zv4 zM5 zhp) (by decide) (by decide) kw_28_13 kw_28_14 kw_28_15 kw_1_5 kw_28_16 md_X12_lostOf rfl 0 (wR_c0 h cI zM3) rfl rfl rfl rfl (Nat.le_of_ble_eq_true rfl) dX12_freeze_27 (fun zH zlocs zhw hn9 => ?_)
      refine lv_istore_n (lv' := [(3, .int zv4), (0, .ref (h 0)), (1, .int a1), (2, .int a2)]) zhx zhb dX12_freeze_30 rfl zhl (by decide) rfl (fun zls zhl => ?_)
      refine lv_bipush (v := (-4)) zhx zhb dX12_freeze_31 (by decide) ?_
      refine lv_istore (lv' := [(4, .int (-4)), (3, .int zv4), (0, .ref (h 0)), (1, .int a1), (2, .int a2)]) zhx zhb dX12_freeze_33 zhl (by decide) rfl (fun zls zhl => ?_)
      refine lv_iconst (v := 0) zhx zhb dX12_freeze_35 (by decide) ?_
      refine lv_istore (lv' := [(5, .int 0), (4, .int (-4)), (3, .int zv4), (0, .ref (h 0)), (1, .int a1), (2, .int a2)]) zhx zhb dX12_freeze_36 zhl (by decide) rfl (fun zls zhl => ?_)
      obtain ⟨zq54, zhq54, zhs⟩ := bnd_e zhs
      have hloop54 : ∀ (zn : Nat) (zx6 : Int32) (zx7 : Int32) (zx8 : Int32) (zM9 : Mm) (zq : (Int32 × Int32 × Mm)), itr (fun z : Int32 × Int32 × Int32 × Mm => LRef_freeze_38_54 N a1 z.1 z.2.1 z.2.2.1 z.2.2.2) zn (zx6, zx7, zx8, zM9) = some zq → (∀ (zy1 : Int32) (zy2 : Int32) (zy3 : Mm), (zy1, zy2, zy3) = zq → ∀ (zH : Heap) (zlocs : List Loc) (zls : Array Slot), lv_has zls 7 [(4, .int zy2), (3, .int zy1), (2, .int a2)] → Hw D (wR h cI zy3) A s.heap zH zlocs → W p l e (RM 5) s m args below meth c zH zlocs 0 0 Q (F0 m 128 zls [])) → ∀ (zH : Heap) (zlocs : List Loc) (zls : Array Slot), lv_has zls 7 [(5, .int zx8), (4, .int zx7), (3, .int zx6), (0, .ref (h 0)), (1, .int a1), (2, .int a2)] → Hw D (wR h cI zM9) A s.heap zH zlocs → W p l e (RM 5) s m args below meth c zH zlocs 0 0 Q (F0 m 38 zls []) := by
        intro zn
        induction zn with
        | zero => intro zx6 zx7 zx8 zM9 zq zhq; exact absurd zhq (fun h9 => itr_0 h9)
        | succ zn zih =>
            intro zx6 zx7 zx8 zM9 zq zhq k38_128 zH zlocs zls zhl zhw
            obtain ⟨zy9, zhs, zhq⟩ := itr_s zhq
            replace zhs : LRef_freeze_38_54 N a1 zx6 zx7 zx8 zM9 = some zy9 := zhs
            unfold LRef_freeze_38_54 at zhs
            refine lv_iload zhx zhb dX12_freeze_38 (lv_at zhl 0 rfl) ?_
            refine lv_aload_n zhx zhb dX12_freeze_40 rfl (lv_at zhl 3 rfl) ?_
            refine x_get C zhw inlX12 rfl 0 7 (by decide) kw_8_9 rfl (wR_c0 h cI zM9) rfl dX12_freeze_41 ?_
            refine lv_iconst (v := 0) zhx zhb dX12_freeze_44 (by decide) ?_
            obtain ⟨zv32, ze9, zhi, zhs⟩ := rdc_v zhs
            refine x_iald C zhw 7 (wR_c7 h cI zM9) zhi dX12_freeze_45 ?_
            refine lv_topi (fun zy9 ze8 => ?_)
            obtain rfl : zv32 = zy9 := ze9.trans ze8.symm
            clear ze9 ze8
            refine lv_icmp_ge (tgt := 128) zhx zhb dX12_freeze_46 (by decide) (fun zc9 => ?_) (fun zc9 => ?_)
            · replace zhs := br_T zhs zc9
              cases zhs
              exact k38_128 zx6 zx7 zM9 (itk_q zhq) zH zlocs zls (lv_sub zhl [1, 2, 5] rfl) zhw
            · replace zhs := br_F zhs zc9
              refine lv_aload_n zhx zhb dX12_freeze_49 rfl (lv_at zhl 3 rfl) ?_
              refine x_get C zhw inlX12 rfl 0 25 (by decide) kw_9_3 rfl (wR_c0 h cI zM9) rfl dX12_freeze_50 ?_
              refine lv_iload zhx zhb dX12_freeze_53 (lv_at zhl 0 rfl) ?_
              obtain ⟨zv33, ze9, zhi, zhs⟩ := rdc_v zhs
              refine x_iald C zhw 25 (wR_c25 h cI zM9) zhi dX12_freeze_55 ?_
              refine lv_topi (fun zy9 ze8 => ?_)
              obtain rfl : zv33 = zy9 := ze9.trans ze8.symm
              clear ze9 ze8
              refine lv_if_ne (tgt := 122) zhx zhb dX12_freeze_56 (by decide) (fun zc9 => ?_) (fun zc9 => ?_)
              · replace zhs := br_F zhs zc9
                obtain ⟨zv39, ze9, zhs⟩ := ltI_e zhs
                refine lv_iinc (v := zv39) (lv' := [(5, .int zv39), (4, .int zx7), (3, .int zx6), (0, .ref (h 0)), (1, .int a1), (2, .int a2)]) zhx zhb dX12_freeze_122 zhl (k := 0) rfl (by rw [ze9]; rfl) (by decide) rfl (fun zls zhl => ?_)
                clear ze9
                refine lv_goto (tgt := 38) zhx zhb dX12_freeze_125 (by decide) ?_
                cases zhs
                exact zih zx6 zx7 zv39 zM9 zq (itk_l zhq) k38_128 zH zlocs zls zhl zhw
              · replace zhs := br_T zhs zc9
                refine lv_aload_n zhx zhb dX12_freeze_59 rfl (lv_at zhl 3 rfl) ?_
                refine x_get C zhw inlX12 rfl 0 22 (by decide) kw_9_0 rfl (wR_c0 h cI zM9) rfl dX12_freeze_60 ?_
                refine lv_iload zhx zhb dX12_freeze_63 (lv_at zhl 0 rfl) ?_
                obtain ⟨zv40, ze9, zhi, zhs⟩ := rdc_v zhs
                refine x_iald C zhw 22 (wR_c22 h cI zM9) zhi dX12_freeze_65 ?_
                refine lv_topi (fun zy9 ze8 => ?_)
                obtain rfl : zv40 = zy9 := ze9.trans ze8.symm
                clear ze9 ze8
                refine lv_iconst (v := 3) zhx zhb dX12_freeze_66 (by decide) ?_
                refine lv_icmp_eq (tgt := 122) zhx zhb dX12_freeze_67 (by decide) (fun zc9 => ?_) (fun zc9 => ?_)
                · replace zhs := br_T zhs zc9
                  obtain ⟨zv45, ze9, zhs⟩ := ltI_e zhs
                  refine lv_iinc (v := zv45) (lv' := [(5, .int zv45), (4, .int zx7), (3, .int zx6), (0, .ref (h 0)), (1, .int a1), (2, .int a2)]) zhx zhb dX12_freeze_122 zhl (k := 0) rfl (by rw [ze9]; rfl) (by decide) rfl (fun zls zhl => ?_)
                  clear ze9
                  refine lv_goto (tgt := 38) zhx zhb dX12_freeze_125 (by decide) ?_
                  cases zhs
                  exact zih zx6 zx7 zv45 zM9 zq (itk_l zhq) k38_128 zH zlocs zls zhl zhw
                · replace zhs := br_F zhs zc9
                  refine lv_aload_n zhx zhb dX12_freeze_70 rfl (lv_at zhl 3 rfl) ?_
                  refine lv_iconst (v := 0) zhx zhb dX12_freeze_71 (by decide) ?_
                  refine lv_iconst (v := 1) zhx zhb dX12_freeze_72 (by decide) ?_
                  obtain ⟨zM46, zhp, zhs⟩ := bnd_e zhs
                  refine x_cVV (As := [.int 0, .int 1]) (rest := []) C zhw zhl (cRef_copy l D cI h N 0 1 zM9 zM46 zhp) (by decide) (by decide) kw_28_9 kw_28_10 kw_28_11 kw_1_5 kw_28_12 md_X12_copy rfl 0 (wR_c0 h cI zM9) rfl rfl rfl rfl (Nat.le_of_ble_eq_true rfl) dX12_freeze_73 (fun zH zlocs zhw => ?_)
                  refine lv_aload_n zhx zhb dX12_freeze_76 rfl (lv_at zhl 3 rfl) ?_
                  refine x_get C zhw inlX12 rfl 0 22 (by decide) kw_9_0 rfl (wR_c0 h cI zM46) rfl dX12_freeze_77 ?_
                  refine lv_bipush (v := 10) zhx zhb dX12_freeze_80 (by decide) ?_
                  refine lv_iload zhx zhb dX12_freeze_82 (lv_at zhl 0 rfl) ?_
                  refine lv_iadd zhx zhb dX12_freeze_84 ?_
                  refine lv_iconst (v := 3) zhx zhb dX12_freeze_85 (by decide) ?_
                  obtain ⟨zhi, zhs⟩ := inc_e zhs
                  refine x_iast C zhw 22 (wR_c22 h cI zM46) zhi (wR_a22 h cI zM46 _ _) dX12_freeze_86 (fun zH zlocs zhw => ?_)
                  obtain ⟨zM47, ze9, zhs⟩ := ltM_e zhs
                  rw [← ze9] at zhw; clear ze9
                  refine lv_aload_n zhx zhb dX12_freeze_87 rfl (lv_at zhl 3 rfl) ?_
                  refine lv_iload_n zhx zhb dX12_freeze_88 rfl (lv_at zhl 4 rfl) ?_
                  obtain ⟨⟨zv48, zM49⟩, zhp, zhs⟩ := bnd_e zhs
                  try dsimp only at zhs
                  refine x_cVI (As := [.int a1]) (rest := []) C zhw zhl (cRef_lostOf l D cI h N a1 zM47 zv48 zM49 zhp) (by decide) (by decide) kw_28_13 kw_28_14 kw_28_15 kw_1_5 kw_28_16 md_X12_lostOf rfl 0 (wR_c0 h cI zM47) rfl rfl rfl rfl (Nat.le_of_ble_eq_true rfl) dX12_freeze_89 (fun zH zlocs zhw hn9 => ?_)
                  refine lv_istore (lv' := [(6, .int zv48), (5, .int zx8), (4, .int zx7), (3, .int zx6), (0, .ref (h 0)), (1, .int a1), (2, .int a2)]) zhx zhb dX12_freeze_92 zhl (by decide) rfl (fun zls zhl => ?_)
                  refine lv_iload zhx zhb dX12_freeze_94 (lv_at zhl 0 rfl) ?_
                  refine lv_iload_n zhx zhb dX12_freeze_96 rfl (lv_at zhl 3 rfl) ?_
                  refine lv_icmp_ge (tgt := 105) zhx zhb dX12_freeze_97 (by decide) (fun zc9 => ?_) (fun zc9 => ?_)
                  · replace zhs := br_T zhs zc9
                    refine lv_iload zhx zhb dX12_freeze_105 (lv_at zhl 2 rfl) ?_
                    refine lv_istore (lv' := [(4, .int zx7), (6, .int zv48), (5, .int zx8), (3, .int zx6), (0, .ref (h 0)), (1, .int a1), (2, .int a2)]) zhx zhb dX12_freeze_107 zhl (by decide) rfl (fun zls zhl => ?_)
                    refine lv_iload zhx zhb dX12_freeze_109 (lv_at zhl 1 rfl) ?_
                    refine lv_iload_n zhx zhb dX12_freeze_111 rfl (lv_at zhl 3 rfl) ?_
                    refine lv_icmp_ge (tgt := 120) zhx zhb dX12_freeze_112 (by decide) (fun zc9 => ?_) (fun zc9 => ?_)
                    · replace zhs := br_T zhs zc9
                      refine lv_iload_n zhx zhb dX12_freeze_120 rfl (lv_at zhl 3 rfl) ?_
                      refine lv_istore_n (lv' := [(3, .int zx6), (4, .int zx7), (6, .int zv48), (5, .int zx8), (0, .ref (h 0)), (1, .int a1), (2, .int a2)]) zhx zhb dX12_freeze_121 rfl zhl (by decide) rfl (fun zls zhl => ?_)
                      obtain ⟨zv50, ze9, zhs⟩ := ltI_e zhs
                      refine lv_iinc (v := zv50) (lv' := [(5, .int zv50), (3, .int zx6), (4, .int zx7), (6, .int zv48), (0, .ref (h 0)), (1, .int a1), (2, .int a2)]) zhx zhb dX12_freeze_122 zhl (k := 3) rfl (by rw [ze9]; rfl) (by decide) rfl (fun zls zhl => ?_)
                      clear ze9
                      refine lv_goto (tgt := 38) zhx zhb dX12_freeze_125 (by decide) ?_
                      cases zhs
                      exact zih zx6 zx7 zv50 zM49 zq (itk_l zhq) k38_128 zH zlocs zls (lv_sub zhl [0, 2, 1, 4, 5, 6] rfl) zhw
                    · replace zhs := br_F zhs zc9
                      refine lv_iload zhx zhb dX12_freeze_115 (lv_at zhl 1 rfl) ?_
                      refine lv_goto (tgt := 121) zhx zhb dX12_freeze_117 (by decide) ?_
                      refine lv_istore_n (lv' := [(3, .int zv48), (4, .int zx7), (6, .int zv48), (5, .int zx8), (0, .ref (h 0)), (1, .int a1), (2, .int a2)]) zhx zhb dX12_freeze_121 rfl zhl (by decide) rfl (fun zls zhl => ?_)
                      obtain ⟨zv51, ze9, zhs⟩ := ltI_e zhs
                      refine lv_iinc (v := zv51) (lv' := [(5, .int zv51), (3, .int zv48), (4, .int zx7), (6, .int zv48), (0, .ref (h 0)), (1, .int a1), (2, .int a2)]) zhx zhb dX12_freeze_122 zhl (k := 3) rfl (by rw [ze9]; rfl) (by decide) rfl (fun zls zhl => ?_)
                      clear ze9
                      refine lv_goto (tgt := 38) zhx zhb dX12_freeze_125 (by decide) ?_
                      cases zhs
                      exact zih zv48 zx7 zv51 zM49 zq (itk_l zhq) k38_128 zH zlocs zls (lv_sub zhl [0, 2, 1, 4, 5, 6] rfl) zhw
                  · replace zhs := br_F zhs zc9
                    refine lv_iload zhx zhb dX12_freeze_100 (lv_at zhl 1 rfl) ?_
                    refine lv_goto (tgt := 107) zhx zhb dX12_freeze_102 (by decide) ?_
                    refine lv_istore (lv' := [(4, .int zx8), (6, .int zv48), (5, .int zx8), (3, .int zx6), (0, .ref (h 0)), (1, .int a1), (2, .int a2)]) zhx zhb dX12_freeze_107 zhl (by decide) rfl (fun zls zhl => ?_)
                    refine lv_iload zhx zhb dX12_freeze_109 (lv_at zhl 1 rfl) ?_
                    refine lv_iload_n zhx zhb dX12_freeze_111 rfl (lv_at zhl 3 rfl) ?_
                    refine lv_icmp_ge (tgt := 120) zhx zhb dX12_freeze_112 (by decide) (fun zc9 => ?_) (fun zc9 => ?_)
                    · replace zhs := br_T zhs zc9
                      refine lv_iload_n zhx zhb dX12_freeze_120 rfl (lv_at zhl 3 rfl) ?_
                      refine lv_istore_n (lv' := [(3, .int zx6), (4, .int zx8), (6, .int zv48), (5, .int zx8), (0, .ref (h 0)), (1, .int a1), (2, .int a2)]) zhx zhb dX12_freeze_121 rfl zhl (by decide) rfl (fun zls zhl => ?_)
                      obtain ⟨zv52, ze9, zhs⟩ := ltI_e zhs
                      refine lv_iinc (v := zv52) (lv' := [(5, .int zv52), (3, .int zx6), (4, .int zx8), (6, .int zv48), (0, .ref (h 0)), (1, .int a1), (2, .int a2)]) zhx zhb dX12_freeze_122 zhl (k := 3) rfl (by rw [ze9]; rfl) (by decide) rfl (fun zls zhl => ?_)
                      clear ze9
                      refine lv_goto (tgt := 38) zhx zhb dX12_freeze_125 (by decide) ?_
                      cases zhs
                      exact zih zx6 zx8 zv52 zM49 zq (itk_l zhq) k38_128 zH zlocs zls (lv_sub zhl [0, 2, 1, 4, 5, 6] rfl) zhw
                    · replace zhs := br_F zhs zc9
                      refine lv_iload zhx zhb dX12_freeze_115 (lv_at zhl 1 rfl) ?_
                      refine lv_goto (tgt := 121) zhx zhb dX12_freeze_117 (by decide) ?_
                      refine lv_istore_n (lv' := [(3, .int zv48), (4, .int zx8), (6, .int zv48), (5, .int zx8), (0, .ref (h 0)), (1, .int a1), (2, .int a2)]) zhx zhb dX12_freeze_121 rfl zhl (by decide) rfl (fun zls zhl => ?_)
                      obtain ⟨zv53, ze9, zhs⟩ := ltI_e zhs
                      refine lv_iinc (v := zv53) (lv' := [(5, .int zv53), (3, .int zv48), (4, .int zx8), (6, .int zv48), (0, .ref (h 0)), (1, .int a1), (2, .int a2)]) zhx zhb dX12_freeze_122 zhl (k := 3) rfl (by rw [ze9]; rfl) (by decide) rfl (fun zls zhl => ?_)
                      clear ze9
                      refine lv_goto (tgt := 38) zhx zhb dX12_freeze_125 (by decide) ?_
                      cases zhs
                      exact zih zv48 zx8 zv53 zM49 zq (itk_l zhq) k38_128 zH zlocs zls (lv_sub zhl [0, 2, 1, 4, 5, 6] rfl) zhw
      refine hloop54 N zv4 (-4) 0 zM5 zq54 zhq54 (fun zv55 zv56 zM57 zhqe zH zlocs zls zhl zhw => ?_) zH zlocs zls zhl zhw
      · subst zhqe
        try dsimp only at zhs
        refine lv_iload zhx zhb dX12_freeze_128 (lv_at zhl 0 rfl) ?_
        refine lv_if_ge (tgt := 138) zhx zhb dX12_freeze_130 (by decide) (fun zc9 => ?_) (fun zc9 => ?_)
        · replace zhs := br_T zhs zc9
          refine lv_iload_n zhx zhb dX12_freeze_138 rfl (lv_at zhl 2 rfl) ?_
          refine lv_if_ne (tgt := 147) zhx zhb dX12_freeze_139 (by decide) (fun zc9 => ?_) (fun zc9 => ?_)
          · replace zhs := br_F zhs zc9
            refine lv_iload_n zhx zhb dX12_freeze_147 rfl (lv_at zhl 1 rfl) ?_
            cases zhs
            exact zhret _ _ _ _ dX12_freeze_148 (by rfl) zhw
          · replace zhs := br_T zhs zc9
            refine lv_iload zhx zhb dX12_freeze_142 (lv_at zhl 0 rfl) ?_
            refine lv_goto (tgt := 148) zhx zhb dX12_freeze_144 (by decide) ?_
            cases zhs
            exact zhret _ _ _ _ dX12_freeze_148 (by rfl) zhw
        · replace zhs := br_F zhs zc9
          refine lv_bipush (v := (-4)) zhx zhb dX12_freeze_133 (by decide) ?_
          refine lv_goto (tgt := 148) zhx zhb dX12_freeze_135 (by decide) ?_
          cases zhs
          exact zhret _ _ _ _ dX12_freeze_148 (by rfl) zhw
    · replace zhs := br_T zhs zc9
      refine lv_iconst (v := (-1)) zhx zhb dX12_freeze_17 (by decide) ?_
      cases zhs
      exact zhret _ _ _ _ dX12_freeze_18 (by rfl) zhw

-- OffFirstModel.thereMany in (0, ())
def LRef_thereMany_4_15 (N : Nat) (M : Mm) (zx1 : Int32) (zx2 : Int32) : Option ((Int32 × Int32) ⊕ ((Int32))) :=
  rdc 2 (M 7) 0 fun zv9 =>
  (if zv9 ≤ zx2 then some (.inr zx1)
  else rdc 40 (M 25) zx2 fun zv10 =>
  (if zv10 = 0 then ltI (zx1 + 1) fun zv13 =>
  ltI (zx2 + 1) fun zv14 =>
  some (.inl (zv13, zv14))
  else ltI (zx1 + 0) fun zv11 =>
  ltI (zx2 + 1) fun zv12 =>
  some (.inl (zv11, zv12))))
def sRef_thereMany (N : Nat) (M : Mm) : Option Int32 :=
  (itr (fun z : Int32 × Int32 => LRef_thereMany_4_15 N M z.1 z.2) N (0, 0)).bind fun zv16 =>
  some zv16
set_option maxHeartbeats 4000000 in
set_option maxRecDepth 100000 in
theorem cRef_thereMany (l : Launch) (D : va_G) (cI : ClassId) (h : Nat → Nat) (N : Nat) (M : Mm) (r : Int32) (zhs : sRef_thereMany N M = some r) : CtI l yX12_thereMany cX12_thereMany 3 (some .int) 1 D cI (wR h cI M) (wR h cI M) [.ref (h 0)] r := by
  unfold sRef_thereMany at zhs
  refine CtI_of (by decide +kernel) (Nat.le_of_ble_eq_true rfl) ⟨_, rfl⟩ ?_
  intro p e s m args below meth c A Q zls zH zlocs C zhw zhl zhret
  have zhx := C.1
  have zhb := C.2.1
  have zhown := C.2.2.2.2.1
  have zhtB := C.2.2.2.2.2.2.1
  have zhl : lv_has zls 3 [(0, .ref (h 0))] := zhl
  refine lv_iconst (v := 0) zhx zhb dX12_thereMany_0 (by decide) ?_
  refine lv_istore_n (lv' := [(1, .int 0), (0, .ref (h 0))]) zhx zhb dX12_thereMany_1 rfl zhl (by decide) rfl (fun zls zhl => ?_)
  refine lv_iconst (v := 0) zhx zhb dX12_thereMany_2 (by decide) ?_
  refine lv_istore_n (lv' := [(2, .int 0), (1, .int 0), (0, .ref (h 0))]) zhx zhb dX12_thereMany_3 rfl zhl (by decide) rfl (fun zls zhl => ?_)
  obtain ⟨zq15, zhq15, zhs⟩ := bnd_e zhs
  have hloop15 : ∀ (zn : Nat) (zx1 : Int32) (zx2 : Int32) (zq : (Int32)), itr (fun z : Int32 × Int32 => LRef_thereMany_4_15 N M z.1 z.2) zn (zx1, zx2) = some zq → (∀ (zy1 : Int32), zy1 = zq → ∀ (zH : Heap) (zlocs : List Loc) (zls : Array Slot), lv_has zls 3 [(1, .int zy1)] → Hw D (wR h cI M) A s.heap zH zlocs → W p l e (RM 1) s m args below meth c zH zlocs 0 0 Q (F0 m 37 zls [])) → ∀ (zH : Heap) (zlocs : List Loc) (zls : Array Slot), lv_has zls 3 [(2, .int zx2), (1, .int zx1), (0, .ref (h 0))] → Hw D (wR h cI M) A s.heap zH zlocs → W p l e (RM 1) s m args below meth c zH zlocs 0 0 Q (F0 m 4 zls []) := by
    intro zn
    induction zn with
    | zero => intro zx1 zx2 zq zhq; exact absurd zhq (fun h9 => itr_0 h9)
    | succ zn zih =>
        intro zx1 zx2 zq zhq k4_37 zH zlocs zls zhl zhw
        obtain ⟨zy9, zhs, zhq⟩ := itr_s zhq
        replace zhs : LRef_thereMany_4_15 N M zx1 zx2 = some zy9 := zhs
        unfold LRef_thereMany_4_15 at zhs
        refine lv_iload_n zhx zhb dX12_thereMany_4 rfl (lv_at zhl 0 rfl) ?_
        refine lv_aload_n zhx zhb dX12_thereMany_5 rfl (lv_at zhl 2 rfl) ?_
        refine x_get C zhw inlX12 rfl 0 7 (by decide) kw_8_9 rfl (wR_c0 h cI M) rfl dX12_thereMany_6 ?_
        refine lv_iconst (v := 0) zhx zhb dX12_thereMany_9 (by decide) ?_
        obtain ⟨zv9, ze9, zhi, zhs⟩ := rdc_v zhs
        refine x_iald C zhw 7 (wR_c7 h cI M) zhi dX12_thereMany_10 ?_
        refine lv_topi (fun zy9 ze8 => ?_)
        obtain rfl : zv9 = zy9 := ze9.trans ze8.symm
        clear ze9 ze8
        refine lv_icmp_ge (tgt := 37) zhx zhb dX12_thereMany_11 (by decide) (fun zc9 => ?_) (fun zc9 => ?_)
        · replace zhs := br_T zhs zc9
          cases zhs
          exact k4_37 zx1 (itk_q zhq) zH zlocs zls (lv_sub zhl [1] rfl) zhw
        · replace zhs := br_F zhs zc9
          refine lv_iload_n zhx zhb dX12_thereMany_14 rfl (lv_at zhl 1 rfl) ?_
          refine lv_aload_n zhx zhb dX12_thereMany_15 rfl (lv_at zhl 2 rfl) ?_
          refine x_get C zhw inlX12 rfl 0 25 (by decide) kw_9_3 rfl (wR_c0 h cI M) rfl dX12_thereMany_16 ?_
          refine lv_iload_n zhx zhb dX12_thereMany_19 rfl (lv_at zhl 0 rfl) ?_
          obtain ⟨zv10, ze9, zhi, zhs⟩ := rdc_v zhs
          refine x_iald C zhw 25 (wR_c25 h cI M) zhi dX12_thereMany_20 ?_
          refine lv_topi (fun zy9 ze8 => ?_)
          obtain rfl : zv10 = zy9 := ze9.trans ze8.symm
          clear ze9 ze8
          refine lv_if_ne (tgt := 28) zhx zhb dX12_thereMany_21 (by decide) (fun zc9 => ?_) (fun zc9 => ?_)
          · replace zhs := br_F zhs zc9
            refine lv_iconst (v := 0) zhx zhb dX12_thereMany_28 (by decide) ?_
            refine lv_iadd zhx zhb dX12_thereMany_29 ?_
            obtain ⟨zv11, ze9, zhs⟩ := ltI_e zhs
            refine lv_topi (fun zy9 ze8 => ?_)
            obtain rfl : zv11 = zy9 := ze9.trans ze8.symm
            clear ze9 ze8
            refine lv_istore_n (lv' := [(1, .int zv11), (2, .int zx2), (0, .ref (h 0))]) zhx zhb dX12_thereMany_30 rfl zhl (by decide) rfl (fun zls zhl => ?_)
            obtain ⟨zv12, ze9, zhs⟩ := ltI_e zhs
            refine lv_iinc (v := zv12) (lv' := [(2, .int zv12), (1, .int zv11), (0, .ref (h 0))]) zhx zhb dX12_thereMany_31 zhl (k := 1) rfl (by rw [ze9]; rfl) (by decide) rfl (fun zls zhl => ?_)
            clear ze9
            refine lv_goto (tgt := 4) zhx zhb dX12_thereMany_34 (by decide) ?_
            cases zhs
            exact zih zv11 zv12 zq (itk_l zhq) k4_37 zH zlocs zls zhl zhw
          · replace zhs := br_T zhs zc9
            refine lv_iconst (v := 1) zhx zhb dX12_thereMany_24 (by decide) ?_
            refine lv_goto (tgt := 29) zhx zhb dX12_thereMany_25 (by decide) ?_
            refine lv_iadd zhx zhb dX12_thereMany_29 ?_
            obtain ⟨zv13, ze9, zhs⟩ := ltI_e zhs
            refine lv_topi (fun zy9 ze8 => ?_)
            obtain rfl : zv13 = zy9 := ze9.trans ze8.symm
            clear ze9 ze8
            refine lv_istore_n (lv' := [(1, .int zv13), (2, .int zx2), (0, .ref (h 0))]) zhx zhb dX12_thereMany_30 rfl zhl (by decide) rfl (fun zls zhl => ?_)
            obtain ⟨zv14, ze9, zhs⟩ := ltI_e zhs
            refine lv_iinc (v := zv14) (lv' := [(2, .int zv14), (1, .int zv13), (0, .ref (h 0))]) zhx zhb dX12_thereMany_31 zhl (k := 1) rfl (by rw [ze9]; rfl) (by decide) rfl (fun zls zhl => ?_)
            clear ze9
            refine lv_goto (tgt := 4) zhx zhb dX12_thereMany_34 (by decide) ?_
            cases zhs
            exact zih zv13 zv14 zq (itk_l zhq) k4_37 zH zlocs zls zhl zhw
  refine hloop15 N 0 0 zq15 zhq15 (fun zv16 zhqe zH zlocs zls zhl zhw => ?_) zH zlocs zls zhl zhw
  · subst zhqe
    refine lv_iload_n zhx zhb dX12_thereMany_37 rfl (lv_at zhl 0 rfl) ?_
    cases zhs
    exact zhret _ _ _ _ dX12_thereMany_38 (by rfl) zhw

-- OffFirstModel.layAs in (0, ())
def LRef_layAs_11_29 (N : Nat) (a1 : Int32) (a2 : Int32) (zx2 : Int32) (zx3 : Int32) (zM4 : Mm) : Option ((Int32 × Int32 × Mm) ⊕ ((Mm))) :=
  rdc 2 (zM4 7) 0 fun zv17 =>
  (if zv17 ≤ zx3 then some (.inr zM4)
  else (if a2 ≤ zx2 then some (.inr zM4)
  else rdc 40 (zM4 25) zx3 fun zv18 =>
  (if zv18 = 0 then rdc 2 (zM4 2) 0 fun zv24 =>
  (sRef_figure N a1 zv24 a2 zx2).bind fun zv25 =>
  inc 40 (10 + zx3) <| ltM (mset zM4 23 (Int32.toNatClampNeg (10 + zx3)) zv25) fun zM26 =>
  ltI (zx2 + 1) fun zv27 =>
  ltI (zx3 + 1) fun zv28 =>
  some (.inl (zv27, zv28, zM26))
  else ltI (zx3 + 1) fun zv23 =>
  some (.inl (zx2, zv23, zM4)))))
def LRef_layAs_93_86 (N : Nat) (zM30 : Mm) (zx32 : Int32) (zx64 : Int32) (zx65 : Int32) : Option ((Int32 × Int32) ⊕ ((Int32))) :=
  rdc 2 (zM30 7) 0 fun zv76 =>
  (if (10 + zv76) ≤ zx65 then some (.inr zx64)
  else rdc 40 (zM30 25) zx65 fun zv77 =>
  (if zv77 = 0 then rdc 40 (zM30 23) zx65 fun zv81 =>
  (if zv81 = zx32 then ltI (zx64 + 1) fun zv84 =>
  ltI (zx65 + 1) fun zv85 =>
  some (.inl (zv84, zv85))
  else ltI (zx64 + 0) fun zv82 =>
  ltI (zx65 + 1) fun zv83 =>
  some (.inl (zv82, zv83)))
  else ltI (zx64 + 0) fun zv79 =>
  ltI (zx65 + 1) fun zv80 =>
  some (.inl (zv79, zv80))))
def LRef_layAs_75_93 (N : Nat) (zM30 : Mm) (zx31 : Int32) (zx32 : Int32) : Option ((Int32 × Int32) ⊕ ((Int32))) :=
  rdc 2 (zM30 2) 0 fun zv63 =>
  (if zv63 ≤ zx32 then some (.inr zx31)
  else (itr (fun z : Int32 × Int32 => LRef_layAs_93_86 N zM30 zx32 z.1 z.2) N (0, 10)).bind fun zv87 =>
  (if zx31 = 0 then ltI (zx32 + 1) fun zv89 =>
  some (.inl (0, zv89))
  else rdc 12 (zM30 5) zx32 fun zv90 =>
  (if zv90 < zv87 then ltI (zx32 + 1) fun zv91 =>
  some (.inl (0, zv91))
  else ltI (zx32 + 1) fun zv92 =>
  some (.inl (1, zv92)))))
def sRef_layAs (N : Nat) (a1 : Int32) (a2 : Int32) (M : Mm) : Option (Int32 × Mm) :=
  (sRef_copy N 0 1 M).bind fun zM1 =>
  (itr (fun z : Int32 × Int32 × Mm => LRef_layAs_11_29 N a1 a2 z.1 z.2.1 z.2.2) N (0, 0, zM1)).bind fun zM30 =>
  (itr (fun z : Int32 × Int32 => LRef_layAs_75_93 N zM30 z.1 z.2) N (1, 0)).bind fun zv94 =>
  zck zv94 <| some (zv94, zM30)
set_option maxHeartbeats 4000000 in
set_option maxRecDepth 100000 in
theorem cRef_layAs (l : Launch) (D : va_G) (cI : ClassId) (h : Nat → Nat) (N : Nat) (a1 : Int32) (a2 : Int32) (M : Mm) (r : Int32) (M' : Mm) (zhs : sRef_layAs N a1 a2 M = some (r, M')) : CtI l yX12_layAs cX12_layAs 8 (some .boolean) 2 D cI (wR h cI M) (wR h cI M') [.ref (h 0), .int a1, .int a2] r := by
  unfold sRef_layAs at zhs
  refine CtI_of (by decide +kernel) (Nat.le_of_ble_eq_true rfl) ⟨_, rfl⟩ ?_
  intro p e s m args below meth c A Q zls zH zlocs C zhw zhl zhret
  have zhx := C.1
  have zhb := C.2.1
  have zhown := C.2.2.2.2.1
  have zhtB := C.2.2.2.2.2.2.1
  have zhl : lv_has zls 8 [(0, .ref (h 0)), (1, .int a1), (2, .int a2)] := zhl
  refine lv_aload_n zhx zhb dX12_layAs_0 rfl (lv_at zhl 0 rfl) ?_
  refine lv_iconst (v := 0) zhx zhb dX12_layAs_1 (by decide) ?_
  refine lv_iconst (v := 1) zhx zhb dX12_layAs_2 (by decide) ?_
  obtain ⟨zM1, zhp, zhs⟩ := bnd_e zhs
  refine x_cVV (As := [.int 0, .int 1]) (rest := []) C zhw zhl (cRef_copy l D cI h N 0 1 M zM1 zhp) (by decide) (by decide) kw_28_9 kw_28_10 kw_28_11 kw_1_5 kw_28_12 md_X12_copy rfl 0 (wR_c0 h cI M) rfl rfl rfl rfl (Nat.le_of_ble_eq_true rfl) dX12_layAs_3 (fun zH zlocs zhw => ?_)
  refine lv_iconst (v := 0) zhx zhb dX12_layAs_6 (by decide) ?_
  refine lv_istore_n (lv' := [(3, .int 0), (0, .ref (h 0)), (1, .int a1), (2, .int a2)]) zhx zhb dX12_layAs_7 rfl zhl (by decide) rfl (fun zls zhl => ?_)
  refine lv_iconst (v := 0) zhx zhb dX12_layAs_8 (by decide) ?_
  refine lv_istore (lv' := [(4, .int 0), (3, .int 0), (0, .ref (h 0)), (1, .int a1), (2, .int a2)]) zhx zhb dX12_layAs_9 zhl (by decide) rfl (fun zls zhl => ?_)
  obtain ⟨zq29, zhq29, zhs⟩ := bnd_e zhs
  have hloop29 : ∀ (zn : Nat) (zx2 : Int32) (zx3 : Int32) (zM4 : Mm) (zq : (Mm)), itr (fun z : Int32 × Int32 × Mm => LRef_layAs_11_29 N a1 a2 z.1 z.2.1 z.2.2) zn (zx2, zx3, zM4) = some zq → (∀ (zy1 : Mm), zy1 = zq → ∀ (zH : Heap) (zlocs : List Loc) (zls : Array Slot), lv_has zls 8 [(0, .ref (h 0))] → Hw D (wR h cI zy1) A s.heap zH zlocs → W p l e (RM 2) s m args below meth c zH zlocs 0 0 Q (F0 m 69 zls [])) → ∀ (zH : Heap) (zlocs : List Loc) (zls : Array Slot), lv_has zls 8 [(4, .int zx3), (3, .int zx2), (0, .ref (h 0)), (1, .int a1), (2, .int a2)] → Hw D (wR h cI zM4) A s.heap zH zlocs → W p l e (RM 2) s m args below meth c zH zlocs 0 0 Q (F0 m 11 zls []) := by
    intro zn
    induction zn with
    | zero => intro zx2 zx3 zM4 zq zhq; exact absurd zhq (fun h9 => itr_0 h9)
    | succ zn zih =>
        intro zx2 zx3 zM4 zq zhq k11_69 zH zlocs zls zhl zhw
        obtain ⟨zy9, zhs, zhq⟩ := itr_s zhq
        replace zhs : LRef_layAs_11_29 N a1 a2 zx2 zx3 zM4 = some zy9 := zhs
        unfold LRef_layAs_11_29 at zhs
        refine lv_iload zhx zhb dX12_layAs_11 (lv_at zhl 0 rfl) ?_
        refine lv_aload_n zhx zhb dX12_layAs_13 rfl (lv_at zhl 2 rfl) ?_
        refine x_get C zhw inlX12 rfl 0 7 (by decide) kw_8_9 rfl (wR_c0 h cI zM4) rfl dX12_layAs_14 ?_
        refine lv_iconst (v := 0) zhx zhb dX12_layAs_17 (by decide) ?_
        obtain ⟨zv17, ze9, zhi, zhs⟩ := rdc_v zhs
        refine x_iald C zhw 7 (wR_c7 h cI zM4) zhi dX12_layAs_18 ?_
        refine lv_topi (fun zy9 ze8 => ?_)
        obtain rfl : zv17 = zy9 := ze9.trans ze8.symm
        clear ze9 ze8
        refine lv_icmp_ge (tgt := 69) zhx zhb dX12_layAs_19 (by decide) (fun zc9 => ?_) (fun zc9 => ?_)
        · replace zhs := br_T zhs zc9
          cases zhs
          exact k11_69 zM4 (itk_q zhq) zH zlocs zls (lv_sub zhl [2] rfl) zhw
        · replace zhs := br_F zhs zc9
          refine lv_iload_n zhx zhb dX12_layAs_22 rfl (lv_at zhl 1 rfl) ?_
          refine lv_iload_n zhx zhb dX12_layAs_23 rfl (lv_at zhl 4 rfl) ?_
          refine lv_icmp_ge (tgt := 69) zhx zhb dX12_layAs_24 (by decide) (fun zc9 => ?_) (fun zc9 => ?_)
          · replace zhs := br_T zhs zc9
            cases zhs
            exact k11_69 zM4 (itk_q zhq) zH zlocs zls (lv_sub zhl [2] rfl) zhw
          · replace zhs := br_F zhs zc9
            refine lv_aload_n zhx zhb dX12_layAs_27 rfl (lv_at zhl 2 rfl) ?_
            refine x_get C zhw inlX12 rfl 0 25 (by decide) kw_9_3 rfl (wR_c0 h cI zM4) rfl dX12_layAs_28 ?_
            refine lv_iload zhx zhb dX12_layAs_31 (lv_at zhl 0 rfl) ?_
            obtain ⟨zv18, ze9, zhi, zhs⟩ := rdc_v zhs
            refine x_iald C zhw 25 (wR_c25 h cI zM4) zhi dX12_layAs_33 ?_
            refine lv_topi (fun zy9 ze8 => ?_)
            obtain rfl : zv18 = zy9 := ze9.trans ze8.symm
            clear ze9 ze8
            refine lv_if_ne (tgt := 63) zhx zhb dX12_layAs_34 (by decide) (fun zc9 => ?_) (fun zc9 => ?_)
            · replace zhs := br_F zhs zc9
              obtain ⟨zv23, ze9, zhs⟩ := ltI_e zhs
              refine lv_iinc (v := zv23) (lv' := [(4, .int zv23), (3, .int zx2), (0, .ref (h 0)), (1, .int a1), (2, .int a2)]) zhx zhb dX12_layAs_63 zhl (k := 0) rfl (by rw [ze9]; rfl) (by decide) rfl (fun zls zhl => ?_)
              clear ze9
              refine lv_goto (tgt := 11) zhx zhb dX12_layAs_66 (by decide) ?_
              cases zhs
              exact zih zx2 zv23 zM4 zq (itk_l zhq) k11_69 zH zlocs zls zhl zhw
            · replace zhs := br_T zhs zc9
              refine lv_aload_n zhx zhb dX12_layAs_37 rfl (lv_at zhl 2 rfl) ?_
              refine x_get C zhw inlX12 rfl 0 23 (by decide) kw_9_1 rfl (wR_c0 h cI zM4) rfl dX12_layAs_38 ?_
              refine lv_bipush (v := 10) zhx zhb dX12_layAs_41 (by decide) ?_
              refine lv_iload zhx zhb dX12_layAs_43 (lv_at zhl 0 rfl) ?_
              refine lv_iadd zhx zhb dX12_layAs_45 ?_
              refine lv_aload_n zhx zhb dX12_layAs_46 rfl (lv_at zhl 2 rfl) ?_
              refine lv_iload_n zhx zhb dX12_layAs_47 rfl (lv_at zhl 3 rfl) ?_
              refine lv_aload_n zhx zhb dX12_layAs_48 rfl (lv_at zhl 2 rfl) ?_
              refine x_get C zhw inlX12 rfl 0 2 (by decide) kw_8_4 rfl (wR_c0 h cI zM4) rfl dX12_layAs_49 ?_
              refine lv_iconst (v := 0) zhx zhb dX12_layAs_52 (by decide) ?_
              obtain ⟨zv24, ze9, zhi, zhs⟩ := rdc_v zhs
              refine x_iald C zhw 2 (wR_c2 h cI zM4) zhi dX12_layAs_53 ?_
              refine lv_topi (fun zy9 ze8 => ?_)
              obtain rfl : zv24 = zy9 := ze9.trans ze8.symm
              clear ze9 ze8
              refine lv_iload_n zhx zhb dX12_layAs_54 rfl (lv_at zhl 4 rfl) ?_
              refine lv_iload_n zhx zhb dX12_layAs_55 rfl (lv_at zhl 1 rfl) ?_
              obtain ⟨zv25, zhp, zhs⟩ := bnd_e zhs
              refine x_cVI (As := [.int a1, .int zv24, .int a2, .int zx2]) (rest := [.int (10 + zx3), .ref (h 23)]) C zhw zhl (cRef_figure l D cI h N a1 zv24 a2 zx2 zM4 zv25 zhp) (by decide) (by decide) kw_32_13 kw_32_14 kw_32_15 kw_1_5 kw_32_16 md_X12_figure rfl 0 (wR_c0 h cI zM4) rfl rfl rfl rfl (Nat.le_of_ble_eq_true rfl) dX12_layAs_56 (fun zH zlocs zhw hn9 => ?_)
              obtain ⟨zhi, zhs⟩ := inc_e zhs
              refine x_iast C zhw 23 (wR_c23 h cI zM4) zhi (wR_a23 h cI zM4 _ _) dX12_layAs_59 (fun zH zlocs zhw => ?_)
              obtain ⟨zM26, ze9, zhs⟩ := ltM_e zhs
              rw [← ze9] at zhw; clear ze9
              obtain ⟨zv27, ze9, zhs⟩ := ltI_e zhs
              refine lv_iinc (v := zv27) (lv' := [(3, .int zv27), (4, .int zx3), (0, .ref (h 0)), (1, .int a1), (2, .int a2)]) zhx zhb dX12_layAs_60 zhl (k := 1) rfl (by rw [ze9]; rfl) (by decide) rfl (fun zls zhl => ?_)
              clear ze9
              obtain ⟨zv28, ze9, zhs⟩ := ltI_e zhs
              refine lv_iinc (v := zv28) (lv' := [(4, .int zv28), (3, .int zv27), (0, .ref (h 0)), (1, .int a1), (2, .int a2)]) zhx zhb dX12_layAs_63 zhl (k := 1) rfl (by rw [ze9]; rfl) (by decide) rfl (fun zls zhl => ?_)
              clear ze9
              refine lv_goto (tgt := 11) zhx zhb dX12_layAs_66 (by decide) ?_
              cases zhs
              exact zih zv27 zv28 zM26 zq (itk_l zhq) k11_69 zH zlocs zls zhl zhw
  refine hloop29 N 0 0 zM1 zq29 zhq29 (fun zM30 zhqe zH zlocs zls zhl zhw => ?_) zH zlocs zls zhl zhw
  · subst zhqe
    refine lv_iconst (v := 1) zhx zhb dX12_layAs_69 (by decide) ?_
    refine lv_istore (lv' := [(4, .int 1), (0, .ref (h 0))]) zhx zhb dX12_layAs_70 zhl (by decide) rfl (fun zls zhl => ?_)
    refine lv_iconst (v := 0) zhx zhb dX12_layAs_72 (by decide) ?_
    refine lv_istore (lv' := [(5, .int 0), (4, .int 1), (0, .ref (h 0))]) zhx zhb dX12_layAs_73 zhl (by decide) rfl (fun zls zhl => ?_)
    obtain ⟨zq93, zhq93, zhs⟩ := bnd_e zhs
    have hloop93 : ∀ (zn : Nat) (zx31 : Int32) (zx32 : Int32) (zq : (Int32)), itr (fun z : Int32 × Int32 => LRef_layAs_75_93 N zM30 z.1 z.2) zn (zx31, zx32) = some zq → (∀ (zy1 : Int32), zy1 = zq → ∀ (zH : Heap) (zlocs : List Loc) (zls : Array Slot), lv_has zls 8 [(4, .int zy1)] → Hw D (wR h cI zM30) A s.heap zH zlocs → W p l e (RM 2) s m args below meth c zH zlocs 0 0 Q (F0 m 175 zls [])) → ∀ (zH : Heap) (zlocs : List Loc) (zls : Array Slot), lv_has zls 8 [(5, .int zx32), (4, .int zx31), (0, .ref (h 0))] → Hw D (wR h cI zM30) A s.heap zH zlocs → W p l e (RM 2) s m args below meth c zH zlocs 0 0 Q (F0 m 75 zls []) := by
      intro zn
      induction zn with
      | zero => intro zx31 zx32 zq zhq; exact absurd zhq (fun h9 => itr_0 h9)
      | succ zn zih =>
          intro zx31 zx32 zq zhq k75_175 zH zlocs zls zhl zhw
          obtain ⟨zy9, zhs, zhq⟩ := itr_s zhq
          replace zhs : LRef_layAs_75_93 N zM30 zx31 zx32 = some zy9 := zhs
          unfold LRef_layAs_75_93 at zhs
          refine lv_iload zhx zhb dX12_layAs_75 (lv_at zhl 0 rfl) ?_
          refine lv_aload_n zhx zhb dX12_layAs_77 rfl (lv_at zhl 2 rfl) ?_
          refine x_get C zhw inlX12 rfl 0 2 (by decide) kw_8_4 rfl (wR_c0 h cI zM30) rfl dX12_layAs_78 ?_
          refine lv_iconst (v := 0) zhx zhb dX12_layAs_81 (by decide) ?_
          obtain ⟨zv63, ze9, zhi, zhs⟩ := rdc_v zhs
          refine x_iald C zhw 2 (wR_c2 h cI zM30) zhi dX12_layAs_82 ?_
          refine lv_topi (fun zy9 ze8 => ?_)
          obtain rfl : zv63 = zy9 := ze9.trans ze8.symm
          clear ze9 ze8
          refine lv_icmp_ge (tgt := 175) zhx zhb dX12_layAs_83 (by decide) (fun zc9 => ?_) (fun zc9 => ?_)
          · replace zhs := br_T zhs zc9
            cases zhs
            exact k75_175 zx31 (itk_q zhq) zH zlocs zls (lv_sub zhl [1] rfl) zhw
          · replace zhs := br_F zhs zc9
            refine lv_iconst (v := 0) zhx zhb dX12_layAs_86 (by decide) ?_
            refine lv_istore (lv' := [(6, .int 0), (5, .int zx32), (4, .int zx31), (0, .ref (h 0))]) zhx zhb dX12_layAs_87 zhl (by decide) rfl (fun zls zhl => ?_)
            refine lv_bipush (v := 10) zhx zhb dX12_layAs_89 (by decide) ?_
            refine lv_istore (lv' := [(7, .int 10), (6, .int 0), (5, .int zx32), (4, .int zx31), (0, .ref (h 0))]) zhx zhb dX12_layAs_91 zhl (by decide) rfl (fun zls zhl => ?_)
            obtain ⟨zq86, zhq86, zhs⟩ := bnd_e zhs
            have hloop86 : ∀ (zn : Nat) (zx64 : Int32) (zx65 : Int32) (zq : (Int32)), itr (fun z : Int32 × Int32 => LRef_layAs_93_86 N zM30 zx32 z.1 z.2) zn (zx64, zx65) = some zq → (∀ (zy1 : Int32), zy1 = zq → ∀ (zH : Heap) (zlocs : List Loc) (zls : Array Slot), lv_has zls 8 [(6, .int zy1), (5, .int zx32), (4, .int zx31), (0, .ref (h 0))] → Hw D (wR h cI zM30) A s.heap zH zlocs → W p l e (RM 2) s m args below meth c zH zlocs 0 0 Q (F0 m 145 zls [])) → ∀ (zH : Heap) (zlocs : List Loc) (zls : Array Slot), lv_has zls 8 [(7, .int zx65), (6, .int zx64), (5, .int zx32), (4, .int zx31), (0, .ref (h 0))] → Hw D (wR h cI zM30) A s.heap zH zlocs → W p l e (RM 2) s m args below meth c zH zlocs 0 0 Q (F0 m 93 zls []) := by
              intro zn
              induction zn with
              | zero => intro zx64 zx65 zq zhq; exact absurd zhq (fun h9 => itr_0 h9)
              | succ zn zih =>
                  intro zx64 zx65 zq zhq k93_145 zH zlocs zls zhl zhw
                  obtain ⟨zy9, zhs, zhq⟩ := itr_s zhq
                  replace zhs : LRef_layAs_93_86 N zM30 zx32 zx64 zx65 = some zy9 := zhs
                  unfold LRef_layAs_93_86 at zhs
                  refine lv_iload zhx zhb dX12_layAs_93 (lv_at zhl 0 rfl) ?_
                  refine lv_bipush (v := 10) zhx zhb dX12_layAs_95 (by decide) ?_
                  refine lv_aload_n zhx zhb dX12_layAs_97 rfl (lv_at zhl 4 rfl) ?_
                  refine x_get C zhw inlX12 rfl 0 7 (by decide) kw_8_9 rfl (wR_c0 h cI zM30) rfl dX12_layAs_98 ?_
                  refine lv_iconst (v := 0) zhx zhb dX12_layAs_101 (by decide) ?_
                  obtain ⟨zv76, ze9, zhi, zhs⟩ := rdc_v zhs
                  refine x_iald C zhw 7 (wR_c7 h cI zM30) zhi dX12_layAs_102 ?_
                  refine lv_topi (fun zy9 ze8 => ?_)
                  obtain rfl : zv76 = zy9 := ze9.trans ze8.symm
                  clear ze9 ze8
                  refine lv_iadd zhx zhb dX12_layAs_103 ?_
                  refine lv_icmp_ge (tgt := 145) zhx zhb dX12_layAs_104 (by decide) (fun zc9 => ?_) (fun zc9 => ?_)
                  · replace zhs := br_T zhs zc9
                    cases zhs
                    exact k93_145 zx64 (itk_q zhq) zH zlocs zls (lv_sub zhl [1, 2, 3, 4] rfl) zhw
                  · replace zhs := br_F zhs zc9
                    refine lv_iload zhx zhb dX12_layAs_107 (lv_at zhl 1 rfl) ?_
                    refine lv_aload_n zhx zhb dX12_layAs_109 rfl (lv_at zhl 4 rfl) ?_
                    refine x_get C zhw inlX12 rfl 0 25 (by decide) kw_9_3 rfl (wR_c0 h cI zM30) rfl dX12_layAs_110 ?_
                    refine lv_iload zhx zhb dX12_layAs_113 (lv_at zhl 0 rfl) ?_
                    obtain ⟨zv77, ze9, zhi, zhs⟩ := rdc_v zhs
                    refine x_iald C zhw 25 (wR_c25 h cI zM30) zhi dX12_layAs_115 ?_
                    refine lv_topi (fun zy9 ze8 => ?_)
                    obtain rfl : zv77 = zy9 := ze9.trans ze8.symm
                    clear ze9 ze8
                    refine lv_if_ne (tgt := 135) zhx zhb dX12_layAs_116 (by decide) (fun zc9 => ?_) (fun zc9 => ?_)
                    · replace zhs := br_F zhs zc9
                      refine lv_iconst (v := 0) zhx zhb dX12_layAs_135 (by decide) ?_
                      refine lv_iadd zhx zhb dX12_layAs_136 ?_
                      obtain ⟨zv79, ze9, zhs⟩ := ltI_e zhs
                      refine lv_topi (fun zy9 ze8 => ?_)
                      obtain rfl : zv79 = zy9 := ze9.trans ze8.symm
                      clear ze9 ze8
                      refine lv_istore (lv' := [(6, .int zv79), (7, .int zx65), (5, .int zx32), (4, .int zx31), (0, .ref (h 0))]) zhx zhb dX12_layAs_137 zhl (by decide) rfl (fun zls zhl => ?_)
                      obtain ⟨zv80, ze9, zhs⟩ := ltI_e zhs
                      refine lv_iinc (v := zv80) (lv' := [(7, .int zv80), (6, .int zv79), (5, .int zx32), (4, .int zx31), (0, .ref (h 0))]) zhx zhb dX12_layAs_139 zhl (k := 1) rfl (by rw [ze9]; rfl) (by decide) rfl (fun zls zhl => ?_)
                      clear ze9
                      refine lv_goto (tgt := 93) zhx zhb dX12_layAs_142 (by decide) ?_
                      cases zhs
                      exact zih zv79 zv80 zq (itk_l zhq) k93_145 zH zlocs zls zhl zhw
                    · replace zhs := br_T zhs zc9
                      refine lv_aload_n zhx zhb dX12_layAs_119 rfl (lv_at zhl 4 rfl) ?_
                      refine x_get C zhw inlX12 rfl 0 23 (by decide) kw_9_1 rfl (wR_c0 h cI zM30) rfl dX12_layAs_120 ?_
                      refine lv_iload zhx zhb dX12_layAs_123 (lv_at zhl 0 rfl) ?_
                      obtain ⟨zv81, ze9, zhi, zhs⟩ := rdc_v zhs
                      refine x_iald C zhw 23 (wR_c23 h cI zM30) zhi dX12_layAs_125 ?_
                      refine lv_topi (fun zy9 ze8 => ?_)
                      obtain rfl : zv81 = zy9 := ze9.trans ze8.symm
                      clear ze9 ze8
                      refine lv_iload zhx zhb dX12_layAs_126 (lv_at zhl 2 rfl) ?_
                      refine lv_icmp_ne (tgt := 135) zhx zhb dX12_layAs_128 (by decide) (fun zc9 => ?_) (fun zc9 => ?_)
                      · replace zhs := br_F zhs zc9
                        refine lv_iconst (v := 0) zhx zhb dX12_layAs_135 (by decide) ?_
                        refine lv_iadd zhx zhb dX12_layAs_136 ?_
                        obtain ⟨zv82, ze9, zhs⟩ := ltI_e zhs
                        refine lv_topi (fun zy9 ze8 => ?_)
                        obtain rfl : zv82 = zy9 := ze9.trans ze8.symm
                        clear ze9 ze8
                        refine lv_istore (lv' := [(6, .int zv82), (7, .int zx65), (5, .int zx32), (4, .int zx31), (0, .ref (h 0))]) zhx zhb dX12_layAs_137 zhl (by decide) rfl (fun zls zhl => ?_)
                        obtain ⟨zv83, ze9, zhs⟩ := ltI_e zhs
                        refine lv_iinc (v := zv83) (lv' := [(7, .int zv83), (6, .int zv82), (5, .int zx32), (4, .int zx31), (0, .ref (h 0))]) zhx zhb dX12_layAs_139 zhl (k := 1) rfl (by rw [ze9]; rfl) (by decide) rfl (fun zls zhl => ?_)
                        clear ze9
                        refine lv_goto (tgt := 93) zhx zhb dX12_layAs_142 (by decide) ?_
                        cases zhs
                        exact zih zv82 zv83 zq (itk_l zhq) k93_145 zH zlocs zls zhl zhw
                      · replace zhs := br_T zhs zc9
                        refine lv_iconst (v := 1) zhx zhb dX12_layAs_131 (by decide) ?_
                        refine lv_goto (tgt := 136) zhx zhb dX12_layAs_132 (by decide) ?_
                        refine lv_iadd zhx zhb dX12_layAs_136 ?_
                        obtain ⟨zv84, ze9, zhs⟩ := ltI_e zhs
                        refine lv_topi (fun zy9 ze8 => ?_)
                        obtain rfl : zv84 = zy9 := ze9.trans ze8.symm
                        clear ze9 ze8
                        refine lv_istore (lv' := [(6, .int zv84), (7, .int zx65), (5, .int zx32), (4, .int zx31), (0, .ref (h 0))]) zhx zhb dX12_layAs_137 zhl (by decide) rfl (fun zls zhl => ?_)
                        obtain ⟨zv85, ze9, zhs⟩ := ltI_e zhs
                        refine lv_iinc (v := zv85) (lv' := [(7, .int zv85), (6, .int zv84), (5, .int zx32), (4, .int zx31), (0, .ref (h 0))]) zhx zhb dX12_layAs_139 zhl (k := 1) rfl (by rw [ze9]; rfl) (by decide) rfl (fun zls zhl => ?_)
                        clear ze9
                        refine lv_goto (tgt := 93) zhx zhb dX12_layAs_142 (by decide) ?_
                        cases zhs
                        exact zih zv84 zv85 zq (itk_l zhq) k93_145 zH zlocs zls zhl zhw
            refine hloop86 N 0 10 zq86 zhq86 (fun zv87 zhqe zH zlocs zls zhl zhw => ?_) zH zlocs zls zhl zhw
            · subst zhqe
              refine lv_iload zhx zhb dX12_layAs_145 (lv_at zhl 2 rfl) ?_
              refine lv_if_eq (tgt := 166) zhx zhb dX12_layAs_147 (by decide) (fun zc9 => ?_) (fun zc9 => ?_)
              · replace zhs := br_T zhs zc9
                refine lv_iconst (v := 0) zhx zhb dX12_layAs_166 (by decide) ?_
                refine lv_istore (lv' := [(4, .int 0), (6, .int zv87), (5, .int zx32), (0, .ref (h 0))]) zhx zhb dX12_layAs_167 zhl (by decide) rfl (fun zls zhl => ?_)
                obtain ⟨zv89, ze9, zhs⟩ := ltI_e zhs
                refine lv_iinc (v := zv89) (lv' := [(5, .int zv89), (4, .int 0), (6, .int zv87), (0, .ref (h 0))]) zhx zhb dX12_layAs_169 zhl (k := 2) rfl (by rw [ze9]; rfl) (by decide) rfl (fun zls zhl => ?_)
                clear ze9
                refine lv_goto (tgt := 75) zhx zhb dX12_layAs_172 (by decide) ?_
                cases zhs
                exact zih 0 zv89 zq (itk_l zhq) k75_175 zH zlocs zls (lv_sub zhl [0, 1, 3] rfl) zhw
              · replace zhs := br_F zhs zc9
                refine lv_iload zhx zhb dX12_layAs_150 (lv_at zhl 0 rfl) ?_
                refine lv_aload_n zhx zhb dX12_layAs_152 rfl (lv_at zhl 3 rfl) ?_
                refine x_get C zhw inlX12 rfl 0 5 (by decide) kw_8_7 rfl (wR_c0 h cI zM30) rfl dX12_layAs_153 ?_
                refine lv_iload zhx zhb dX12_layAs_156 (lv_at zhl 1 rfl) ?_
                obtain ⟨zv90, ze9, zhi, zhs⟩ := rdc_v zhs
                refine x_iald C zhw 5 (wR_c5 h cI zM30) zhi dX12_layAs_158 ?_
                refine lv_topi (fun zy9 ze8 => ?_)
                obtain rfl : zv90 = zy9 := ze9.trans ze8.symm
                clear ze9 ze8
                refine lv_icmp_gt (tgt := 166) zhx zhb dX12_layAs_159 (by decide) (fun zc9 => ?_) (fun zc9 => ?_)
                · replace zhs := br_T zhs zc9
                  refine lv_iconst (v := 0) zhx zhb dX12_layAs_166 (by decide) ?_
                  refine lv_istore (lv' := [(4, .int 0), (6, .int zv87), (5, .int zx32), (0, .ref (h 0))]) zhx zhb dX12_layAs_167 zhl (by decide) rfl (fun zls zhl => ?_)
                  obtain ⟨zv91, ze9, zhs⟩ := ltI_e zhs
                  refine lv_iinc (v := zv91) (lv' := [(5, .int zv91), (4, .int 0), (6, .int zv87), (0, .ref (h 0))]) zhx zhb dX12_layAs_169 zhl (k := 2) rfl (by rw [ze9]; rfl) (by decide) rfl (fun zls zhl => ?_)
                  clear ze9
                  refine lv_goto (tgt := 75) zhx zhb dX12_layAs_172 (by decide) ?_
                  cases zhs
                  exact zih 0 zv91 zq (itk_l zhq) k75_175 zH zlocs zls (lv_sub zhl [0, 1, 3] rfl) zhw
                · replace zhs := br_F zhs zc9
                  refine lv_iconst (v := 1) zhx zhb dX12_layAs_162 (by decide) ?_
                  refine lv_goto (tgt := 167) zhx zhb dX12_layAs_163 (by decide) ?_
                  refine lv_istore (lv' := [(4, .int 1), (6, .int zv87), (5, .int zx32), (0, .ref (h 0))]) zhx zhb dX12_layAs_167 zhl (by decide) rfl (fun zls zhl => ?_)
                  obtain ⟨zv92, ze9, zhs⟩ := ltI_e zhs
                  refine lv_iinc (v := zv92) (lv' := [(5, .int zv92), (4, .int 1), (6, .int zv87), (0, .ref (h 0))]) zhx zhb dX12_layAs_169 zhl (k := 2) rfl (by rw [ze9]; rfl) (by decide) rfl (fun zls zhl => ?_)
                  clear ze9
                  refine lv_goto (tgt := 75) zhx zhb dX12_layAs_172 (by decide) ?_
                  cases zhs
                  exact zih 1 zv92 zq (itk_l zhq) k75_175 zH zlocs zls (lv_sub zhl [0, 1, 3] rfl) zhw
    refine hloop93 N 1 0 zq93 zhq93 (fun zv94 zhqe zH zlocs zls zhl zhw => ?_) zH zlocs zls zhl zhw
    · subst zhqe
      refine lv_iload zhx zhb dX12_layAs_175 (lv_at zhl 0 rfl) ?_
      obtain ⟨zhz, zhs⟩ := zck_e zhs
      cases zhs
      exact zhret _ _ _ _ dX12_layAs_177 zhz zhw

-- OffFirstModel.lie in (0, ())
def LRef_lie_53_13 (N : Nat) (a1 : Int32) (M : Mm) (zx5 : Int32) (zx6 : Int32) : Option ((Int32 × Int32) ⊕ ((Int32))) :=
  (if a1 ≤ zx6 then some (.inr zx5)
  else rdc 2 (M 2) 0 fun zv10 =>
  ltI (zx5 * zv10) fun zv11 =>
  ltI (zx6 + 1) fun zv12 =>
  some (.inl (zv11, zv12)))
def LRef_lie_86_45 (N : Nat) (a1 : Int32) (a2 : Int32) (zv14 : Int32) (zx15 : Int32) (zx16 : Int32) (zx17 : Int32) (zM18 : Mm) : Option ((Int32 × Int32 × Int32 × Mm) ⊕ ((Int32 × Int32 × Mm))) :=
  (if zv14 ≤ zx17 then some (.inr (zx15, zx16, zM18))
  else (sRef_layAs N zx17 a1 zM18).bind fun (zv32, zM33) =>
  (((if zv32 = 0 then some ((-4), zM33)
  else (sRef_lostOf N a2 zM33).bind fun (zv39, zM40) =>
  some (zv39, zM40)) : Option (Int32 × Mm))).bind fun (zv36, zM37) =>
  (if zv36 < 0 then ltI (zx17 + 1) fun zv41 =>
  some (.inl (zx15, zx16, zv41, zM37))
  else (if zx15 < 0 then ltI (zx17 + 1) fun zv42 =>
  some (.inl (zx17, zv36, zv42, zM37))
  else (if zx16 ≤ zv36 then ltI (zx17 + 1) fun zv43 =>
  some (.inl (zx15, zx16, zv43, zM37))
  else ltI (zx17 + 1) fun zv44 =>
  some (.inl (zx17, zv36, zv44, zM37))))))
def sRef_lie (N : Nat) (a1 : Int32) (a2 : Int32) (a3 : Int32) (M : Mm) : Option (Int32 × Mm) :=
  (sRef_in (Int32.toInt64 a1) 1 4).bind fun zv1 =>
  (if zv1 = 0 then some ((-1), M)
  else (sRef_isLater a2).bind fun zv2 =>
  (if zv2 = 0 then some ((-1), M)
  else (sRef_in (Int32.toInt64 a3) (-1) (Int32.toInt64 (a1 - 1))).bind fun zv3 =>
  (if zv3 = 0 then some ((-1), M)
  else (sRef_thereMany N M).bind fun zv4 =>
  (if a1 ≤ zv4 then (itr (fun z : Int32 × Int32 => LRef_lie_53_13 N a1 M z.1 z.2) N (1, 0)).bind fun zv14 =>
  (itr (fun z : Int32 × Int32 × Int32 × Mm => LRef_lie_86_45 N a1 a2 zv14 z.1 z.2.1 z.2.2.1 z.2.2.2) N ((-4), 0, 0, M)).bind fun (zv46, zv47, zM48) =>
  (if 0 ≤ a3 then rdc 2 (zM48 2) 0 fun zv51 =>
  (sRef_figure N zv46 zv51 a1 a3).bind fun zv52 =>
  some (zv52, zM48)
  else some (zv47, zM48))
  else some ((-4), M)))))
set_option maxHeartbeats 4000000 in
set_option maxRecDepth 100000 in
theorem cRef_lie (l : Launch) (D : va_G) (cI : ClassId) (h : Nat → Nat) (N : Nat) (a1 : Int32) (a2 : Int32) (a3 : Int32) (M : Mm) (r : Int32) (M' : Mm) (zhs : sRef_lie N a1 a2 a3 M = some (r, M')) : CtI l yX12_lie cX12_lie 9 (some .int) 5 D cI (wR h cI M) (wR h cI M') [.ref (h 0), .int a1, .int a2, .int a3] r := by
  unfold sRef_lie at zhs
  refine CtI_of (by decide +kernel) (Nat.le_of_ble_eq_true rfl) ⟨_, rfl⟩ ?_
  intro p e s m args below meth c A Q zls zH zlocs C zhw zhl zhret
  have zhx := C.1
  have zhb := C.2.1
  have zhown := C.2.2.2.2.1
  have zhtB := C.2.2.2.2.2.2.1
  have zhl : lv_has zls 9 [(0, .ref (h 0)), (1, .int a1), (2, .int a2), (3, .int a3)] := zhl
  refine lv_iload_n zhx zhb dX12_lie_0 rfl (lv_at zhl 1 rfl) ?_
  refine lv_i2l zhx zhb dX12_lie_1 rfl ?_
  refine lv_lconst (v := 1) zhx zhb dX12_lie_2 (by decide) ?_
  refine lv_ldc2 zhx zhb zhown (zhtB _ kw_32_3) dX12_lie_3 ?_
  obtain ⟨zv1, zhp, zhs⟩ := bnd_e zhs
  refine x_cSI (As := [.long (Int32.toInt64 a1), .long 1, .long 4]) (rest := []) C zhw zhl (cRef_in l D cI h (Int32.toInt64 a1) 1 4 M zv1 zhp) (by decide) (by decide) kw_10_14 kw_10_15 kw_1_5 kw_10_16 md_X12_in rfl rfl (Nat.le_of_ble_eq_true rfl) dX12_lie_6 (fun zH zlocs zhw hzv1 => ?_)
  refine lv_if_eq (tgt := 34) zhx zhb dX12_lie_9 (by decide) (fun zc9 => ?_) (fun zc9 => ?_)
  · replace zhs := br_T zhs zc9
    refine lv_iconst (v := (-1)) zhx zhb dX12_lie_34 (by decide) ?_
    cases zhs
    exact zhret _ _ _ _ dX12_lie_35 (by rfl) zhw
  · replace zhs := br_F zhs zc9
    refine lv_iload_n zhx zhb dX12_lie_12 rfl (lv_at zhl 2 rfl) ?_
    obtain ⟨zv2, zhp, zhs⟩ := bnd_e zhs
    refine x_cSI (As := [.int a2]) (rest := []) C zhw zhl (cRef_isLater l D cI h a2 M zv2 zhp) (by decide) (by decide) kw_28_5 kw_28_6 kw_1_5 kw_28_7 md_X12_isLater rfl rfl (Nat.le_of_ble_eq_true rfl) dX12_lie_13 (fun zH zlocs zhw hzv2 => ?_)
    refine lv_if_eq (tgt := 34) zhx zhb dX12_lie_16 (by decide) (fun zc9 => ?_) (fun zc9 => ?_)
    · replace zhs := br_T zhs zc9
      refine lv_iconst (v := (-1)) zhx zhb dX12_lie_34 (by decide) ?_
      cases zhs
      exact zhret _ _ _ _ dX12_lie_35 (by rfl) zhw
    · replace zhs := br_F zhs zc9
      refine lv_iload_n zhx zhb dX12_lie_19 rfl (lv_at zhl 3 rfl) ?_
      refine lv_i2l zhx zhb dX12_lie_20 rfl ?_
      refine lv_ldc2 zhx zhb zhown (zhtB _ kw_32_4) dX12_lie_21 ?_
      refine lv_iload_n zhx zhb dX12_lie_24 rfl (lv_at zhl 1 rfl) ?_
      refine lv_iconst (v := 1) zhx zhb dX12_lie_25 (by decide) ?_
      refine lv_isub zhx zhb dX12_lie_26 ?_
      refine lv_i2l zhx zhb dX12_lie_27 rfl ?_
      obtain ⟨zv3, zhp, zhs⟩ := bnd_e zhs
      refine x_cSI (As := [.long (Int32.toInt64 a3), .long (-1), .long (Int32.toInt64 (a1 - 1))]) (rest := []) C zhw zhl (cRef_in l D cI h (Int32.toInt64 a3) (-1) (Int32.toInt64 (a1 - 1)) M zv3 zhp) (by decide) (by decide) kw_10_14 kw_10_15 kw_1_5 kw_10_16 md_X12_in rfl rfl (Nat.le_of_ble_eq_true rfl) dX12_lie_28 (fun zH zlocs zhw hzv3 => ?_)
      refine lv_if_ne (tgt := 36) zhx zhb dX12_lie_31 (by decide) (fun zc9 => ?_) (fun zc9 => ?_)
      · replace zhs := br_F zhs zc9
        refine lv_aload_n zhx zhb dX12_lie_36 rfl (lv_at zhl 0 rfl) ?_
        obtain ⟨zv4, zhp, zhs⟩ := bnd_e zhs
        refine x_cVI (As := []) (rest := []) C zhw zhl (cRef_thereMany l D cI h N M zv4 zhp) (by decide) (by decide) kw_35_21 kw_35_22 kw_35_23 kw_1_5 kw_36_0 md_X12_thereMany rfl 0 (wR_c0 h cI M) rfl rfl rfl rfl (Nat.le_of_ble_eq_true rfl) dX12_lie_37 (fun zH zlocs zhw hn9 => ?_)
        refine lv_iload_n zhx zhb dX12_lie_40 rfl (lv_at zhl 1 rfl) ?_
        refine lv_icmp_ge (tgt := 47) zhx zhb dX12_lie_41 (by decide) (fun zc9 => ?_) (fun zc9 => ?_)
        · replace zhs := br_T zhs zc9
          refine lv_iconst (v := 1) zhx zhb dX12_lie_47 (by decide) ?_
          refine lv_istore (lv' := [(4, .int 1), (0, .ref (h 0)), (1, .int a1), (2, .int a2), (3, .int a3)]) zhx zhb dX12_lie_48 zhl (by decide) rfl (fun zls zhl => ?_)
          refine lv_iconst (v := 0) zhx zhb dX12_lie_50 (by decide) ?_
          refine lv_istore (lv' := [(5, .int 0), (4, .int 1), (0, .ref (h 0)), (1, .int a1), (2, .int a2), (3, .int a3)]) zhx zhb dX12_lie_51 zhl (by decide) rfl (fun zls zhl => ?_)
          obtain ⟨zq13, zhq13, zhs⟩ := bnd_e zhs
          have hloop13 : ∀ (zn : Nat) (zx5 : Int32) (zx6 : Int32) (zq : (Int32)), itr (fun z : Int32 × Int32 => LRef_lie_53_13 N a1 M z.1 z.2) zn (zx5, zx6) = some zq → (∀ (zy1 : Int32), zy1 = zq → ∀ (zH : Heap) (zlocs : List Loc) (zls : Array Slot), lv_has zls 9 [(4, .int zy1), (0, .ref (h 0)), (1, .int a1), (2, .int a2), (3, .int a3)] → Hw D (wR h cI M) A s.heap zH zlocs → W p l e (RM 5) s m args below meth c zH zlocs 0 0 Q (F0 m 76 zls [])) → ∀ (zH : Heap) (zlocs : List Loc) (zls : Array Slot), lv_has zls 9 [(5, .int zx6), (4, .int zx5), (0, .ref (h 0)), (1, .int a1), (2, .int a2), (3, .int a3)] → Hw D (wR h cI M) A s.heap zH zlocs → W p l e (RM 5) s m args below meth c zH zlocs 0 0 Q (F0 m 53 zls []) := by
            intro zn
            induction zn with
            | zero => intro zx5 zx6 zq zhq; exact absurd zhq (fun h9 => itr_0 h9)
            | succ zn zih =>
                intro zx5 zx6 zq zhq k53_76 zH zlocs zls zhl zhw
                obtain ⟨zy9, zhs, zhq⟩ := itr_s zhq
                replace zhs : LRef_lie_53_13 N a1 M zx5 zx6 = some zy9 := zhs
                unfold LRef_lie_53_13 at zhs
                refine lv_iload zhx zhb dX12_lie_53 (lv_at zhl 0 rfl) ?_
                refine lv_iload_n zhx zhb dX12_lie_55 rfl (lv_at zhl 3 rfl) ?_
                refine lv_icmp_ge (tgt := 76) zhx zhb dX12_lie_56 (by decide) (fun zc9 => ?_) (fun zc9 => ?_)
                · replace zhs := br_T zhs zc9
                  cases zhs
                  exact k53_76 zx5 (itk_q zhq) zH zlocs zls (lv_sub zhl [1, 2, 3, 4, 5] rfl) zhw
                · replace zhs := br_F zhs zc9
                  refine lv_iload zhx zhb dX12_lie_59 (lv_at zhl 1 rfl) ?_
                  refine lv_aload_n zhx zhb dX12_lie_61 rfl (lv_at zhl 2 rfl) ?_
                  refine x_get C zhw inlX12 rfl 0 2 (by decide) kw_8_4 rfl (wR_c0 h cI M) rfl dX12_lie_62 ?_
                  refine lv_iconst (v := 0) zhx zhb dX12_lie_65 (by decide) ?_
                  obtain ⟨zv10, ze9, zhi, zhs⟩ := rdc_v zhs
                  refine x_iald C zhw 2 (wR_c2 h cI M) zhi dX12_lie_66 ?_
                  refine lv_topi (fun zy9 ze8 => ?_)
                  obtain rfl : zv10 = zy9 := ze9.trans ze8.symm
                  clear ze9 ze8
                  refine lv_imul zhx zhb dX12_lie_67 ?_
                  obtain ⟨zv11, ze9, zhs⟩ := ltI_e zhs
                  refine lv_topi (fun zy9 ze8 => ?_)
                  obtain rfl : zv11 = zy9 := ze9.trans ze8.symm
                  clear ze9 ze8
                  refine lv_istore (lv' := [(4, .int zv11), (5, .int zx6), (0, .ref (h 0)), (1, .int a1), (2, .int a2), (3, .int a3)]) zhx zhb dX12_lie_68 zhl (by decide) rfl (fun zls zhl => ?_)
                  obtain ⟨zv12, ze9, zhs⟩ := ltI_e zhs
                  refine lv_iinc (v := zv12) (lv' := [(5, .int zv12), (4, .int zv11), (0, .ref (h 0)), (1, .int a1), (2, .int a2), (3, .int a3)]) zhx zhb dX12_lie_70 zhl (k := 1) rfl (by rw [ze9]; rfl) (by decide) rfl (fun zls zhl => ?_)
                  clear ze9
                  refine lv_goto (tgt := 53) zhx zhb dX12_lie_73 (by decide) ?_
                  cases zhs
                  exact zih zv11 zv12 zq (itk_l zhq) k53_76 zH zlocs zls zhl zhw
          refine hloop13 N 1 0 zq13 zhq13 (fun zv14 zhqe zH zlocs zls zhl zhw => ?_) zH zlocs zls zhl zhw
          · subst zhqe
            refine lv_bipush (v := (-4)) zhx zhb dX12_lie_76 (by decide) ?_
            refine lv_istore (lv' := [(5, .int (-4)), (4, .int zv14), (0, .ref (h 0)), (1, .int a1), (2, .int a2), (3, .int a3)]) zhx zhb dX12_lie_78 zhl (by decide) rfl (fun zls zhl => ?_)
            refine lv_iconst (v := 0) zhx zhb dX12_lie_80 (by decide) ?_
            refine lv_istore (lv' := [(6, .int 0), (5, .int (-4)), (4, .int zv14), (0, .ref (h 0)), (1, .int a1), (2, .int a2), (3, .int a3)]) zhx zhb dX12_lie_81 zhl (by decide) rfl (fun zls zhl => ?_)
            refine lv_iconst (v := 0) zhx zhb dX12_lie_83 (by decide) ?_
            refine lv_istore (lv' := [(7, .int 0), (6, .int 0), (5, .int (-4)), (4, .int zv14), (0, .ref (h 0)), (1, .int a1), (2, .int a2), (3, .int a3)]) zhx zhb dX12_lie_84 zhl (by decide) rfl (fun zls zhl => ?_)
            obtain ⟨zq45, zhq45, zhs⟩ := bnd_e zhs
            have hloop45 : ∀ (zn : Nat) (zx15 : Int32) (zx16 : Int32) (zx17 : Int32) (zM18 : Mm) (zq : (Int32 × Int32 × Mm)), itr (fun z : Int32 × Int32 × Int32 × Mm => LRef_lie_86_45 N a1 a2 zv14 z.1 z.2.1 z.2.2.1 z.2.2.2) zn (zx15, zx16, zx17, zM18) = some zq → (∀ (zy1 : Int32) (zy2 : Int32) (zy3 : Mm), (zy1, zy2, zy3) = zq → ∀ (zH : Heap) (zlocs : List Loc) (zls : Array Slot), lv_has zls 9 [(6, .int zy2), (5, .int zy1), (0, .ref (h 0)), (1, .int a1), (3, .int a3)] → Hw D (wR h cI zy3) A s.heap zH zlocs → W p l e (RM 5) s m args below meth c zH zlocs 0 0 Q (F0 m 146 zls [])) → ∀ (zH : Heap) (zlocs : List Loc) (zls : Array Slot), lv_has zls 9 [(7, .int zx17), (6, .int zx16), (5, .int zx15), (4, .int zv14), (0, .ref (h 0)), (1, .int a1), (2, .int a2), (3, .int a3)] → Hw D (wR h cI zM18) A s.heap zH zlocs → W p l e (RM 5) s m args below meth c zH zlocs 0 0 Q (F0 m 86 zls []) := by
              intro zn
              induction zn with
              | zero => intro zx15 zx16 zx17 zM18 zq zhq; exact absurd zhq (fun h9 => itr_0 h9)
              | succ zn zih =>
                  intro zx15 zx16 zx17 zM18 zq zhq k86_146 zH zlocs zls zhl zhw
                  obtain ⟨zy9, zhs, zhq⟩ := itr_s zhq
                  replace zhs : LRef_lie_86_45 N a1 a2 zv14 zx15 zx16 zx17 zM18 = some zy9 := zhs
                  unfold LRef_lie_86_45 at zhs
                  refine lv_iload zhx zhb dX12_lie_86 (lv_at zhl 0 rfl) ?_
                  refine lv_iload zhx zhb dX12_lie_88 (lv_at zhl 3 rfl) ?_
                  refine lv_icmp_ge (tgt := 146) zhx zhb dX12_lie_90 (by decide) (fun zc9 => ?_) (fun zc9 => ?_)
                  · replace zhs := br_T zhs zc9
                    cases zhs
                    exact k86_146 zx15 zx16 zM18 (itk_q zhq) zH zlocs zls (lv_sub zhl [1, 2, 4, 5, 7] rfl) zhw
                  · replace zhs := br_F zhs zc9
                    refine lv_aload_n zhx zhb dX12_lie_93 rfl (lv_at zhl 4 rfl) ?_
                    refine lv_iload zhx zhb dX12_lie_94 (lv_at zhl 0 rfl) ?_
                    refine lv_iload_n zhx zhb dX12_lie_96 rfl (lv_at zhl 5 rfl) ?_
                    obtain ⟨⟨zv32, zM33⟩, zhp, zhs⟩ := bnd_e zhs
                    try dsimp only at zhs
                    refine x_cVI (As := [.int zx17, .int a1]) (rest := []) C zhw zhl (cRef_layAs l D cI h N zx17 a1 zM18 zv32 zM33 zhp) (by decide) (by decide) kw_36_1 kw_36_2 kw_36_3 kw_1_5 kw_36_4 md_X12_layAs rfl 0 (wR_c0 h cI zM18) rfl rfl rfl rfl (Nat.le_of_ble_eq_true rfl) dX12_lie_97 (fun zH zlocs zhw hzv32 => ?_)
                    obtain ⟨⟨zv36, zM37⟩, zhq, zhs⟩ := bnd_e zhs
                    try dsimp only at zhs
                    have hJ38 : ∀ (zH : Heap) (zlocs : List Loc) (zls : Array Slot), lv_has zls 9 [(7, .int zx17), (6, .int zx16), (5, .int zx15), (4, .int zv14), (0, .ref (h 0)), (1, .int a1), (2, .int a2), (3, .int a3)] → Hw D (wR h cI zM37) A s.heap zH zlocs → W p l e (RM 5) s m args below meth c zH zlocs 0 0 Q (F0 m 113 zls [.int zv36]) := by
                      intro zH zlocs zls zhl zhw
                      refine lv_istore (lv' := [(8, .int zv36), (7, .int zx17), (6, .int zx16), (5, .int zx15), (4, .int zv14), (0, .ref (h 0)), (1, .int a1), (2, .int a2), (3, .int a3)]) zhx zhb dX12_lie_113 zhl (by decide) rfl (fun zls zhl => ?_)
                      refine lv_iload zhx zhb dX12_lie_115 (lv_at zhl 0 rfl) ?_
                      refine lv_if_lt (tgt := 140) zhx zhb dX12_lie_117 (by decide) (fun zc9 => ?_) (fun zc9 => ?_)
                      · replace zhs := br_T zhs zc9
                        obtain ⟨zv41, ze9, zhs⟩ := ltI_e zhs
                        refine lv_iinc (v := zv41) (lv' := [(7, .int zv41), (8, .int zv36), (6, .int zx16), (5, .int zx15), (4, .int zv14), (0, .ref (h 0)), (1, .int a1), (2, .int a2), (3, .int a3)]) zhx zhb dX12_lie_140 zhl (k := 1) rfl (by rw [ze9]; rfl) (by decide) rfl (fun zls zhl => ?_)
                        clear ze9
                        refine lv_goto (tgt := 86) zhx zhb dX12_lie_143 (by decide) ?_
                        cases zhs
                        exact zih zx15 zx16 zv41 zM37 zq (itk_l zhq) k86_146 zH zlocs zls (lv_sub zhl [0, 2, 3, 4, 5, 6, 7, 8] rfl) zhw
                      · replace zhs := br_F zhs zc9
                        refine lv_iload zhx zhb dX12_lie_120 (lv_at zhl 3 rfl) ?_
                        refine lv_if_lt (tgt := 132) zhx zhb dX12_lie_122 (by decide) (fun zc9 => ?_) (fun zc9 => ?_)
                        · replace zhs := br_T zhs zc9
                          refine lv_iload zhx zhb dX12_lie_132 (lv_at zhl 1 rfl) ?_
                          refine lv_istore (lv' := [(5, .int zx17), (8, .int zv36), (7, .int zx17), (6, .int zx16), (4, .int zv14), (0, .ref (h 0)), (1, .int a1), (2, .int a2), (3, .int a3)]) zhx zhb dX12_lie_134 zhl (by decide) rfl (fun zls zhl => ?_)
                          refine lv_iload zhx zhb dX12_lie_136 (lv_at zhl 1 rfl) ?_
                          refine lv_istore (lv' := [(6, .int zv36), (5, .int zx17), (8, .int zv36), (7, .int zx17), (4, .int zv14), (0, .ref (h 0)), (1, .int a1), (2, .int a2), (3, .int a3)]) zhx zhb dX12_lie_138 zhl (by decide) rfl (fun zls zhl => ?_)
                          obtain ⟨zv42, ze9, zhs⟩ := ltI_e zhs
                          refine lv_iinc (v := zv42) (lv' := [(7, .int zv42), (6, .int zv36), (5, .int zx17), (8, .int zv36), (4, .int zv14), (0, .ref (h 0)), (1, .int a1), (2, .int a2), (3, .int a3)]) zhx zhb dX12_lie_140 zhl (k := 3) rfl (by rw [ze9]; rfl) (by decide) rfl (fun zls zhl => ?_)
                          clear ze9
                          refine lv_goto (tgt := 86) zhx zhb dX12_lie_143 (by decide) ?_
                          cases zhs
                          exact zih zx17 zv36 zv42 zM37 zq (itk_l zhq) k86_146 zH zlocs zls (lv_sub zhl [0, 1, 2, 4, 5, 6, 7, 8] rfl) zhw
                        · replace zhs := br_F zhs zc9
                          refine lv_iload zhx zhb dX12_lie_125 (lv_at zhl 0 rfl) ?_
                          refine lv_iload zhx zhb dX12_lie_127 (lv_at zhl 2 rfl) ?_
                          refine lv_icmp_ge (tgt := 140) zhx zhb dX12_lie_129 (by decide) (fun zc9 => ?_) (fun zc9 => ?_)
                          · replace zhs := br_T zhs zc9
                            obtain ⟨zv43, ze9, zhs⟩ := ltI_e zhs
                            refine lv_iinc (v := zv43) (lv' := [(7, .int zv43), (8, .int zv36), (6, .int zx16), (5, .int zx15), (4, .int zv14), (0, .ref (h 0)), (1, .int a1), (2, .int a2), (3, .int a3)]) zhx zhb dX12_lie_140 zhl (k := 1) rfl (by rw [ze9]; rfl) (by decide) rfl (fun zls zhl => ?_)
                            clear ze9
                            refine lv_goto (tgt := 86) zhx zhb dX12_lie_143 (by decide) ?_
                            cases zhs
                            exact zih zx15 zx16 zv43 zM37 zq (itk_l zhq) k86_146 zH zlocs zls (lv_sub zhl [0, 2, 3, 4, 5, 6, 7, 8] rfl) zhw
                          · replace zhs := br_F zhs zc9
                            refine lv_iload zhx zhb dX12_lie_132 (lv_at zhl 1 rfl) ?_
                            refine lv_istore (lv' := [(5, .int zx17), (8, .int zv36), (7, .int zx17), (6, .int zx16), (4, .int zv14), (0, .ref (h 0)), (1, .int a1), (2, .int a2), (3, .int a3)]) zhx zhb dX12_lie_134 zhl (by decide) rfl (fun zls zhl => ?_)
                            refine lv_iload zhx zhb dX12_lie_136 (lv_at zhl 1 rfl) ?_
                            refine lv_istore (lv' := [(6, .int zv36), (5, .int zx17), (8, .int zv36), (7, .int zx17), (4, .int zv14), (0, .ref (h 0)), (1, .int a1), (2, .int a2), (3, .int a3)]) zhx zhb dX12_lie_138 zhl (by decide) rfl (fun zls zhl => ?_)
                            obtain ⟨zv44, ze9, zhs⟩ := ltI_e zhs
                            refine lv_iinc (v := zv44) (lv' := [(7, .int zv44), (6, .int zv36), (5, .int zx17), (8, .int zv36), (4, .int zv14), (0, .ref (h 0)), (1, .int a1), (2, .int a2), (3, .int a3)]) zhx zhb dX12_lie_140 zhl (k := 3) rfl (by rw [ze9]; rfl) (by decide) rfl (fun zls zhl => ?_)
                            clear ze9
                            refine lv_goto (tgt := 86) zhx zhb dX12_lie_143 (by decide) ?_
                            cases zhs
                            exact zih zx17 zv36 zv44 zM37 zq (itk_l zhq) k86_146 zH zlocs zls (lv_sub zhl [0, 1, 2, 4, 5, 6, 7, 8] rfl) zhw
                    replace zhs := zhq
                    clear zhq
                    refine lv_if_eq (tgt := 111) zhx zhb dX12_lie_100 (by decide) (fun zc9 => ?_) (fun zc9 => ?_)
                    · replace zhs := br_T zhs zc9
                      refine lv_bipush (v := (-4)) zhx zhb dX12_lie_111 (by decide) ?_
                      cases zhs
                      exact hJ38 zH zlocs zls zhl zhw
                    · replace zhs := br_F zhs zc9
                      refine lv_aload_n zhx zhb dX12_lie_103 rfl (lv_at zhl 4 rfl) ?_
                      refine lv_iload_n zhx zhb dX12_lie_104 rfl (lv_at zhl 6 rfl) ?_
                      obtain ⟨⟨zv39, zM40⟩, zhp, zhs⟩ := bnd_e zhs
                      try dsimp only at zhs
                      refine x_cVI (As := [.int a2]) (rest := []) C zhw zhl (cRef_lostOf l D cI h N a2 zM33 zv39 zM40 zhp) (by decide) (by decide) kw_28_13 kw_28_14 kw_28_15 kw_1_5 kw_28_16 md_X12_lostOf rfl 0 (wR_c0 h cI zM33) rfl rfl rfl rfl (Nat.le_of_ble_eq_true rfl) dX12_lie_105 (fun zH zlocs zhw hn9 => ?_)
                      refine lv_goto (tgt := 113) zhx zhb dX12_lie_108 (by decide) ?_
                      cases zhs
                      exact hJ38 zH zlocs zls zhl zhw
            refine hloop45 N (-4) 0 0 M zq45 zhq45 (fun zv46 zv47 zM48 zhqe zH zlocs zls zhl zhw => ?_) zH zlocs zls zhl zhw
            · subst zhqe
              try dsimp only at zhs
              refine lv_iload_n zhx zhb dX12_lie_146 rfl (lv_at zhl 4 rfl) ?_
              refine lv_if_ge (tgt := 155) zhx zhb dX12_lie_147 (by decide) (fun zc9 => ?_) (fun zc9 => ?_)
              · replace zhs := br_T zhs zc9
                refine lv_aload_n zhx zhb dX12_lie_155 rfl (lv_at zhl 2 rfl) ?_
                refine lv_iload zhx zhb dX12_lie_156 (lv_at zhl 1 rfl) ?_
                refine lv_aload_n zhx zhb dX12_lie_158 rfl (lv_at zhl 2 rfl) ?_
                refine x_get C zhw inlX12 rfl 0 2 (by decide) kw_8_4 rfl (wR_c0 h cI zM48) rfl dX12_lie_159 ?_
                refine lv_iconst (v := 0) zhx zhb dX12_lie_162 (by decide) ?_
                obtain ⟨zv51, ze9, zhi, zhs⟩ := rdc_v zhs
                refine x_iald C zhw 2 (wR_c2 h cI zM48) zhi dX12_lie_163 ?_
                refine lv_topi (fun zy9 ze8 => ?_)
                obtain rfl : zv51 = zy9 := ze9.trans ze8.symm
                clear ze9 ze8
                refine lv_iload_n zhx zhb dX12_lie_164 rfl (lv_at zhl 3 rfl) ?_
                refine lv_iload_n zhx zhb dX12_lie_165 rfl (lv_at zhl 4 rfl) ?_
                obtain ⟨zv52, zhp, zhs⟩ := bnd_e zhs
                refine x_cVI (As := [.int zv46, .int zv51, .int a1, .int a3]) (rest := []) C zhw zhl (cRef_figure l D cI h N zv46 zv51 a1 a3 zM48 zv52 zhp) (by decide) (by decide) kw_32_13 kw_32_14 kw_32_15 kw_1_5 kw_32_16 md_X12_figure rfl 0 (wR_c0 h cI zM48) rfl rfl rfl rfl (Nat.le_of_ble_eq_true rfl) dX12_lie_166 (fun zH zlocs zhw hn9 => ?_)
                cases zhs
                exact zhret _ _ _ _ dX12_lie_169 (by rfl) zhw
              · replace zhs := br_F zhs zc9
                refine lv_iload zhx zhb dX12_lie_150 (lv_at zhl 0 rfl) ?_
                refine lv_goto (tgt := 169) zhx zhb dX12_lie_152 (by decide) ?_
                cases zhs
                exact zhret _ _ _ _ dX12_lie_169 (by rfl) zhw
        · replace zhs := br_F zhs zc9
          refine lv_bipush (v := (-4)) zhx zhb dX12_lie_44 (by decide) ?_
          cases zhs
          exact zhret _ _ _ _ dX12_lie_46 (by rfl) zhw
      · replace zhs := br_T zhs zc9
        refine lv_iconst (v := (-1)) zhx zhb dX12_lie_34 (by decide) ?_
        cases zhs
        exact zhret _ _ _ _ dX12_lie_35 (by rfl) zhw

