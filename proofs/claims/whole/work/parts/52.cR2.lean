-- OffFirstModel.layFridge in (0, ())
def LRef_layFridge_2_27 (N : Nat) (zx1 : Int32) (zM2 : Mm) : Option ((Int32 × Mm) ⊕ ((Mm))) :=
  (if 10 ≤ zx1 then some (.inr zM2)
  else rdc 20 (zM2 8) zx1 fun zv15 =>
  inc 40 zx1 <| ltM (mset zM2 22 (Int32.toNatClampNeg zx1) zv15) fun zM16 =>
  rdc 20 (zM16 9) zx1 fun zv17 =>
  inc 40 zx1 <| ltM (mset zM16 23 (Int32.toNatClampNeg zx1) zv17) fun zM18 =>
  inc 40 zx1 <| ltM (mset zM18 24 (Int32.toNatClampNeg zx1) 0) fun zM19 =>
  rdc 2 (zM19 7) 0 fun zv20 =>
  (if zv20 ≤ zx1 then inc 40 zx1 <| ltM (mset zM19 25 (Int32.toNatClampNeg zx1) 2) fun zM21 =>
  inc 40 zx1 <| ltM (mset zM21 26 (Int32.toNatClampNeg zx1) 0) fun zM22 =>
  ltI (zx1 + 1) fun zv23 =>
  some (.inl (zv23, zM22))
  else inc 40 zx1 <| ltM (mset zM19 25 (Int32.toNatClampNeg zx1) 0) fun zM24 =>
  inc 40 zx1 <| ltM (mset zM24 26 (Int32.toNatClampNeg zx1) 0) fun zM25 =>
  ltI (zx1 + 1) fun zv26 =>
  some (.inl (zv26, zM25))))
def sRef_layFridge (N : Nat) (M : Mm) : Option Mm :=
  (itr (fun z : Int32 × Mm => LRef_layFridge_2_27 N z.1 z.2) N (0, M)).bind fun zM28 =>
  inc 4 0 <| ltM (mset zM28 27 (Int32.toNatClampNeg 0) 0) fun zM29 =>
  ltM (mset zM29 0 28 0) fun zM30 =>
  ltM (mset zM30 0 29 0) fun zM31 =>
  some zM31
set_option maxHeartbeats 4000000 in
set_option maxRecDepth 100000 in
theorem cRef_layFridge (l : Launch) (D : va_G) (cI : ClassId) (h : Nat → Nat) (N : Nat) (M : Mm) (M' : Mm) (zhs : sRef_layFridge N M = some M') : CtV l yX12_layFridge cX12_layFridge 2 1 D cI (wR h cI M) (wR h cI M') [.ref (h 0)] := by
  unfold sRef_layFridge at zhs
  refine CtV_of (by decide +kernel) (Nat.le_of_ble_eq_true rfl) ?_
  intro p e s m args below meth c A Q zls zH zlocs C zhw zhl zhret
  have zhx := C.1
  have zhb := C.2.1
  have zhown := C.2.2.2.2.1
  have zhtB := C.2.2.2.2.2.2.1
  have zhl : lv_has zls 2 [(0, .ref (h 0))] := zhl
  refine lv_iconst (v := 0) zhx zhb dX12_layFridge_0 (by decide) ?_
  refine lv_istore_n (lv' := [(1, .int 0), (0, .ref (h 0))]) zhx zhb dX12_layFridge_1 rfl zhl (by decide) rfl (fun zls zhl => ?_)
  obtain ⟨zq27, zhq27, zhs⟩ := bnd_e zhs
  have hloop27 : ∀ (zn : Nat) (zx1 : Int32) (zM2 : Mm) (zq : (Mm)), itr (fun z : Int32 × Mm => LRef_layFridge_2_27 N z.1 z.2) zn (zx1, zM2) = some zq → (∀ (zy1 : Mm), zy1 = zq → ∀ (zH : Heap) (zlocs : List Loc) (zls : Array Slot), lv_has zls 2 [(0, .ref (h 0))] → Hw D (wR h cI zy1) A s.heap zH zlocs → W p l e (RM 1) s m args below meth c zH zlocs 0 0 Q (F0 m 73 zls [])) → ∀ (zH : Heap) (zlocs : List Loc) (zls : Array Slot), lv_has zls 2 [(1, .int zx1), (0, .ref (h 0))] → Hw D (wR h cI zM2) A s.heap zH zlocs → W p l e (RM 1) s m args below meth c zH zlocs 0 0 Q (F0 m 2 zls []) := by
    intro zn
    induction zn with
    | zero => intro zx1 zM2 zq zhq; exact absurd zhq (fun h9 => itr_0 h9)
    | succ zn zih =>
        intro zx1 zM2 zq zhq k2_73 zH zlocs zls zhl zhw
        obtain ⟨zy9, zhs, zhq⟩ := itr_s zhq
        replace zhs : LRef_layFridge_2_27 N zx1 zM2 = some zy9 := zhs
        unfold LRef_layFridge_2_27 at zhs
        refine lv_iload_n zhx zhb dX12_layFridge_2 rfl (lv_at zhl 0 rfl) ?_
        refine lv_bipush (v := 10) zhx zhb dX12_layFridge_3 (by decide) ?_
        refine lv_icmp_ge (tgt := 73) zhx zhb dX12_layFridge_5 (by decide) (fun zc9 => ?_) (fun zc9 => ?_)
        · replace zhs := br_T zhs zc9
          cases zhs
          exact k2_73 zM2 (itk_q zhq) zH zlocs zls (lv_sub zhl [1] rfl) zhw
        · replace zhs := br_F zhs zc9
          refine lv_aload_n zhx zhb dX12_layFridge_8 rfl (lv_at zhl 1 rfl) ?_
          refine x_get C zhw inlX12 rfl 0 22 (by decide) kw_9_0 rfl (wR_c0 h cI zM2) rfl dX12_layFridge_9 ?_
          refine lv_iload_n zhx zhb dX12_layFridge_12 rfl (lv_at zhl 0 rfl) ?_
          refine lv_aload_n zhx zhb dX12_layFridge_13 rfl (lv_at zhl 1 rfl) ?_
          refine x_get C zhw inlX12 rfl 0 8 (by decide) kw_8_10 rfl (wR_c0 h cI zM2) rfl dX12_layFridge_14 ?_
          refine lv_iload_n zhx zhb dX12_layFridge_17 rfl (lv_at zhl 0 rfl) ?_
          obtain ⟨zv15, ze9, zhi, zhs⟩ := rdc_v zhs
          refine x_iald C zhw 8 (wR_c8 h cI zM2) zhi dX12_layFridge_18 ?_
          refine lv_topi (fun zy9 ze8 => ?_)
          obtain rfl : zv15 = zy9 := ze9.trans ze8.symm
          clear ze9 ze8
          obtain ⟨zhi, zhs⟩ := inc_e zhs
          refine x_iast C zhw 22 (wR_c22 h cI zM2) zhi (wR_a22 h cI zM2 _ _) dX12_layFridge_19 (fun zH zlocs zhw => ?_)
          obtain ⟨zM16, ze9, zhs⟩ := ltM_e zhs
          rw [← ze9] at zhw; clear ze9
          refine lv_aload_n zhx zhb dX12_layFridge_20 rfl (lv_at zhl 1 rfl) ?_
          refine x_get C zhw inlX12 rfl 0 23 (by decide) kw_9_1 rfl (wR_c0 h cI zM16) rfl dX12_layFridge_21 ?_
          refine lv_iload_n zhx zhb dX12_layFridge_24 rfl (lv_at zhl 0 rfl) ?_
          refine lv_aload_n zhx zhb dX12_layFridge_25 rfl (lv_at zhl 1 rfl) ?_
          refine x_get C zhw inlX12 rfl 0 9 (by decide) kw_8_11 rfl (wR_c0 h cI zM16) rfl dX12_layFridge_26 ?_
          refine lv_iload_n zhx zhb dX12_layFridge_29 rfl (lv_at zhl 0 rfl) ?_
          obtain ⟨zv17, ze9, zhi, zhs⟩ := rdc_v zhs
          refine x_iald C zhw 9 (wR_c9 h cI zM16) zhi dX12_layFridge_30 ?_
          refine lv_topi (fun zy9 ze8 => ?_)
          obtain rfl : zv17 = zy9 := ze9.trans ze8.symm
          clear ze9 ze8
          obtain ⟨zhi, zhs⟩ := inc_e zhs
          refine x_iast C zhw 23 (wR_c23 h cI zM16) zhi (wR_a23 h cI zM16 _ _) dX12_layFridge_31 (fun zH zlocs zhw => ?_)
          obtain ⟨zM18, ze9, zhs⟩ := ltM_e zhs
          rw [← ze9] at zhw; clear ze9
          refine lv_aload_n zhx zhb dX12_layFridge_32 rfl (lv_at zhl 1 rfl) ?_
          refine x_get C zhw inlX12 rfl 0 24 (by decide) kw_9_2 rfl (wR_c0 h cI zM18) rfl dX12_layFridge_33 ?_
          refine lv_iload_n zhx zhb dX12_layFridge_36 rfl (lv_at zhl 0 rfl) ?_
          refine lv_iconst (v := 0) zhx zhb dX12_layFridge_37 (by decide) ?_
          obtain ⟨zhi, zhs⟩ := inc_e zhs
          refine x_iast C zhw 24 (wR_c24 h cI zM18) zhi (wR_a24 h cI zM18 _ _) dX12_layFridge_38 (fun zH zlocs zhw => ?_)
          obtain ⟨zM19, ze9, zhs⟩ := ltM_e zhs
          rw [← ze9] at zhw; clear ze9
          refine lv_aload_n zhx zhb dX12_layFridge_39 rfl (lv_at zhl 1 rfl) ?_
          refine x_get C zhw inlX12 rfl 0 25 (by decide) kw_9_3 rfl (wR_c0 h cI zM19) rfl dX12_layFridge_40 ?_
          refine lv_iload_n zhx zhb dX12_layFridge_43 rfl (lv_at zhl 0 rfl) ?_
          refine lv_iload_n zhx zhb dX12_layFridge_44 rfl (lv_at zhl 0 rfl) ?_
          refine lv_aload_n zhx zhb dX12_layFridge_45 rfl (lv_at zhl 1 rfl) ?_
          refine x_get C zhw inlX12 rfl 0 7 (by decide) kw_8_9 rfl (wR_c0 h cI zM19) rfl dX12_layFridge_46 ?_
          refine lv_iconst (v := 0) zhx zhb dX12_layFridge_49 (by decide) ?_
          obtain ⟨zv20, ze9, zhi, zhs⟩ := rdc_v zhs
          refine x_iald C zhw 7 (wR_c7 h cI zM19) zhi dX12_layFridge_50 ?_
          refine lv_topi (fun zy9 ze8 => ?_)
          obtain rfl : zv20 = zy9 := ze9.trans ze8.symm
          clear ze9 ze8
          refine lv_icmp_ge (tgt := 58) zhx zhb dX12_layFridge_51 (by decide) (fun zc9 => ?_) (fun zc9 => ?_)
          · replace zhs := br_T zhs zc9
            refine lv_iconst (v := 2) zhx zhb dX12_layFridge_58 (by decide) ?_
            obtain ⟨zhi, zhs⟩ := inc_e zhs
            refine x_iast C zhw 25 (wR_c25 h cI zM19) zhi (wR_a25 h cI zM19 _ _) dX12_layFridge_59 (fun zH zlocs zhw => ?_)
            obtain ⟨zM21, ze9, zhs⟩ := ltM_e zhs
            rw [← ze9] at zhw; clear ze9
            refine lv_aload_n zhx zhb dX12_layFridge_60 rfl (lv_at zhl 1 rfl) ?_
            refine x_get C zhw inlX12 rfl 0 26 (by decide) kw_9_4 rfl (wR_c0 h cI zM21) rfl dX12_layFridge_61 ?_
            refine lv_iload_n zhx zhb dX12_layFridge_64 rfl (lv_at zhl 0 rfl) ?_
            refine lv_iconst (v := 0) zhx zhb dX12_layFridge_65 (by decide) ?_
            obtain ⟨zhi, zhs⟩ := inc_e zhs
            refine x_iast C zhw 26 (wR_c26 h cI zM21) zhi (wR_a26 h cI zM21 _ _) dX12_layFridge_66 (fun zH zlocs zhw => ?_)
            obtain ⟨zM22, ze9, zhs⟩ := ltM_e zhs
            rw [← ze9] at zhw; clear ze9
            obtain ⟨zv23, ze9, zhs⟩ := ltI_e zhs
            refine lv_iinc (v := zv23) (lv' := [(1, .int zv23), (0, .ref (h 0))]) zhx zhb dX12_layFridge_67 zhl (k := 0) rfl (by rw [ze9]; rfl) (by decide) rfl (fun zls zhl => ?_)
            clear ze9
            refine lv_goto (tgt := 2) zhx zhb dX12_layFridge_70 (by decide) ?_
            cases zhs
            exact zih zv23 zM22 zq (itk_l zhq) k2_73 zH zlocs zls zhl zhw
          · replace zhs := br_F zhs zc9
            refine lv_iconst (v := 0) zhx zhb dX12_layFridge_54 (by decide) ?_
            refine lv_goto (tgt := 59) zhx zhb dX12_layFridge_55 (by decide) ?_
            obtain ⟨zhi, zhs⟩ := inc_e zhs
            refine x_iast C zhw 25 (wR_c25 h cI zM19) zhi (wR_a25 h cI zM19 _ _) dX12_layFridge_59 (fun zH zlocs zhw => ?_)
            obtain ⟨zM24, ze9, zhs⟩ := ltM_e zhs
            rw [← ze9] at zhw; clear ze9
            refine lv_aload_n zhx zhb dX12_layFridge_60 rfl (lv_at zhl 1 rfl) ?_
            refine x_get C zhw inlX12 rfl 0 26 (by decide) kw_9_4 rfl (wR_c0 h cI zM24) rfl dX12_layFridge_61 ?_
            refine lv_iload_n zhx zhb dX12_layFridge_64 rfl (lv_at zhl 0 rfl) ?_
            refine lv_iconst (v := 0) zhx zhb dX12_layFridge_65 (by decide) ?_
            obtain ⟨zhi, zhs⟩ := inc_e zhs
            refine x_iast C zhw 26 (wR_c26 h cI zM24) zhi (wR_a26 h cI zM24 _ _) dX12_layFridge_66 (fun zH zlocs zhw => ?_)
            obtain ⟨zM25, ze9, zhs⟩ := ltM_e zhs
            rw [← ze9] at zhw; clear ze9
            obtain ⟨zv26, ze9, zhs⟩ := ltI_e zhs
            refine lv_iinc (v := zv26) (lv' := [(1, .int zv26), (0, .ref (h 0))]) zhx zhb dX12_layFridge_67 zhl (k := 0) rfl (by rw [ze9]; rfl) (by decide) rfl (fun zls zhl => ?_)
            clear ze9
            refine lv_goto (tgt := 2) zhx zhb dX12_layFridge_70 (by decide) ?_
            cases zhs
            exact zih zv26 zM25 zq (itk_l zhq) k2_73 zH zlocs zls zhl zhw
  refine hloop27 N 0 M zq27 zhq27 (fun zM28 zhqe zH zlocs zls zhl zhw => ?_) zH zlocs zls zhl zhw
  · subst zhqe
    refine lv_aload_n zhx zhb dX12_layFridge_73 rfl (lv_at zhl 0 rfl) ?_
    refine x_get C zhw inlX12 rfl 0 27 (by decide) kw_9_5 rfl (wR_c0 h cI zM28) rfl dX12_layFridge_74 ?_
    refine lv_iconst (v := 0) zhx zhb dX12_layFridge_77 (by decide) ?_
    refine lv_iconst (v := 0) zhx zhb dX12_layFridge_78 (by decide) ?_
    obtain ⟨zhi, zhs⟩ := inc_e zhs
    refine x_iast C zhw 27 (wR_c27 h cI zM28) zhi (wR_a27 h cI zM28 _ _) dX12_layFridge_79 (fun zH zlocs zhw => ?_)
    obtain ⟨zM29, ze9, zhs⟩ := ltM_e zhs
    rw [← ze9] at zhw; clear ze9
    refine lv_aload_n zhx zhb dX12_layFridge_80 rfl (lv_at zhl 0 rfl) ?_
    refine lv_iconst (v := 0) zhx zhb dX12_layFridge_81 (by decide) ?_
    refine x_put C zhw inlX12 rfl tyX12_ok nmX12 0 28 (by decide) kw_9_16 rfl rfl rfl (wR_c0 h cI zM29) (Nat.le_of_ble_eq_true rfl) (wR_s0_28 h cI zM29 _) dX12_layFridge_82 (fun zH zlocs zhw => ?_)
    obtain ⟨zM30, ze9, zhs⟩ := ltM_e zhs
    rw [← ze9] at zhw; clear ze9
    refine lv_aload_n zhx zhb dX12_layFridge_85 rfl (lv_at zhl 0 rfl) ?_
    refine lv_iconst (v := 0) zhx zhb dX12_layFridge_86 (by decide) ?_
    refine x_put C zhw inlX12 rfl tyX12_ok nmX12 0 29 (by decide) kw_9_17 rfl rfl rfl (wR_c0 h cI zM30) (Nat.le_of_ble_eq_true rfl) (wR_s0_29 h cI zM30 _) dX12_layFridge_87 (fun zH zlocs zhw => ?_)
    obtain ⟨zM31, ze9, zhs⟩ := ltM_e zhs
    rw [← ze9] at zhw; clear ze9
    cases zhs
    exact zhret _ _ _ _ dX12_layFridge_90 zhw

-- OffFirstModel.lay in (0, ())
def LRef_lay_111_46 (N : Nat) (zx18 : Int32) (zM19 : Mm) : Option ((Int32 × Mm) ⊕ ((Mm))) :=
  (if 10 ≤ zx18 then some (.inr zM19)
  else rdc 20 (zM19 8) (10 + zx18) fun zv33 =>
  inc 20 zx18 <| ltM (mset zM19 8 (Int32.toNatClampNeg zx18) zv33) fun zM34 =>
  rdc 20 (zM34 9) (10 + zx18) fun zv35 =>
  inc 20 zx18 <| ltM (mset zM34 9 (Int32.toNatClampNeg zx18) zv35) fun zM36 =>
  rdc 20 (zM36 10) (10 + zx18) fun zv37 =>
  inc 20 zx18 <| ltM (mset zM36 10 (Int32.toNatClampNeg zx18) zv37) fun zM38 =>
  rdc 20 (zM38 11) (10 + zx18) fun zv39 =>
  inc 20 zx18 <| ltM (mset zM38 11 (Int32.toNatClampNeg zx18) zv39) fun zM40 =>
  rdc 20 (zM40 12) (10 + zx18) fun zv41 =>
  inc 20 zx18 <| ltM (mset zM40 12 (Int32.toNatClampNeg zx18) zv41) fun zM42 =>
  rdc 20 (zM42 13) (10 + zx18) fun zv43 =>
  inc 20 zx18 <| ltM (mset zM42 13 (Int32.toNatClampNeg zx18) zv43) fun zM44 =>
  ltI (zx18 + 1) fun zv45 =>
  some (.inl (zv45, zM44)))
def LRef_lay_215_72 (N : Nat) (zx48 : Int32) (zM49 : Mm) : Option ((Int32 × Mm) ⊕ ((Mm))) :=
  (if 6 ≤ zx48 then some (.inr zM49)
  else rdc 12 (zM49 3) (6 + zx48) fun zv61 =>
  inc 12 zx48 <| ltM (mset zM49 3 (Int32.toNatClampNeg zx48) zv61) fun zM62 =>
  rdc 12 (zM62 4) (6 + zx48) fun zv63 =>
  inc 12 zx48 <| ltM (mset zM62 4 (Int32.toNatClampNeg zx48) zv63) fun zM64 =>
  rdc 12 (zM64 5) (6 + zx48) fun zv65 =>
  inc 12 zx48 <| ltM (mset zM64 5 (Int32.toNatClampNeg zx48) zv65) fun zM66 =>
  rdc 12 (zM66 19) (6 + zx48) fun zv67 =>
  inc 12 zx48 <| ltM (mset zM66 19 (Int32.toNatClampNeg zx48) zv67) fun zM68 =>
  rdc 12 (zM68 20) (6 + zx48) fun zv69 =>
  inc 12 zx48 <| ltM (mset zM68 20 (Int32.toNatClampNeg zx48) zv69) fun zM70 =>
  ltI (zx48 + 1) fun zv71 =>
  some (.inl (zv71, zM70)))
def LRef_lay_304_82 (N : Nat) (zx74 : Int32) (zM75 : Mm) : Option ((Int32 × Mm) ⊕ ((Mm))) :=
  (if 5 ≤ zx74 then some (.inr zM75)
  else rdc 10 (zM75 15) (5 + zx74) fun zv79 =>
  inc 10 zx74 <| ltM (mset zM75 15 (Int32.toNatClampNeg zx74) zv79) fun zM80 =>
  ltI (zx74 + 1) fun zv81 =>
  some (.inl (zv81, zM80)))
def LRef_lay_331_92 (N : Nat) (zx84 : Int32) (zM85 : Mm) : Option ((Int32 × Mm) ⊕ ((Mm))) :=
  (if 4 ≤ zx84 then some (.inr zM85)
  else rdc 8 (zM85 17) (4 + zx84) fun zv89 =>
  inc 8 zx84 <| ltM (mset zM85 17 (Int32.toNatClampNeg zx84) zv89) fun zM90 =>
  ltI (zx84 + 1) fun zv91 =>
  some (.inl (zv91, zM90)))
def LRef_lay_358_102 (N : Nat) (zx94 : Int32) (zM95 : Mm) : Option ((Int32 × Mm) ⊕ ((Mm))) :=
  (if 3 ≤ zx94 then some (.inr zM95)
  else rdc 6 (zM95 21) (3 + zx94) fun zv99 =>
  inc 6 zx94 <| ltM (mset zM95 21 (Int32.toNatClampNeg zx94) zv99) fun zM100 =>
  ltI (zx94 + 1) fun zv101 =>
  some (.inl (zv101, zM100)))
def sRef_lay (N : Nat) (M : Mm) : Option (Int32 × Mm) :=
  (sRef_readAll N M).bind fun (zv1, zM2) =>
  (if zv1 = (-4) then rdc 2 (zM2 2) 1 fun zv3 =>
  (if zv3 = 0 then some ((-2), zM2)
  else rdc 2 (zM2 7) 1 fun zv4 =>
  (if zv4 = 0 then some ((-2), zM2)
  else (sRef_isRoomy N zM2).bind fun zv5 =>
  (if zv5 = 0 then some ((-2), zM2)
  else rdc 2 (zM2 2) 1 fun zv6 =>
  inc 2 0 <| ltM (mset zM2 2 (Int32.toNatClampNeg 0) zv6) fun zM7 =>
  rdc 2 (zM7 6) 1 fun zv8 =>
  inc 2 0 <| ltM (mset zM7 6 (Int32.toNatClampNeg 0) zv8) fun zM9 =>
  rdc 2 (zM9 7) 1 fun zv10 =>
  inc 2 0 <| ltM (mset zM9 7 (Int32.toNatClampNeg 0) zv10) fun zM11 =>
  rdc 2 (zM11 14) 1 fun zv12 =>
  inc 2 0 <| ltM (mset zM11 14 (Int32.toNatClampNeg 0) zv12) fun zM13 =>
  rdc 2 (zM13 16) 1 fun zv14 =>
  inc 2 0 <| ltM (mset zM13 16 (Int32.toNatClampNeg 0) zv14) fun zM15 =>
  rdc 2 (zM15 18) 1 fun zv16 =>
  inc 2 0 <| ltM (mset zM15 18 (Int32.toNatClampNeg 0) zv16) fun zM17 =>
  (itr (fun z : Int32 × Mm => LRef_lay_111_46 N z.1 z.2) N (0, zM17)).bind fun zM47 =>
  (itr (fun z : Int32 × Mm => LRef_lay_215_72 N z.1 z.2) N (0, zM47)).bind fun zM73 =>
  (itr (fun z : Int32 × Mm => LRef_lay_304_82 N z.1 z.2) N (0, zM73)).bind fun zM83 =>
  (itr (fun z : Int32 × Mm => LRef_lay_331_92 N z.1 z.2) N (0, zM83)).bind fun zM93 =>
  (itr (fun z : Int32 × Mm => LRef_lay_358_102 N z.1 z.2) N (0, zM93)).bind fun zM103 =>
  (sRef_layFridge N zM103).bind fun zM104 =>
  rdc 2 (zM104 7) 0 fun zv105 =>
  some (zv105, zM104))))
  else some ((-2), zM2))
set_option maxHeartbeats 4000000 in
set_option maxRecDepth 100000 in
theorem cRef_lay (l : Launch) (D : va_G) (cI : ClassId) (h : Nat → Nat) (N : Nat) (M : Mm) (r : Int32) (M' : Mm) (zhs : sRef_lay N M = some (r, M')) : CtI l yX12_lay cX12_lay 2 (some .int) 6 D cI (wR h cI M) (wR h cI M') [.ref (h 0)] r := by
  unfold sRef_lay at zhs
  refine CtI_of (by decide +kernel) (Nat.le_of_ble_eq_true rfl) ⟨_, rfl⟩ ?_
  intro p e s m args below meth c A Q zls zH zlocs C zhw zhl zhret
  have zhx := C.1
  have zhb := C.2.1
  have zhown := C.2.2.2.2.1
  have zhtB := C.2.2.2.2.2.2.1
  have zhl : lv_has zls 2 [(0, .ref (h 0))] := zhl
  refine lv_aload_n zhx zhb dX12_lay_0 rfl (lv_at zhl 0 rfl) ?_
  obtain ⟨⟨zv1, zM2⟩, zhp, zhs⟩ := bnd_e zhs
  try dsimp only at zhs
  refine x_cVI (As := []) (rest := []) C zhw zhl (cRef_readAll l D cI h N M zv1 zM2 zhp) (by decide) (by decide) kw_15_13 kw_15_14 kw_15_15 kw_1_5 kw_15_16 md_X12_readAll rfl 0 (wR_c0 h cI M) rfl rfl rfl rfl (Nat.le_of_ble_eq_true rfl) dX12_lay_1 (fun zH zlocs zhw hn9 => ?_)
  refine lv_bipush (v := (-4)) zhx zhb dX12_lay_4 (by decide) ?_
  refine lv_icmp_ne (tgt := 34) zhx zhb dX12_lay_6 (by decide) (fun zc9 => ?_) (fun zc9 => ?_)
  · replace zhs := br_F zhs zc9
    refine lv_bipush (v := (-2)) zhx zhb dX12_lay_34 (by decide) ?_
    cases zhs
    exact zhret _ _ _ _ dX12_lay_36 (by rfl) zhw
  · replace zhs := br_T zhs zc9
    refine lv_aload_n zhx zhb dX12_lay_9 rfl (lv_at zhl 0 rfl) ?_
    refine x_get C zhw inlX12 rfl 0 2 (by decide) kw_8_4 rfl (wR_c0 h cI zM2) rfl dX12_lay_10 ?_
    refine lv_iconst (v := 1) zhx zhb dX12_lay_13 (by decide) ?_
    obtain ⟨zv3, ze9, zhi, zhs⟩ := rdc_v zhs
    refine x_iald C zhw 2 (wR_c2 h cI zM2) zhi dX12_lay_14 ?_
    refine lv_topi (fun zy9 ze8 => ?_)
    obtain rfl : zv3 = zy9 := ze9.trans ze8.symm
    clear ze9 ze8
    refine lv_if_eq (tgt := 34) zhx zhb dX12_lay_15 (by decide) (fun zc9 => ?_) (fun zc9 => ?_)
    · replace zhs := br_T zhs zc9
      refine lv_bipush (v := (-2)) zhx zhb dX12_lay_34 (by decide) ?_
      cases zhs
      exact zhret _ _ _ _ dX12_lay_36 (by rfl) zhw
    · replace zhs := br_F zhs zc9
      refine lv_aload_n zhx zhb dX12_lay_18 rfl (lv_at zhl 0 rfl) ?_
      refine x_get C zhw inlX12 rfl 0 7 (by decide) kw_8_9 rfl (wR_c0 h cI zM2) rfl dX12_lay_19 ?_
      refine lv_iconst (v := 1) zhx zhb dX12_lay_22 (by decide) ?_
      obtain ⟨zv4, ze9, zhi, zhs⟩ := rdc_v zhs
      refine x_iald C zhw 7 (wR_c7 h cI zM2) zhi dX12_lay_23 ?_
      refine lv_topi (fun zy9 ze8 => ?_)
      obtain rfl : zv4 = zy9 := ze9.trans ze8.symm
      clear ze9 ze8
      refine lv_if_eq (tgt := 34) zhx zhb dX12_lay_24 (by decide) (fun zc9 => ?_) (fun zc9 => ?_)
      · replace zhs := br_T zhs zc9
        refine lv_bipush (v := (-2)) zhx zhb dX12_lay_34 (by decide) ?_
        cases zhs
        exact zhret _ _ _ _ dX12_lay_36 (by rfl) zhw
      · replace zhs := br_F zhs zc9
        refine lv_aload_n zhx zhb dX12_lay_27 rfl (lv_at zhl 0 rfl) ?_
        obtain ⟨zv5, zhp, zhs⟩ := bnd_e zhs
        refine x_cVI (As := []) (rest := []) C zhw zhl (cRef_isRoomy l D cI h N zM2 zv5 zhp) (by decide) (by decide) kw_17_19 kw_17_20 kw_17_21 kw_1_5 kw_17_22 md_X12_isRoomy rfl 0 (wR_c0 h cI zM2) rfl rfl rfl rfl (Nat.le_of_ble_eq_true rfl) dX12_lay_28 (fun zH zlocs zhw hzv5 => ?_)
        refine lv_if_ne (tgt := 37) zhx zhb dX12_lay_31 (by decide) (fun zc9 => ?_) (fun zc9 => ?_)
        · replace zhs := br_F zhs zc9
          refine lv_aload_n zhx zhb dX12_lay_37 rfl (lv_at zhl 0 rfl) ?_
          refine x_get C zhw inlX12 rfl 0 2 (by decide) kw_8_4 rfl (wR_c0 h cI zM2) rfl dX12_lay_38 ?_
          refine lv_iconst (v := 0) zhx zhb dX12_lay_41 (by decide) ?_
          refine lv_aload_n zhx zhb dX12_lay_42 rfl (lv_at zhl 0 rfl) ?_
          refine x_get C zhw inlX12 rfl 0 2 (by decide) kw_8_4 rfl (wR_c0 h cI zM2) rfl dX12_lay_43 ?_
          refine lv_iconst (v := 1) zhx zhb dX12_lay_46 (by decide) ?_
          obtain ⟨zv6, ze9, zhi, zhs⟩ := rdc_v zhs
          refine x_iald C zhw 2 (wR_c2 h cI zM2) zhi dX12_lay_47 ?_
          refine lv_topi (fun zy9 ze8 => ?_)
          obtain rfl : zv6 = zy9 := ze9.trans ze8.symm
          clear ze9 ze8
          obtain ⟨zhi, zhs⟩ := inc_e zhs
          refine x_iast C zhw 2 (wR_c2 h cI zM2) zhi (wR_a2 h cI zM2 _ _) dX12_lay_48 (fun zH zlocs zhw => ?_)
          obtain ⟨zM7, ze9, zhs⟩ := ltM_e zhs
          rw [← ze9] at zhw; clear ze9
          refine lv_aload_n zhx zhb dX12_lay_49 rfl (lv_at zhl 0 rfl) ?_
          refine x_get C zhw inlX12 rfl 0 6 (by decide) kw_8_8 rfl (wR_c0 h cI zM7) rfl dX12_lay_50 ?_
          refine lv_iconst (v := 0) zhx zhb dX12_lay_53 (by decide) ?_
          refine lv_aload_n zhx zhb dX12_lay_54 rfl (lv_at zhl 0 rfl) ?_
          refine x_get C zhw inlX12 rfl 0 6 (by decide) kw_8_8 rfl (wR_c0 h cI zM7) rfl dX12_lay_55 ?_
          refine lv_iconst (v := 1) zhx zhb dX12_lay_58 (by decide) ?_
          obtain ⟨zv8, ze9, zhi, zhs⟩ := rdc_v zhs
          refine x_iald C zhw 6 (wR_c6 h cI zM7) zhi dX12_lay_59 ?_
          refine lv_topi (fun zy9 ze8 => ?_)
          obtain rfl : zv8 = zy9 := ze9.trans ze8.symm
          clear ze9 ze8
          obtain ⟨zhi, zhs⟩ := inc_e zhs
          refine x_iast C zhw 6 (wR_c6 h cI zM7) zhi (wR_a6 h cI zM7 _ _) dX12_lay_60 (fun zH zlocs zhw => ?_)
          obtain ⟨zM9, ze9, zhs⟩ := ltM_e zhs
          rw [← ze9] at zhw; clear ze9
          refine lv_aload_n zhx zhb dX12_lay_61 rfl (lv_at zhl 0 rfl) ?_
          refine x_get C zhw inlX12 rfl 0 7 (by decide) kw_8_9 rfl (wR_c0 h cI zM9) rfl dX12_lay_62 ?_
          refine lv_iconst (v := 0) zhx zhb dX12_lay_65 (by decide) ?_
          refine lv_aload_n zhx zhb dX12_lay_66 rfl (lv_at zhl 0 rfl) ?_
          refine x_get C zhw inlX12 rfl 0 7 (by decide) kw_8_9 rfl (wR_c0 h cI zM9) rfl dX12_lay_67 ?_
          refine lv_iconst (v := 1) zhx zhb dX12_lay_70 (by decide) ?_
          obtain ⟨zv10, ze9, zhi, zhs⟩ := rdc_v zhs
          refine x_iald C zhw 7 (wR_c7 h cI zM9) zhi dX12_lay_71 ?_
          refine lv_topi (fun zy9 ze8 => ?_)
          obtain rfl : zv10 = zy9 := ze9.trans ze8.symm
          clear ze9 ze8
          obtain ⟨zhi, zhs⟩ := inc_e zhs
          refine x_iast C zhw 7 (wR_c7 h cI zM9) zhi (wR_a7 h cI zM9 _ _) dX12_lay_72 (fun zH zlocs zhw => ?_)
          obtain ⟨zM11, ze9, zhs⟩ := ltM_e zhs
          rw [← ze9] at zhw; clear ze9
          refine lv_aload_n zhx zhb dX12_lay_73 rfl (lv_at zhl 0 rfl) ?_
          refine x_get C zhw inlX12 rfl 0 14 (by decide) kw_8_16 rfl (wR_c0 h cI zM11) rfl dX12_lay_74 ?_
          refine lv_iconst (v := 0) zhx zhb dX12_lay_77 (by decide) ?_
          refine lv_aload_n zhx zhb dX12_lay_78 rfl (lv_at zhl 0 rfl) ?_
          refine x_get C zhw inlX12 rfl 0 14 (by decide) kw_8_16 rfl (wR_c0 h cI zM11) rfl dX12_lay_79 ?_
          refine lv_iconst (v := 1) zhx zhb dX12_lay_82 (by decide) ?_
          obtain ⟨zv12, ze9, zhi, zhs⟩ := rdc_v zhs
          refine x_iald C zhw 14 (wR_c14 h cI zM11) zhi dX12_lay_83 ?_
          refine lv_topi (fun zy9 ze8 => ?_)
          obtain rfl : zv12 = zy9 := ze9.trans ze8.symm
          clear ze9 ze8
          obtain ⟨zhi, zhs⟩ := inc_e zhs
          refine x_iast C zhw 14 (wR_c14 h cI zM11) zhi (wR_a14 h cI zM11 _ _) dX12_lay_84 (fun zH zlocs zhw => ?_)
          obtain ⟨zM13, ze9, zhs⟩ := ltM_e zhs
          rw [← ze9] at zhw; clear ze9
          refine lv_aload_n zhx zhb dX12_lay_85 rfl (lv_at zhl 0 rfl) ?_
          refine x_get C zhw inlX12 rfl 0 16 (by decide) kw_8_18 rfl (wR_c0 h cI zM13) rfl dX12_lay_86 ?_
          refine lv_iconst (v := 0) zhx zhb dX12_lay_89 (by decide) ?_
          refine lv_aload_n zhx zhb dX12_lay_90 rfl (lv_at zhl 0 rfl) ?_
          refine x_get C zhw inlX12 rfl 0 16 (by decide) kw_8_18 rfl (wR_c0 h cI zM13) rfl dX12_lay_91 ?_
          refine lv_iconst (v := 1) zhx zhb dX12_lay_94 (by decide) ?_
          obtain ⟨zv14, ze9, zhi, zhs⟩ := rdc_v zhs
          refine x_iald C zhw 16 (wR_c16 h cI zM13) zhi dX12_lay_95 ?_
          refine lv_topi (fun zy9 ze8 => ?_)
          obtain rfl : zv14 = zy9 := ze9.trans ze8.symm
          clear ze9 ze8
          obtain ⟨zhi, zhs⟩ := inc_e zhs
          refine x_iast C zhw 16 (wR_c16 h cI zM13) zhi (wR_a16 h cI zM13 _ _) dX12_lay_96 (fun zH zlocs zhw => ?_)
          obtain ⟨zM15, ze9, zhs⟩ := ltM_e zhs
          rw [← ze9] at zhw; clear ze9
          refine lv_aload_n zhx zhb dX12_lay_97 rfl (lv_at zhl 0 rfl) ?_
          refine x_get C zhw inlX12 rfl 0 18 (by decide) kw_8_20 rfl (wR_c0 h cI zM15) rfl dX12_lay_98 ?_
          refine lv_iconst (v := 0) zhx zhb dX12_lay_101 (by decide) ?_
          refine lv_aload_n zhx zhb dX12_lay_102 rfl (lv_at zhl 0 rfl) ?_
          refine x_get C zhw inlX12 rfl 0 18 (by decide) kw_8_20 rfl (wR_c0 h cI zM15) rfl dX12_lay_103 ?_
          refine lv_iconst (v := 1) zhx zhb dX12_lay_106 (by decide) ?_
          obtain ⟨zv16, ze9, zhi, zhs⟩ := rdc_v zhs
          refine x_iald C zhw 18 (wR_c18 h cI zM15) zhi dX12_lay_107 ?_
          refine lv_topi (fun zy9 ze8 => ?_)
          obtain rfl : zv16 = zy9 := ze9.trans ze8.symm
          clear ze9 ze8
          obtain ⟨zhi, zhs⟩ := inc_e zhs
          refine x_iast C zhw 18 (wR_c18 h cI zM15) zhi (wR_a18 h cI zM15 _ _) dX12_lay_108 (fun zH zlocs zhw => ?_)
          obtain ⟨zM17, ze9, zhs⟩ := ltM_e zhs
          rw [← ze9] at zhw; clear ze9
          refine lv_iconst (v := 0) zhx zhb dX12_lay_109 (by decide) ?_
          refine lv_istore_n (lv' := [(1, .int 0), (0, .ref (h 0))]) zhx zhb dX12_lay_110 rfl zhl (by decide) rfl (fun zls zhl => ?_)
          obtain ⟨zq46, zhq46, zhs⟩ := bnd_e zhs
          have hloop46 : ∀ (zn : Nat) (zx18 : Int32) (zM19 : Mm) (zq : (Mm)), itr (fun z : Int32 × Mm => LRef_lay_111_46 N z.1 z.2) zn (zx18, zM19) = some zq → (∀ (zy1 : Mm), zy1 = zq → ∀ (zH : Heap) (zlocs : List Loc) (zls : Array Slot), lv_has zls 2 [(0, .ref (h 0))] → Hw D (wR h cI zy1) A s.heap zH zlocs → W p l e (RM 6) s m args below meth c zH zlocs 0 0 Q (F0 m 213 zls [])) → ∀ (zH : Heap) (zlocs : List Loc) (zls : Array Slot), lv_has zls 2 [(1, .int zx18), (0, .ref (h 0))] → Hw D (wR h cI zM19) A s.heap zH zlocs → W p l e (RM 6) s m args below meth c zH zlocs 0 0 Q (F0 m 111 zls []) := by
            intro zn
            induction zn with
            | zero => intro zx18 zM19 zq zhq; exact absurd zhq (fun h9 => itr_0 h9)
            | succ zn zih =>
                intro zx18 zM19 zq zhq k111_213 zH zlocs zls zhl zhw
                obtain ⟨zy9, zhs, zhq⟩ := itr_s zhq
                replace zhs : LRef_lay_111_46 N zx18 zM19 = some zy9 := zhs
                unfold LRef_lay_111_46 at zhs
                refine lv_iload_n zhx zhb dX12_lay_111 rfl (lv_at zhl 0 rfl) ?_
                refine lv_bipush (v := 10) zhx zhb dX12_lay_112 (by decide) ?_
                refine lv_icmp_ge (tgt := 213) zhx zhb dX12_lay_114 (by decide) (fun zc9 => ?_) (fun zc9 => ?_)
                · replace zhs := br_T zhs zc9
                  cases zhs
                  exact k111_213 zM19 (itk_q zhq) zH zlocs zls (lv_sub zhl [1] rfl) zhw
                · replace zhs := br_F zhs zc9
                  refine lv_aload_n zhx zhb dX12_lay_117 rfl (lv_at zhl 1 rfl) ?_
                  refine x_get C zhw inlX12 rfl 0 8 (by decide) kw_8_10 rfl (wR_c0 h cI zM19) rfl dX12_lay_118 ?_
                  refine lv_iload_n zhx zhb dX12_lay_121 rfl (lv_at zhl 0 rfl) ?_
                  refine lv_aload_n zhx zhb dX12_lay_122 rfl (lv_at zhl 1 rfl) ?_
                  refine x_get C zhw inlX12 rfl 0 8 (by decide) kw_8_10 rfl (wR_c0 h cI zM19) rfl dX12_lay_123 ?_
                  refine lv_bipush (v := 10) zhx zhb dX12_lay_126 (by decide) ?_
                  refine lv_iload_n zhx zhb dX12_lay_128 rfl (lv_at zhl 0 rfl) ?_
                  refine lv_iadd zhx zhb dX12_lay_129 ?_
                  obtain ⟨zv33, ze9, zhi, zhs⟩ := rdc_v zhs
                  refine x_iald C zhw 8 (wR_c8 h cI zM19) zhi dX12_lay_130 ?_
                  refine lv_topi (fun zy9 ze8 => ?_)
                  obtain rfl : zv33 = zy9 := ze9.trans ze8.symm
                  clear ze9 ze8
                  obtain ⟨zhi, zhs⟩ := inc_e zhs
                  refine x_iast C zhw 8 (wR_c8 h cI zM19) zhi (wR_a8 h cI zM19 _ _) dX12_lay_131 (fun zH zlocs zhw => ?_)
                  obtain ⟨zM34, ze9, zhs⟩ := ltM_e zhs
                  rw [← ze9] at zhw; clear ze9
                  refine lv_aload_n zhx zhb dX12_lay_132 rfl (lv_at zhl 1 rfl) ?_
                  refine x_get C zhw inlX12 rfl 0 9 (by decide) kw_8_11 rfl (wR_c0 h cI zM34) rfl dX12_lay_133 ?_
                  refine lv_iload_n zhx zhb dX12_lay_136 rfl (lv_at zhl 0 rfl) ?_
                  refine lv_aload_n zhx zhb dX12_lay_137 rfl (lv_at zhl 1 rfl) ?_
                  refine x_get C zhw inlX12 rfl 0 9 (by decide) kw_8_11 rfl (wR_c0 h cI zM34) rfl dX12_lay_138 ?_
                  refine lv_bipush (v := 10) zhx zhb dX12_lay_141 (by decide) ?_
                  refine lv_iload_n zhx zhb dX12_lay_143 rfl (lv_at zhl 0 rfl) ?_
                  refine lv_iadd zhx zhb dX12_lay_144 ?_
                  obtain ⟨zv35, ze9, zhi, zhs⟩ := rdc_v zhs
                  refine x_iald C zhw 9 (wR_c9 h cI zM34) zhi dX12_lay_145 ?_
                  refine lv_topi (fun zy9 ze8 => ?_)
                  obtain rfl : zv35 = zy9 := ze9.trans ze8.symm
                  clear ze9 ze8
                  obtain ⟨zhi, zhs⟩ := inc_e zhs
                  refine x_iast C zhw 9 (wR_c9 h cI zM34) zhi (wR_a9 h cI zM34 _ _) dX12_lay_146 (fun zH zlocs zhw => ?_)
                  obtain ⟨zM36, ze9, zhs⟩ := ltM_e zhs
                  rw [← ze9] at zhw; clear ze9
                  refine lv_aload_n zhx zhb dX12_lay_147 rfl (lv_at zhl 1 rfl) ?_
                  refine x_get C zhw inlX12 rfl 0 10 (by decide) kw_8_12 rfl (wR_c0 h cI zM36) rfl dX12_lay_148 ?_
                  refine lv_iload_n zhx zhb dX12_lay_151 rfl (lv_at zhl 0 rfl) ?_
                  refine lv_aload_n zhx zhb dX12_lay_152 rfl (lv_at zhl 1 rfl) ?_
                  refine x_get C zhw inlX12 rfl 0 10 (by decide) kw_8_12 rfl (wR_c0 h cI zM36) rfl dX12_lay_153 ?_
                  refine lv_bipush (v := 10) zhx zhb dX12_lay_156 (by decide) ?_
                  refine lv_iload_n zhx zhb dX12_lay_158 rfl (lv_at zhl 0 rfl) ?_
                  refine lv_iadd zhx zhb dX12_lay_159 ?_
                  obtain ⟨zv37, ze9, zhi, zhs⟩ := rdc_v zhs
                  refine x_iald C zhw 10 (wR_c10 h cI zM36) zhi dX12_lay_160 ?_
                  refine lv_topi (fun zy9 ze8 => ?_)
                  obtain rfl : zv37 = zy9 := ze9.trans ze8.symm
                  clear ze9 ze8
                  obtain ⟨zhi, zhs⟩ := inc_e zhs
                  refine x_iast C zhw 10 (wR_c10 h cI zM36) zhi (wR_a10 h cI zM36 _ _) dX12_lay_161 (fun zH zlocs zhw => ?_)
                  obtain ⟨zM38, ze9, zhs⟩ := ltM_e zhs
                  rw [← ze9] at zhw; clear ze9
                  refine lv_aload_n zhx zhb dX12_lay_162 rfl (lv_at zhl 1 rfl) ?_
                  refine x_get C zhw inlX12 rfl 0 11 (by decide) kw_8_13 rfl (wR_c0 h cI zM38) rfl dX12_lay_163 ?_
                  refine lv_iload_n zhx zhb dX12_lay_166 rfl (lv_at zhl 0 rfl) ?_
                  refine lv_aload_n zhx zhb dX12_lay_167 rfl (lv_at zhl 1 rfl) ?_
                  refine x_get C zhw inlX12 rfl 0 11 (by decide) kw_8_13 rfl (wR_c0 h cI zM38) rfl dX12_lay_168 ?_
                  refine lv_bipush (v := 10) zhx zhb dX12_lay_171 (by decide) ?_
                  refine lv_iload_n zhx zhb dX12_lay_173 rfl (lv_at zhl 0 rfl) ?_
                  refine lv_iadd zhx zhb dX12_lay_174 ?_
                  obtain ⟨zv39, ze9, zhi, zhs⟩ := rdc_v zhs
                  refine x_iald C zhw 11 (wR_c11 h cI zM38) zhi dX12_lay_175 ?_
                  refine lv_topi (fun zy9 ze8 => ?_)
                  obtain rfl : zv39 = zy9 := ze9.trans ze8.symm
                  clear ze9 ze8
                  obtain ⟨zhi, zhs⟩ := inc_e zhs
                  refine x_iast C zhw 11 (wR_c11 h cI zM38) zhi (wR_a11 h cI zM38 _ _) dX12_lay_176 (fun zH zlocs zhw => ?_)
                  obtain ⟨zM40, ze9, zhs⟩ := ltM_e zhs
                  rw [← ze9] at zhw; clear ze9
                  refine lv_aload_n zhx zhb dX12_lay_177 rfl (lv_at zhl 1 rfl) ?_
                  refine x_get C zhw inlX12 rfl 0 12 (by decide) kw_8_14 rfl (wR_c0 h cI zM40) rfl dX12_lay_178 ?_
                  refine lv_iload_n zhx zhb dX12_lay_181 rfl (lv_at zhl 0 rfl) ?_
                  refine lv_aload_n zhx zhb dX12_lay_182 rfl (lv_at zhl 1 rfl) ?_
                  refine x_get C zhw inlX12 rfl 0 12 (by decide) kw_8_14 rfl (wR_c0 h cI zM40) rfl dX12_lay_183 ?_
                  refine lv_bipush (v := 10) zhx zhb dX12_lay_186 (by decide) ?_
                  refine lv_iload_n zhx zhb dX12_lay_188 rfl (lv_at zhl 0 rfl) ?_
                  refine lv_iadd zhx zhb dX12_lay_189 ?_
                  obtain ⟨zv41, ze9, zhi, zhs⟩ := rdc_v zhs
                  refine x_iald C zhw 12 (wR_c12 h cI zM40) zhi dX12_lay_190 ?_
                  refine lv_topi (fun zy9 ze8 => ?_)
                  obtain rfl : zv41 = zy9 := ze9.trans ze8.symm
                  clear ze9 ze8
                  obtain ⟨zhi, zhs⟩ := inc_e zhs
                  refine x_iast C zhw 12 (wR_c12 h cI zM40) zhi (wR_a12 h cI zM40 _ _) dX12_lay_191 (fun zH zlocs zhw => ?_)
                  obtain ⟨zM42, ze9, zhs⟩ := ltM_e zhs
                  rw [← ze9] at zhw; clear ze9
                  refine lv_aload_n zhx zhb dX12_lay_192 rfl (lv_at zhl 1 rfl) ?_
                  refine x_get C zhw inlX12 rfl 0 13 (by decide) kw_8_15 rfl (wR_c0 h cI zM42) rfl dX12_lay_193 ?_
                  refine lv_iload_n zhx zhb dX12_lay_196 rfl (lv_at zhl 0 rfl) ?_
                  refine lv_aload_n zhx zhb dX12_lay_197 rfl (lv_at zhl 1 rfl) ?_
                  refine x_get C zhw inlX12 rfl 0 13 (by decide) kw_8_15 rfl (wR_c0 h cI zM42) rfl dX12_lay_198 ?_
                  refine lv_bipush (v := 10) zhx zhb dX12_lay_201 (by decide) ?_
                  refine lv_iload_n zhx zhb dX12_lay_203 rfl (lv_at zhl 0 rfl) ?_
                  refine lv_iadd zhx zhb dX12_lay_204 ?_
                  obtain ⟨zv43, ze9, zhi, zhs⟩ := rdc_v zhs
                  refine x_iald C zhw 13 (wR_c13 h cI zM42) zhi dX12_lay_205 ?_
                  refine lv_topi (fun zy9 ze8 => ?_)
                  obtain rfl : zv43 = zy9 := ze9.trans ze8.symm
                  clear ze9 ze8
                  obtain ⟨zhi, zhs⟩ := inc_e zhs
                  refine x_iast C zhw 13 (wR_c13 h cI zM42) zhi (wR_a13 h cI zM42 _ _) dX12_lay_206 (fun zH zlocs zhw => ?_)
                  obtain ⟨zM44, ze9, zhs⟩ := ltM_e zhs
                  rw [← ze9] at zhw; clear ze9
                  obtain ⟨zv45, ze9, zhs⟩ := ltI_e zhs
                  refine lv_iinc (v := zv45) (lv' := [(1, .int zv45), (0, .ref (h 0))]) zhx zhb dX12_lay_207 zhl (k := 0) rfl (by rw [ze9]; rfl) (by decide) rfl (fun zls zhl => ?_)
                  clear ze9
                  refine lv_goto (tgt := 111) zhx zhb dX12_lay_210 (by decide) ?_
                  cases zhs
                  exact zih zv45 zM44 zq (itk_l zhq) k111_213 zH zlocs zls zhl zhw
          refine hloop46 N 0 zM17 zq46 zhq46 (fun zM47 zhqe zH zlocs zls zhl zhw => ?_) zH zlocs zls zhl zhw
          · subst zhqe
            refine lv_iconst (v := 0) zhx zhb dX12_lay_213 (by decide) ?_
            refine lv_istore_n (lv' := [(1, .int 0), (0, .ref (h 0))]) zhx zhb dX12_lay_214 rfl zhl (by decide) rfl (fun zls zhl => ?_)
            obtain ⟨zq72, zhq72, zhs⟩ := bnd_e zhs
            have hloop72 : ∀ (zn : Nat) (zx48 : Int32) (zM49 : Mm) (zq : (Mm)), itr (fun z : Int32 × Mm => LRef_lay_215_72 N z.1 z.2) zn (zx48, zM49) = some zq → (∀ (zy1 : Mm), zy1 = zq → ∀ (zH : Heap) (zlocs : List Loc) (zls : Array Slot), lv_has zls 2 [(0, .ref (h 0))] → Hw D (wR h cI zy1) A s.heap zH zlocs → W p l e (RM 6) s m args below meth c zH zlocs 0 0 Q (F0 m 302 zls [])) → ∀ (zH : Heap) (zlocs : List Loc) (zls : Array Slot), lv_has zls 2 [(1, .int zx48), (0, .ref (h 0))] → Hw D (wR h cI zM49) A s.heap zH zlocs → W p l e (RM 6) s m args below meth c zH zlocs 0 0 Q (F0 m 215 zls []) := by
              intro zn
              induction zn with
              | zero => intro zx48 zM49 zq zhq; exact absurd zhq (fun h9 => itr_0 h9)
              | succ zn zih =>
                  intro zx48 zM49 zq zhq k215_302 zH zlocs zls zhl zhw
                  obtain ⟨zy9, zhs, zhq⟩ := itr_s zhq
                  replace zhs : LRef_lay_215_72 N zx48 zM49 = some zy9 := zhs
                  unfold LRef_lay_215_72 at zhs
                  refine lv_iload_n zhx zhb dX12_lay_215 rfl (lv_at zhl 0 rfl) ?_
                  refine lv_bipush (v := 6) zhx zhb dX12_lay_216 (by decide) ?_
                  refine lv_icmp_ge (tgt := 302) zhx zhb dX12_lay_218 (by decide) (fun zc9 => ?_) (fun zc9 => ?_)
                  · replace zhs := br_T zhs zc9
                    cases zhs
                    exact k215_302 zM49 (itk_q zhq) zH zlocs zls (lv_sub zhl [1] rfl) zhw
                  · replace zhs := br_F zhs zc9
                    refine lv_aload_n zhx zhb dX12_lay_221 rfl (lv_at zhl 1 rfl) ?_
                    refine x_get C zhw inlX12 rfl 0 3 (by decide) kw_8_5 rfl (wR_c0 h cI zM49) rfl dX12_lay_222 ?_
                    refine lv_iload_n zhx zhb dX12_lay_225 rfl (lv_at zhl 0 rfl) ?_
                    refine lv_aload_n zhx zhb dX12_lay_226 rfl (lv_at zhl 1 rfl) ?_
                    refine x_get C zhw inlX12 rfl 0 3 (by decide) kw_8_5 rfl (wR_c0 h cI zM49) rfl dX12_lay_227 ?_
                    refine lv_bipush (v := 6) zhx zhb dX12_lay_230 (by decide) ?_
                    refine lv_iload_n zhx zhb dX12_lay_232 rfl (lv_at zhl 0 rfl) ?_
                    refine lv_iadd zhx zhb dX12_lay_233 ?_
                    obtain ⟨zv61, ze9, zhi, zhs⟩ := rdc_v zhs
                    refine x_iald C zhw 3 (wR_c3 h cI zM49) zhi dX12_lay_234 ?_
                    refine lv_topi (fun zy9 ze8 => ?_)
                    obtain rfl : zv61 = zy9 := ze9.trans ze8.symm
                    clear ze9 ze8
                    obtain ⟨zhi, zhs⟩ := inc_e zhs
                    refine x_iast C zhw 3 (wR_c3 h cI zM49) zhi (wR_a3 h cI zM49 _ _) dX12_lay_235 (fun zH zlocs zhw => ?_)
                    obtain ⟨zM62, ze9, zhs⟩ := ltM_e zhs
                    rw [← ze9] at zhw; clear ze9
                    refine lv_aload_n zhx zhb dX12_lay_236 rfl (lv_at zhl 1 rfl) ?_
                    refine x_get C zhw inlX12 rfl 0 4 (by decide) kw_8_6 rfl (wR_c0 h cI zM62) rfl dX12_lay_237 ?_
                    refine lv_iload_n zhx zhb dX12_lay_240 rfl (lv_at zhl 0 rfl) ?_
                    refine lv_aload_n zhx zhb dX12_lay_241 rfl (lv_at zhl 1 rfl) ?_
                    refine x_get C zhw inlX12 rfl 0 4 (by decide) kw_8_6 rfl (wR_c0 h cI zM62) rfl dX12_lay_242 ?_
                    refine lv_bipush (v := 6) zhx zhb dX12_lay_245 (by decide) ?_
                    refine lv_iload_n zhx zhb dX12_lay_247 rfl (lv_at zhl 0 rfl) ?_
                    refine lv_iadd zhx zhb dX12_lay_248 ?_
                    obtain ⟨zv63, ze9, zhi, zhs⟩ := rdc_v zhs
                    refine x_iald C zhw 4 (wR_c4 h cI zM62) zhi dX12_lay_249 ?_
                    refine lv_topi (fun zy9 ze8 => ?_)
                    obtain rfl : zv63 = zy9 := ze9.trans ze8.symm
                    clear ze9 ze8
                    obtain ⟨zhi, zhs⟩ := inc_e zhs
                    refine x_iast C zhw 4 (wR_c4 h cI zM62) zhi (wR_a4 h cI zM62 _ _) dX12_lay_250 (fun zH zlocs zhw => ?_)
                    obtain ⟨zM64, ze9, zhs⟩ := ltM_e zhs
                    rw [← ze9] at zhw; clear ze9
                    refine lv_aload_n zhx zhb dX12_lay_251 rfl (lv_at zhl 1 rfl) ?_
                    refine x_get C zhw inlX12 rfl 0 5 (by decide) kw_8_7 rfl (wR_c0 h cI zM64) rfl dX12_lay_252 ?_
                    refine lv_iload_n zhx zhb dX12_lay_255 rfl (lv_at zhl 0 rfl) ?_
                    refine lv_aload_n zhx zhb dX12_lay_256 rfl (lv_at zhl 1 rfl) ?_
                    refine x_get C zhw inlX12 rfl 0 5 (by decide) kw_8_7 rfl (wR_c0 h cI zM64) rfl dX12_lay_257 ?_
                    refine lv_bipush (v := 6) zhx zhb dX12_lay_260 (by decide) ?_
                    refine lv_iload_n zhx zhb dX12_lay_262 rfl (lv_at zhl 0 rfl) ?_
                    refine lv_iadd zhx zhb dX12_lay_263 ?_
                    obtain ⟨zv65, ze9, zhi, zhs⟩ := rdc_v zhs
                    refine x_iald C zhw 5 (wR_c5 h cI zM64) zhi dX12_lay_264 ?_
                    refine lv_topi (fun zy9 ze8 => ?_)
                    obtain rfl : zv65 = zy9 := ze9.trans ze8.symm
                    clear ze9 ze8
                    obtain ⟨zhi, zhs⟩ := inc_e zhs
                    refine x_iast C zhw 5 (wR_c5 h cI zM64) zhi (wR_a5 h cI zM64 _ _) dX12_lay_265 (fun zH zlocs zhw => ?_)
                    obtain ⟨zM66, ze9, zhs⟩ := ltM_e zhs
                    rw [← ze9] at zhw; clear ze9
                    refine lv_aload_n zhx zhb dX12_lay_266 rfl (lv_at zhl 1 rfl) ?_
                    refine x_get C zhw inlX12 rfl 0 19 (by decide) kw_8_21 rfl (wR_c0 h cI zM66) rfl dX12_lay_267 ?_
                    refine lv_iload_n zhx zhb dX12_lay_270 rfl (lv_at zhl 0 rfl) ?_
                    refine lv_aload_n zhx zhb dX12_lay_271 rfl (lv_at zhl 1 rfl) ?_
                    refine x_get C zhw inlX12 rfl 0 19 (by decide) kw_8_21 rfl (wR_c0 h cI zM66) rfl dX12_lay_272 ?_
                    refine lv_bipush (v := 6) zhx zhb dX12_lay_275 (by decide) ?_
                    refine lv_iload_n zhx zhb dX12_lay_277 rfl (lv_at zhl 0 rfl) ?_
                    refine lv_iadd zhx zhb dX12_lay_278 ?_
                    obtain ⟨zv67, ze9, zhi, zhs⟩ := rdc_v zhs
                    refine x_iald C zhw 19 (wR_c19 h cI zM66) zhi dX12_lay_279 ?_
                    refine lv_topi (fun zy9 ze8 => ?_)
                    obtain rfl : zv67 = zy9 := ze9.trans ze8.symm
                    clear ze9 ze8
                    obtain ⟨zhi, zhs⟩ := inc_e zhs
                    refine x_iast C zhw 19 (wR_c19 h cI zM66) zhi (wR_a19 h cI zM66 _ _) dX12_lay_280 (fun zH zlocs zhw => ?_)
                    obtain ⟨zM68, ze9, zhs⟩ := ltM_e zhs
                    rw [← ze9] at zhw; clear ze9
                    refine lv_aload_n zhx zhb dX12_lay_281 rfl (lv_at zhl 1 rfl) ?_
                    refine x_get C zhw inlX12 rfl 0 20 (by decide) kw_8_22 rfl (wR_c0 h cI zM68) rfl dX12_lay_282 ?_
                    refine lv_iload_n zhx zhb dX12_lay_285 rfl (lv_at zhl 0 rfl) ?_
                    refine lv_aload_n zhx zhb dX12_lay_286 rfl (lv_at zhl 1 rfl) ?_
                    refine x_get C zhw inlX12 rfl 0 20 (by decide) kw_8_22 rfl (wR_c0 h cI zM68) rfl dX12_lay_287 ?_
                    refine lv_bipush (v := 6) zhx zhb dX12_lay_290 (by decide) ?_
                    refine lv_iload_n zhx zhb dX12_lay_292 rfl (lv_at zhl 0 rfl) ?_
                    refine lv_iadd zhx zhb dX12_lay_293 ?_
                    obtain ⟨zv69, ze9, zhi, zhs⟩ := rdc_v zhs
                    refine x_iald C zhw 20 (wR_c20 h cI zM68) zhi dX12_lay_294 ?_
                    refine lv_topi (fun zy9 ze8 => ?_)
                    obtain rfl : zv69 = zy9 := ze9.trans ze8.symm
                    clear ze9 ze8
                    obtain ⟨zhi, zhs⟩ := inc_e zhs
                    refine x_iast C zhw 20 (wR_c20 h cI zM68) zhi (wR_a20 h cI zM68 _ _) dX12_lay_295 (fun zH zlocs zhw => ?_)
                    obtain ⟨zM70, ze9, zhs⟩ := ltM_e zhs
                    rw [← ze9] at zhw; clear ze9
                    obtain ⟨zv71, ze9, zhs⟩ := ltI_e zhs
                    refine lv_iinc (v := zv71) (lv' := [(1, .int zv71), (0, .ref (h 0))]) zhx zhb dX12_lay_296 zhl (k := 0) rfl (by rw [ze9]; rfl) (by decide) rfl (fun zls zhl => ?_)
                    clear ze9
                    refine lv_goto (tgt := 215) zhx zhb dX12_lay_299 (by decide) ?_
                    cases zhs
                    exact zih zv71 zM70 zq (itk_l zhq) k215_302 zH zlocs zls zhl zhw
            refine hloop72 N 0 zM47 zq72 zhq72 (fun zM73 zhqe zH zlocs zls zhl zhw => ?_) zH zlocs zls zhl zhw
            · subst zhqe
              refine lv_iconst (v := 0) zhx zhb dX12_lay_302 (by decide) ?_
              refine lv_istore_n (lv' := [(1, .int 0), (0, .ref (h 0))]) zhx zhb dX12_lay_303 rfl zhl (by decide) rfl (fun zls zhl => ?_)
              obtain ⟨zq82, zhq82, zhs⟩ := bnd_e zhs
              have hloop82 : ∀ (zn : Nat) (zx74 : Int32) (zM75 : Mm) (zq : (Mm)), itr (fun z : Int32 × Mm => LRef_lay_304_82 N z.1 z.2) zn (zx74, zM75) = some zq → (∀ (zy1 : Mm), zy1 = zq → ∀ (zH : Heap) (zlocs : List Loc) (zls : Array Slot), lv_has zls 2 [(0, .ref (h 0))] → Hw D (wR h cI zy1) A s.heap zH zlocs → W p l e (RM 6) s m args below meth c zH zlocs 0 0 Q (F0 m 329 zls [])) → ∀ (zH : Heap) (zlocs : List Loc) (zls : Array Slot), lv_has zls 2 [(1, .int zx74), (0, .ref (h 0))] → Hw D (wR h cI zM75) A s.heap zH zlocs → W p l e (RM 6) s m args below meth c zH zlocs 0 0 Q (F0 m 304 zls []) := by
                intro zn
                induction zn with
                | zero => intro zx74 zM75 zq zhq; exact absurd zhq (fun h9 => itr_0 h9)
                | succ zn zih =>
                    intro zx74 zM75 zq zhq k304_329 zH zlocs zls zhl zhw
                    obtain ⟨zy9, zhs, zhq⟩ := itr_s zhq
                    replace zhs : LRef_lay_304_82 N zx74 zM75 = some zy9 := zhs
                    unfold LRef_lay_304_82 at zhs
                    refine lv_iload_n zhx zhb dX12_lay_304 rfl (lv_at zhl 0 rfl) ?_
                    refine lv_iconst (v := 5) zhx zhb dX12_lay_305 (by decide) ?_
                    refine lv_icmp_ge (tgt := 329) zhx zhb dX12_lay_306 (by decide) (fun zc9 => ?_) (fun zc9 => ?_)
                    · replace zhs := br_T zhs zc9
                      cases zhs
                      exact k304_329 zM75 (itk_q zhq) zH zlocs zls (lv_sub zhl [1] rfl) zhw
                    · replace zhs := br_F zhs zc9
                      refine lv_aload_n zhx zhb dX12_lay_309 rfl (lv_at zhl 1 rfl) ?_
                      refine x_get C zhw inlX12 rfl 0 15 (by decide) kw_8_17 rfl (wR_c0 h cI zM75) rfl dX12_lay_310 ?_
                      refine lv_iload_n zhx zhb dX12_lay_313 rfl (lv_at zhl 0 rfl) ?_
                      refine lv_aload_n zhx zhb dX12_lay_314 rfl (lv_at zhl 1 rfl) ?_
                      refine x_get C zhw inlX12 rfl 0 15 (by decide) kw_8_17 rfl (wR_c0 h cI zM75) rfl dX12_lay_315 ?_
                      refine lv_iconst (v := 5) zhx zhb dX12_lay_318 (by decide) ?_
                      refine lv_iload_n zhx zhb dX12_lay_319 rfl (lv_at zhl 0 rfl) ?_
                      refine lv_iadd zhx zhb dX12_lay_320 ?_
                      obtain ⟨zv79, ze9, zhi, zhs⟩ := rdc_v zhs
                      refine x_iald C zhw 15 (wR_c15 h cI zM75) zhi dX12_lay_321 ?_
                      refine lv_topi (fun zy9 ze8 => ?_)
                      obtain rfl : zv79 = zy9 := ze9.trans ze8.symm
                      clear ze9 ze8
                      obtain ⟨zhi, zhs⟩ := inc_e zhs
                      refine x_iast C zhw 15 (wR_c15 h cI zM75) zhi (wR_a15 h cI zM75 _ _) dX12_lay_322 (fun zH zlocs zhw => ?_)
                      obtain ⟨zM80, ze9, zhs⟩ := ltM_e zhs
                      rw [← ze9] at zhw; clear ze9
                      obtain ⟨zv81, ze9, zhs⟩ := ltI_e zhs
                      refine lv_iinc (v := zv81) (lv' := [(1, .int zv81), (0, .ref (h 0))]) zhx zhb dX12_lay_323 zhl (k := 0) rfl (by rw [ze9]; rfl) (by decide) rfl (fun zls zhl => ?_)
                      clear ze9
                      refine lv_goto (tgt := 304) zhx zhb dX12_lay_326 (by decide) ?_
                      cases zhs
                      exact zih zv81 zM80 zq (itk_l zhq) k304_329 zH zlocs zls zhl zhw
              refine hloop82 N 0 zM73 zq82 zhq82 (fun zM83 zhqe zH zlocs zls zhl zhw => ?_) zH zlocs zls zhl zhw
              · subst zhqe
                refine lv_iconst (v := 0) zhx zhb dX12_lay_329 (by decide) ?_
                refine lv_istore_n (lv' := [(1, .int 0), (0, .ref (h 0))]) zhx zhb dX12_lay_330 rfl zhl (by decide) rfl (fun zls zhl => ?_)
                obtain ⟨zq92, zhq92, zhs⟩ := bnd_e zhs
                have hloop92 : ∀ (zn : Nat) (zx84 : Int32) (zM85 : Mm) (zq : (Mm)), itr (fun z : Int32 × Mm => LRef_lay_331_92 N z.1 z.2) zn (zx84, zM85) = some zq → (∀ (zy1 : Mm), zy1 = zq → ∀ (zH : Heap) (zlocs : List Loc) (zls : Array Slot), lv_has zls 2 [(0, .ref (h 0))] → Hw D (wR h cI zy1) A s.heap zH zlocs → W p l e (RM 6) s m args below meth c zH zlocs 0 0 Q (F0 m 356 zls [])) → ∀ (zH : Heap) (zlocs : List Loc) (zls : Array Slot), lv_has zls 2 [(1, .int zx84), (0, .ref (h 0))] → Hw D (wR h cI zM85) A s.heap zH zlocs → W p l e (RM 6) s m args below meth c zH zlocs 0 0 Q (F0 m 331 zls []) := by
                  intro zn
                  induction zn with
                  | zero => intro zx84 zM85 zq zhq; exact absurd zhq (fun h9 => itr_0 h9)
                  | succ zn zih =>
                      intro zx84 zM85 zq zhq k331_356 zH zlocs zls zhl zhw
                      obtain ⟨zy9, zhs, zhq⟩ := itr_s zhq
                      replace zhs : LRef_lay_331_92 N zx84 zM85 = some zy9 := zhs
                      unfold LRef_lay_331_92 at zhs
                      refine lv_iload_n zhx zhb dX12_lay_331 rfl (lv_at zhl 0 rfl) ?_
                      refine lv_iconst (v := 4) zhx zhb dX12_lay_332 (by decide) ?_
                      refine lv_icmp_ge (tgt := 356) zhx zhb dX12_lay_333 (by decide) (fun zc9 => ?_) (fun zc9 => ?_)
                      · replace zhs := br_T zhs zc9
                        cases zhs
                        exact k331_356 zM85 (itk_q zhq) zH zlocs zls (lv_sub zhl [1] rfl) zhw
                      · replace zhs := br_F zhs zc9
                        refine lv_aload_n zhx zhb dX12_lay_336 rfl (lv_at zhl 1 rfl) ?_
                        refine x_get C zhw inlX12 rfl 0 17 (by decide) kw_8_19 rfl (wR_c0 h cI zM85) rfl dX12_lay_337 ?_
                        refine lv_iload_n zhx zhb dX12_lay_340 rfl (lv_at zhl 0 rfl) ?_
                        refine lv_aload_n zhx zhb dX12_lay_341 rfl (lv_at zhl 1 rfl) ?_
                        refine x_get C zhw inlX12 rfl 0 17 (by decide) kw_8_19 rfl (wR_c0 h cI zM85) rfl dX12_lay_342 ?_
                        refine lv_iconst (v := 4) zhx zhb dX12_lay_345 (by decide) ?_
                        refine lv_iload_n zhx zhb dX12_lay_346 rfl (lv_at zhl 0 rfl) ?_
                        refine lv_iadd zhx zhb dX12_lay_347 ?_
                        obtain ⟨zv89, ze9, zhi, zhs⟩ := rdc_v zhs
                        refine x_iald C zhw 17 (wR_c17 h cI zM85) zhi dX12_lay_348 ?_
                        refine lv_topi (fun zy9 ze8 => ?_)
                        obtain rfl : zv89 = zy9 := ze9.trans ze8.symm
                        clear ze9 ze8
                        obtain ⟨zhi, zhs⟩ := inc_e zhs
                        refine x_iast C zhw 17 (wR_c17 h cI zM85) zhi (wR_a17 h cI zM85 _ _) dX12_lay_349 (fun zH zlocs zhw => ?_)
                        obtain ⟨zM90, ze9, zhs⟩ := ltM_e zhs
                        rw [← ze9] at zhw; clear ze9
                        obtain ⟨zv91, ze9, zhs⟩ := ltI_e zhs
                        refine lv_iinc (v := zv91) (lv' := [(1, .int zv91), (0, .ref (h 0))]) zhx zhb dX12_lay_350 zhl (k := 0) rfl (by rw [ze9]; rfl) (by decide) rfl (fun zls zhl => ?_)
                        clear ze9
                        refine lv_goto (tgt := 331) zhx zhb dX12_lay_353 (by decide) ?_
                        cases zhs
                        exact zih zv91 zM90 zq (itk_l zhq) k331_356 zH zlocs zls zhl zhw
                refine hloop92 N 0 zM83 zq92 zhq92 (fun zM93 zhqe zH zlocs zls zhl zhw => ?_) zH zlocs zls zhl zhw
                · subst zhqe
                  refine lv_iconst (v := 0) zhx zhb dX12_lay_356 (by decide) ?_
                  refine lv_istore_n (lv' := [(1, .int 0), (0, .ref (h 0))]) zhx zhb dX12_lay_357 rfl zhl (by decide) rfl (fun zls zhl => ?_)
                  obtain ⟨zq102, zhq102, zhs⟩ := bnd_e zhs
                  have hloop102 : ∀ (zn : Nat) (zx94 : Int32) (zM95 : Mm) (zq : (Mm)), itr (fun z : Int32 × Mm => LRef_lay_358_102 N z.1 z.2) zn (zx94, zM95) = some zq → (∀ (zy1 : Mm), zy1 = zq → ∀ (zH : Heap) (zlocs : List Loc) (zls : Array Slot), lv_has zls 2 [(0, .ref (h 0))] → Hw D (wR h cI zy1) A s.heap zH zlocs → W p l e (RM 6) s m args below meth c zH zlocs 0 0 Q (F0 m 383 zls [])) → ∀ (zH : Heap) (zlocs : List Loc) (zls : Array Slot), lv_has zls 2 [(1, .int zx94), (0, .ref (h 0))] → Hw D (wR h cI zM95) A s.heap zH zlocs → W p l e (RM 6) s m args below meth c zH zlocs 0 0 Q (F0 m 358 zls []) := by
                    intro zn
                    induction zn with
                    | zero => intro zx94 zM95 zq zhq; exact absurd zhq (fun h9 => itr_0 h9)
                    | succ zn zih =>
                        intro zx94 zM95 zq zhq k358_383 zH zlocs zls zhl zhw
                        obtain ⟨zy9, zhs, zhq⟩ := itr_s zhq
                        replace zhs : LRef_lay_358_102 N zx94 zM95 = some zy9 := zhs
                        unfold LRef_lay_358_102 at zhs
                        refine lv_iload_n zhx zhb dX12_lay_358 rfl (lv_at zhl 0 rfl) ?_
                        refine lv_iconst (v := 3) zhx zhb dX12_lay_359 (by decide) ?_
                        refine lv_icmp_ge (tgt := 383) zhx zhb dX12_lay_360 (by decide) (fun zc9 => ?_) (fun zc9 => ?_)
                        · replace zhs := br_T zhs zc9
                          cases zhs
                          exact k358_383 zM95 (itk_q zhq) zH zlocs zls (lv_sub zhl [1] rfl) zhw
                        · replace zhs := br_F zhs zc9
                          refine lv_aload_n zhx zhb dX12_lay_363 rfl (lv_at zhl 1 rfl) ?_
                          refine x_get C zhw inlX12 rfl 0 21 (by decide) kw_8_23 rfl (wR_c0 h cI zM95) rfl dX12_lay_364 ?_
                          refine lv_iload_n zhx zhb dX12_lay_367 rfl (lv_at zhl 0 rfl) ?_
                          refine lv_aload_n zhx zhb dX12_lay_368 rfl (lv_at zhl 1 rfl) ?_
                          refine x_get C zhw inlX12 rfl 0 21 (by decide) kw_8_23 rfl (wR_c0 h cI zM95) rfl dX12_lay_369 ?_
                          refine lv_iconst (v := 3) zhx zhb dX12_lay_372 (by decide) ?_
                          refine lv_iload_n zhx zhb dX12_lay_373 rfl (lv_at zhl 0 rfl) ?_
                          refine lv_iadd zhx zhb dX12_lay_374 ?_
                          obtain ⟨zv99, ze9, zhi, zhs⟩ := rdc_v zhs
                          refine x_iald C zhw 21 (wR_c21 h cI zM95) zhi dX12_lay_375 ?_
                          refine lv_topi (fun zy9 ze8 => ?_)
                          obtain rfl : zv99 = zy9 := ze9.trans ze8.symm
                          clear ze9 ze8
                          obtain ⟨zhi, zhs⟩ := inc_e zhs
                          refine x_iast C zhw 21 (wR_c21 h cI zM95) zhi (wR_a21 h cI zM95 _ _) dX12_lay_376 (fun zH zlocs zhw => ?_)
                          obtain ⟨zM100, ze9, zhs⟩ := ltM_e zhs
                          rw [← ze9] at zhw; clear ze9
                          obtain ⟨zv101, ze9, zhs⟩ := ltI_e zhs
                          refine lv_iinc (v := zv101) (lv' := [(1, .int zv101), (0, .ref (h 0))]) zhx zhb dX12_lay_377 zhl (k := 0) rfl (by rw [ze9]; rfl) (by decide) rfl (fun zls zhl => ?_)
                          clear ze9
                          refine lv_goto (tgt := 358) zhx zhb dX12_lay_380 (by decide) ?_
                          cases zhs
                          exact zih zv101 zM100 zq (itk_l zhq) k358_383 zH zlocs zls zhl zhw
                  refine hloop102 N 0 zM93 zq102 zhq102 (fun zM103 zhqe zH zlocs zls zhl zhw => ?_) zH zlocs zls zhl zhw
                  · subst zhqe
                    refine lv_aload_n zhx zhb dX12_lay_383 rfl (lv_at zhl 0 rfl) ?_
                    obtain ⟨zM104, zhp, zhs⟩ := bnd_e zhs
                    refine x_cVV (As := []) (rest := []) C zhw zhl (cRef_layFridge l D cI h N zM103 zM104 zhp) (by decide) (by decide) kw_9_12 kw_9_13 kw_9_14 kw_1_5 kw_9_15 md_X12_layFridge rfl 0 (wR_c0 h cI zM103) rfl rfl rfl rfl (Nat.le_of_ble_eq_true rfl) dX12_lay_384 (fun zH zlocs zhw => ?_)
                    refine lv_aload_n zhx zhb dX12_lay_387 rfl (lv_at zhl 0 rfl) ?_
                    refine x_get C zhw inlX12 rfl 0 7 (by decide) kw_8_9 rfl (wR_c0 h cI zM104) rfl dX12_lay_388 ?_
                    refine lv_iconst (v := 0) zhx zhb dX12_lay_391 (by decide) ?_
                    obtain ⟨zv105, ze9, zhi, zhs⟩ := rdc_v zhs
                    refine x_iald C zhw 7 (wR_c7 h cI zM104) zhi dX12_lay_392 ?_
                    refine lv_topi (fun zy9 ze8 => ?_)
                    obtain rfl : zv105 = zy9 := ze9.trans ze8.symm
                    clear ze9 ze8
                    cases zhs
                    exact zhret _ _ _ _ dX12_lay_393 (by rfl) zhw
        · replace zhs := br_T zhs zc9
          refine lv_bipush (v := (-2)) zhx zhb dX12_lay_34 (by decide) ?_
          cases zhs
          exact zhret _ _ _ _ dX12_lay_36 (by rfl) zhw

-- OffFirstModel.isFood in (0, ())
def sRef_isFood (a1 : Int32) (M : Mm) : Option Int32 :=
  rdc 2 (M 7) 0 fun zv1 =>
  (sRef_in (Int32.toInt64 a1) 0 (Int32.toInt64 (zv1 - 1))).bind fun zv2 =>
  some zv2
set_option maxHeartbeats 4000000 in
set_option maxRecDepth 100000 in
theorem cRef_isFood (l : Launch) (D : va_G) (cI : ClassId) (h : Nat → Nat) (a1 : Int32) (M : Mm) (r : Int32) (zhs : sRef_isFood a1 M = some r) : CtI l yX12_isFood cX12_isFood 2 (some .boolean) 2 D cI (wR h cI M) (wR h cI M) [.ref (h 0), .int a1] r := by
  unfold sRef_isFood at zhs
  refine CtI_of (by decide +kernel) (Nat.le_of_ble_eq_true rfl) ⟨_, rfl⟩ ?_
  intro p e s m args below meth c A Q zls zH zlocs C zhw zhl zhret
  have zhx := C.1
  have zhb := C.2.1
  have zhown := C.2.2.2.2.1
  have zhtB := C.2.2.2.2.2.2.1
  have zhl : lv_has zls 2 [(0, .ref (h 0)), (1, .int a1)] := zhl
  refine lv_iload_n zhx zhb dX12_isFood_0 rfl (lv_at zhl 1 rfl) ?_
  refine lv_i2l zhx zhb dX12_isFood_1 rfl ?_
  refine lv_lconst (v := 0) zhx zhb dX12_isFood_2 (by decide) ?_
  refine lv_aload_n zhx zhb dX12_isFood_3 rfl (lv_at zhl 0 rfl) ?_
  refine x_get C zhw inlX12 rfl 0 7 (by decide) kw_8_9 rfl (wR_c0 h cI M) rfl dX12_isFood_4 ?_
  refine lv_iconst (v := 0) zhx zhb dX12_isFood_7 (by decide) ?_
  obtain ⟨zv1, ze9, zhi, zhs⟩ := rdc_v zhs
  refine x_iald C zhw 7 (wR_c7 h cI M) zhi dX12_isFood_8 ?_
  refine lv_topi (fun zy9 ze8 => ?_)
  obtain rfl : zv1 = zy9 := ze9.trans ze8.symm
  clear ze9 ze8
  refine lv_iconst (v := 1) zhx zhb dX12_isFood_9 (by decide) ?_
  refine lv_isub zhx zhb dX12_isFood_10 ?_
  refine lv_i2l zhx zhb dX12_isFood_11 rfl ?_
  obtain ⟨zv2, zhp, zhs⟩ := bnd_e zhs
  refine x_cSI (As := [.long (Int32.toInt64 a1), .long 0, .long (Int32.toInt64 (zv1 - 1))]) (rest := []) C zhw zhl (cRef_in l D cI h (Int32.toInt64 a1) 0 (Int32.toInt64 (zv1 - 1)) M zv2 zhp) (by decide) (by decide) kw_10_14 kw_10_15 kw_1_5 kw_10_16 md_X12_in rfl rfl (Nat.le_of_ble_eq_true rfl) dX12_isFood_12 (fun zH zlocs zhw hzv2 => ?_)
  cases zhs
  exact zhret _ _ _ _ dX12_isFood_15 hzv2 zhw

-- OffFirstModel.limitOf in (0, ())
def sRef_limitOf (a1 : Int32) (M : Mm) : Option Int32 :=
  rdc 20 (M 11) (remI a1 10) fun zv1 =>
  rdc 40 (M 22) a1 fun zv2 =>
  (if zv2 = 2 then some (50 * (zv1 + 96))
  else some (50 * (zv1 + 0)))
set_option maxHeartbeats 4000000 in
set_option maxRecDepth 100000 in
theorem cRef_limitOf (l : Launch) (D : va_G) (cI : ClassId) (h : Nat → Nat) (a1 : Int32) (M : Mm) (r : Int32) (zhs : sRef_limitOf a1 M = some r) : CtI l yX12_limitOf cX12_limitOf 2 (some .int) 1 D cI (wR h cI M) (wR h cI M) [.ref (h 0), .int a1] r := by
  unfold sRef_limitOf at zhs
  refine CtI_of (by decide +kernel) (Nat.le_of_ble_eq_true rfl) ⟨_, rfl⟩ ?_
  intro p e s m args below meth c A Q zls zH zlocs C zhw zhl zhret
  have zhx := C.1
  have zhb := C.2.1
  have zhown := C.2.2.2.2.1
  have zhtB := C.2.2.2.2.2.2.1
  have zhl : lv_has zls 2 [(0, .ref (h 0)), (1, .int a1)] := zhl
  refine lv_bipush (v := 50) zhx zhb dX12_limitOf_0 (by decide) ?_
  refine lv_aload_n zhx zhb dX12_limitOf_2 rfl (lv_at zhl 0 rfl) ?_
  refine x_get C zhw inlX12 rfl 0 11 (by decide) kw_8_13 rfl (wR_c0 h cI M) rfl dX12_limitOf_3 ?_
  refine lv_iload_n zhx zhb dX12_limitOf_6 rfl (lv_at zhl 1 rfl) ?_
  refine lv_bipush (v := 10) zhx zhb dX12_limitOf_7 (by decide) ?_
  refine lv_irem zhx zhb dX12_limitOf_9 (by decide) ?_
  obtain ⟨zv1, ze9, zhi, zhs⟩ := rdc_v zhs
  refine x_iald C zhw 11 (wR_c11 h cI M) zhi dX12_limitOf_10 ?_
  refine lv_topi (fun zy9 ze8 => ?_)
  obtain rfl : zv1 = zy9 := ze9.trans ze8.symm
  clear ze9 ze8
  refine lv_aload_n zhx zhb dX12_limitOf_11 rfl (lv_at zhl 0 rfl) ?_
  refine x_get C zhw inlX12 rfl 0 22 (by decide) kw_9_0 rfl (wR_c0 h cI M) rfl dX12_limitOf_12 ?_
  refine lv_iload_n zhx zhb dX12_limitOf_15 rfl (lv_at zhl 1 rfl) ?_
  obtain ⟨zv2, ze9, zhi, zhs⟩ := rdc_v zhs
  refine x_iald C zhw 22 (wR_c22 h cI M) zhi dX12_limitOf_16 ?_
  refine lv_topi (fun zy9 ze8 => ?_)
  obtain rfl : zv2 = zy9 := ze9.trans ze8.symm
  clear ze9 ze8
  refine lv_iconst (v := 2) zhx zhb dX12_limitOf_17 (by decide) ?_
  refine lv_icmp_ne (tgt := 26) zhx zhb dX12_limitOf_18 (by decide) (fun zc9 => ?_) (fun zc9 => ?_)
  · replace zhs := br_F zhs zc9
    refine lv_iconst (v := 0) zhx zhb dX12_limitOf_26 (by decide) ?_
    refine lv_iadd zhx zhb dX12_limitOf_27 ?_
    refine lv_imul zhx zhb dX12_limitOf_28 ?_
    cases zhs
    exact zhret _ _ _ _ dX12_limitOf_29 (by rfl) zhw
  · replace zhs := br_T zhs zc9
    refine lv_bipush (v := 96) zhx zhb dX12_limitOf_21 (by decide) ?_
    refine lv_goto (tgt := 27) zhx zhb dX12_limitOf_23 (by decide) ?_
    refine lv_iadd zhx zhb dX12_limitOf_27 ?_
    refine lv_imul zhx zhb dX12_limitOf_28 ?_
    cases zhs
    exact zhret _ _ _ _ dX12_limitOf_29 (by rfl) zhw

