-- OffFirst$Evenings.lookAhead in (59, ())
def LEvenings_lookAhead_22_10 (N : Nat) (zx2 : Int32) (zM3 : Mm) : Option ((Int32 × Mm) ⊕ ((Mm))) :=
  (if (zM3 27 7) ≤ zx2 then some (.inr zM3)
  else (sFridge_limitOf zx2 zM3).bind fun zv7 =>
  ltM (putf 10 zM3 61 zx2 zv7) fun zM8 =>
  ltI (zx2 + 1) fun zv9 =>
  some (.inl (zv9, zM8)))
def LEvenings_lookAhead_74_49 (N : Nat) (zv1 : Int32) (zx12 : Int32) (zx34 : Int32) (zx35 : Int32) (zM36 : Mm) : Option ((Int32 × Int32 × Mm) ⊕ ((Int32 × Mm))) :=
  (if (zM36 27 7) ≤ zx35 then some (.inr (zx34, zM36))
  else (sFridge_ageBehind N zx35 (zv1 + (zx12 * 24)) zM36).bind fun zv43 =>
  ltM (putf 200 zM36 60 ((zx12 * 10) + zx35) zv43) fun zM44 =>
  (if zv43 < (atf 10 (zM44 61) zx35) then ltI (zx35 + 1) fun zv46 =>
  some (.inl (zx34, zv46, zM44))
  else ltI (zx34 ||| (1 <<< (zx35 &&& 31))) fun zv47 =>
  ltI (zx35 + 1) fun zv48 =>
  some (.inl (zv47, zv48, zM44))))
def LEvenings_lookAhead_63_54 (N : Nat) (a1 : Int32) (zv1 : Int32) (zx12 : Int32) (zM13 : Mm) : Option ((Int32 × Mm) ⊕ ((Mm))) :=
  (if a1 ≤ zx12 then some (.inr zM13)
  else (itr (fun z : Int32 × Int32 × Mm => LEvenings_lookAhead_74_49 N zv1 zx12 z.1 z.2.1 z.2.2) N (0, 0, zM13)).bind fun (zv50, zM51) =>
  ltM (putf 20 zM51 62 zx12 zv50) fun zM52 =>
  ltI (zx12 + 1) fun zv53 =>
  some (.inl (zv53, zM52)))
def sEvenings_lookAhead (N : Nat) (a1 : Int32) (M : Mm) : Option Mm :=
  ltI (remI (42 - (remI (M 40 6) 24)) 24) fun zv1 =>
  (itr (fun z : Int32 × Mm => LEvenings_lookAhead_22_10 N z.1 z.2) N (0, M)).bind fun zM11 =>
  (itr (fun z : Int32 × Mm => LEvenings_lookAhead_63_54 N a1 zv1 z.1 z.2) N (0, zM11)).bind fun zM55 =>
  some zM55
set_option maxHeartbeats 4000000 in
set_option maxRecDepth 100000 in
theorem cEvenings_lookAhead (l : Launch) (D : va_G) (cI : ClassId) (h : Nat → Nat) (N : Nat) (a1 : Int32) (M : Mm) (M' : Mm) (zhs : sEvenings_lookAhead N a1 M = some M') : CtV l yX1_lookAhead cX1_lookAhead 7 5 D cI (wX h cI M) (wX h cI M') [.ref (h 59), .int a1] := by
  unfold sEvenings_lookAhead at zhs
  refine CtV_of (by decide +kernel) (Nat.le_of_ble_eq_true rfl) ?_
  intro p e s m args below meth c A Q zls zH zlocs C zhw zhl zhret
  have zhx := C.1
  have zhb := C.2.1
  have zhown := C.2.2.2.2.1
  have zhtB := C.2.2.2.2.2.2.1
  have zhl : lv_has zls 7 [(0, .ref (h 59)), (1, .int a1)] := zhl
  refine lv_bipush (v := 42) zhx zhb dX1_lookAhead_0 (by decide) ?_
  refine lv_aload_n zhx zhb dX1_lookAhead_2 rfl (lv_at zhl 0 rfl) ?_
  refine x_get C zhw inlX1 rfl 59 0 (by decide) kw_5_20 rfl (wX_c59 h cI M) rfl dX1_lookAhead_3 ?_
  refine x_getN C zhw inlX3 rfl 58 1 (by decide) (List.mem_of_getElem? (i := 35) rfl) rfl (wX_c58 h cI M) rfl dX1_lookAhead_6 ?_
  refine x_getN C zhw inlX8 rfl 40 6 (by decide) (List.mem_of_getElem? (i := 29) rfl) rfl (wX_c40 h cI M) rfl dX1_lookAhead_9 ?_
  refine lv_bipush (v := 24) zhx zhb dX1_lookAhead_12 (by decide) ?_
  refine lv_irem zhx zhb dX1_lookAhead_14 (by decide) ?_
  refine lv_isub zhx zhb dX1_lookAhead_15 ?_
  refine lv_bipush (v := 24) zhx zhb dX1_lookAhead_16 (by decide) ?_
  refine lv_irem zhx zhb dX1_lookAhead_18 (by decide) ?_
  obtain ⟨zv1, ze9, zhs⟩ := ltI_e zhs
  refine lv_topi (fun zy9 ze8 => ?_)
  obtain rfl : zv1 = zy9 := ze9.trans ze8.symm
  clear ze9 ze8
  refine lv_istore_n (lv' := [(2, .int zv1), (0, .ref (h 59)), (1, .int a1)]) zhx zhb dX1_lookAhead_19 rfl zhl (by decide) rfl (fun zls zhl => ?_)
  refine lv_iconst (v := 0) zhx zhb dX1_lookAhead_20 (by decide) ?_
  refine lv_istore_n (lv' := [(3, .int 0), (2, .int zv1), (0, .ref (h 59)), (1, .int a1)]) zhx zhb dX1_lookAhead_21 rfl zhl (by decide) rfl (fun zls zhl => ?_)
  obtain ⟨zq10, zhq10, zhs⟩ := bnd_e zhs
  have hloop10 : ∀ (zn : Nat) (zx2 : Int32) (zM3 : Mm) (zq : (Mm)), itr (fun z : Int32 × Mm => LEvenings_lookAhead_22_10 N z.1 z.2) zn (zx2, zM3) = some zq → (∀ (zy1 : Mm), zy1 = zq → ∀ (zH : Heap) (zlocs : List Loc) (zls : Array Slot), lv_has zls 7 [(2, .int zv1), (0, .ref (h 59)), (1, .int a1)] → Hw D (wX h cI zy1) A s.heap zH zlocs → W p l e (RM 5) s m args below meth c zH zlocs 0 0 Q (F0 m 61 zls [])) → ∀ (zH : Heap) (zlocs : List Loc) (zls : Array Slot), lv_has zls 7 [(3, .int zx2), (2, .int zv1), (0, .ref (h 59)), (1, .int a1)] → Hw D (wX h cI zM3) A s.heap zH zlocs → W p l e (RM 5) s m args below meth c zH zlocs 0 0 Q (F0 m 22 zls []) := by
    intro zn
    induction zn with
    | zero => intro zx2 zM3 zq zhq; exact absurd zhq (fun h9 => itr_0 h9)
    | succ zn zih =>
        intro zx2 zM3 zq zhq k22_61 zH zlocs zls zhl zhw
        obtain ⟨zy9, zhs, zhq⟩ := itr_s zhq
        replace zhs : LEvenings_lookAhead_22_10 N zx2 zM3 = some zy9 := zhs
        unfold LEvenings_lookAhead_22_10 at zhs
        refine lv_iload_n zhx zhb dX1_lookAhead_22 rfl (lv_at zhl 0 rfl) ?_
        refine lv_aload_n zhx zhb dX1_lookAhead_23 rfl (lv_at zhl 2 rfl) ?_
        refine x_get C zhw inlX1 rfl 59 0 (by decide) kw_5_20 rfl (wX_c59 h cI zM3) rfl dX1_lookAhead_24 ?_
        refine x_getN C zhw inlX3 rfl 58 0 (by decide) (List.mem_of_getElem? (i := 33) rfl) rfl (wX_c58 h cI zM3) rfl dX1_lookAhead_27 ?_
        refine x_getN C zhw inlX10 rfl 22 1 (by decide) (List.mem_of_getElem? (i := 21) rfl) rfl (wX_c22 h cI zM3) rfl dX1_lookAhead_30 ?_
        refine x_getN C zhw inlX2 rfl 27 7 (by decide) (List.mem_of_getElem? (i := 9) rfl) rfl (wX_c27 h cI zM3) rfl dX1_lookAhead_33 ?_
        refine lv_icmp_ge (tgt := 61) zhx zhb dX1_lookAhead_36 (by decide) (fun zc9 => ?_) (fun zc9 => ?_)
        · replace zhs := br_T zhs zc9
          cases zhs
          exact k22_61 zM3 (itk_q zhq) zH zlocs zls (lv_sub zhl [1, 2, 3] rfl) zhw
        · replace zhs := br_F zhs zc9
          refine lv_aload_n zhx zhb dX1_lookAhead_39 rfl (lv_at zhl 2 rfl) ?_
          refine x_get C zhw inlX1 rfl 59 2 (by decide) kw_5_18 rfl (wX_c59 h cI zM3) rfl dX1_lookAhead_40 ?_
          refine lv_iload_n zhx zhb dX1_lookAhead_43 rfl (lv_at zhl 0 rfl) ?_
          refine lv_aload_n zhx zhb dX1_lookAhead_44 rfl (lv_at zhl 2 rfl) ?_
          refine x_get C zhw inlX1 rfl 59 0 (by decide) kw_5_20 rfl (wX_c59 h cI zM3) rfl dX1_lookAhead_45 ?_
          refine lv_iload_n zhx zhb dX1_lookAhead_48 rfl (lv_at zhl 0 rfl) ?_
          obtain ⟨zv7, zhp, zhs⟩ := bnd_e zhs
          refine x_cVI (As := [.int zx2]) (rest := [.int zx2, .ref (h 61)]) C zhw zhl (cFridge_limitOf l D cI h zx2 zM3 zv7 zhp) (by decide) (by decide) kw_29_12 kw_18_20 kw_18_21 kw_2_6 kw_18_22 md_X3_limitOf rfl 58 (wX_c58 h cI zM3) rfl rfl rfl rfl (Nat.le_of_ble_eq_true rfl) dX1_lookAhead_49 (fun zH zlocs zhw hn9 => ?_)
          refine x_cSNV (As := [.ref (h 61), .int zx2, .int zv7]) (rest := []) C zhw zhl (c_put l D cI (wX h cI) zM3 61 10 (h 61) (wX_c61 h cI zM3) (fun j v => wX_a61 h cI zM3 j v) (by decide) zx2 zv7) (by decide) (by decide) (List.mem_of_getElem? (i := 19) rfl) kw_7_0 kw_1_2 kw_7_1 md_X11_put rfl rfl (Nat.le_of_ble_eq_true rfl) dX1_lookAhead_52 (fun zH zlocs zhw => ?_)
          obtain ⟨zM8, ze9, zhs⟩ := ltM_e zhs
          rw [← ze9] at zhw; clear ze9
          obtain ⟨zv9, ze9, zhs⟩ := ltI_e zhs
          refine lv_iinc (v := zv9) (lv' := [(3, .int zv9), (2, .int zv1), (0, .ref (h 59)), (1, .int a1)]) zhx zhb dX1_lookAhead_55 zhl (k := 0) rfl (by rw [ze9]; rfl) (by decide) rfl (fun zls zhl => ?_)
          clear ze9
          refine lv_goto (tgt := 22) zhx zhb dX1_lookAhead_58 (by decide) ?_
          cases zhs
          exact zih zv9 zM8 zq (itk_l zhq) k22_61 zH zlocs zls zhl zhw
  refine hloop10 N 0 M zq10 zhq10 (fun zM11 zhqe zH zlocs zls zhl zhw => ?_) zH zlocs zls zhl zhw
  · subst zhqe
    refine lv_iconst (v := 0) zhx zhb dX1_lookAhead_61 (by decide) ?_
    refine lv_istore_n (lv' := [(3, .int 0), (2, .int zv1), (0, .ref (h 59)), (1, .int a1)]) zhx zhb dX1_lookAhead_62 rfl zhl (by decide) rfl (fun zls zhl => ?_)
    obtain ⟨zq54, zhq54, zhs⟩ := bnd_e zhs
    have hloop54 : ∀ (zn : Nat) (zx12 : Int32) (zM13 : Mm) (zq : (Mm)), itr (fun z : Int32 × Mm => LEvenings_lookAhead_63_54 N a1 zv1 z.1 z.2) zn (zx12, zM13) = some zq → (∀ (zy1 : Mm), zy1 = zq → ∀ (zH : Heap) (zlocs : List Loc) (zls : Array Slot), lv_has zls 7 [] → Hw D (wX h cI zy1) A s.heap zH zlocs → W p l e (RM 5) s m args below meth c zH zlocs 0 0 Q (F0 m 170 zls [])) → ∀ (zH : Heap) (zlocs : List Loc) (zls : Array Slot), lv_has zls 7 [(3, .int zx12), (2, .int zv1), (0, .ref (h 59)), (1, .int a1)] → Hw D (wX h cI zM13) A s.heap zH zlocs → W p l e (RM 5) s m args below meth c zH zlocs 0 0 Q (F0 m 63 zls []) := by
      intro zn
      induction zn with
      | zero => intro zx12 zM13 zq zhq; exact absurd zhq (fun h9 => itr_0 h9)
      | succ zn zih =>
          intro zx12 zM13 zq zhq k63_170 zH zlocs zls zhl zhw
          obtain ⟨zy9, zhs, zhq⟩ := itr_s zhq
          replace zhs : LEvenings_lookAhead_63_54 N a1 zv1 zx12 zM13 = some zy9 := zhs
          unfold LEvenings_lookAhead_63_54 at zhs
          refine lv_iload_n zhx zhb dX1_lookAhead_63 rfl (lv_at zhl 0 rfl) ?_
          refine lv_iload_n zhx zhb dX1_lookAhead_64 rfl (lv_at zhl 3 rfl) ?_
          refine lv_icmp_ge (tgt := 170) zhx zhb dX1_lookAhead_65 (by decide) (fun zc9 => ?_) (fun zc9 => ?_)
          · replace zhs := br_T zhs zc9
            cases zhs
            exact k63_170 zM13 (itk_q zhq) zH zlocs zls (lv_sub zhl [] rfl) zhw
          · replace zhs := br_F zhs zc9
            refine lv_iconst (v := 0) zhx zhb dX1_lookAhead_68 (by decide) ?_
            refine lv_istore (lv' := [(4, .int 0), (3, .int zx12), (2, .int zv1), (0, .ref (h 59)), (1, .int a1)]) zhx zhb dX1_lookAhead_69 zhl (by decide) rfl (fun zls zhl => ?_)
            refine lv_iconst (v := 0) zhx zhb dX1_lookAhead_71 (by decide) ?_
            refine lv_istore (lv' := [(5, .int 0), (4, .int 0), (3, .int zx12), (2, .int zv1), (0, .ref (h 59)), (1, .int a1)]) zhx zhb dX1_lookAhead_72 zhl (by decide) rfl (fun zls zhl => ?_)
            obtain ⟨zq49, zhq49, zhs⟩ := bnd_e zhs
            have hloop49 : ∀ (zn : Nat) (zx34 : Int32) (zx35 : Int32) (zM36 : Mm) (zq : (Int32 × Mm)), itr (fun z : Int32 × Int32 × Mm => LEvenings_lookAhead_74_49 N zv1 zx12 z.1 z.2.1 z.2.2) zn (zx34, zx35, zM36) = some zq → (∀ (zy1 : Int32) (zy2 : Mm), (zy1, zy2) = zq → ∀ (zH : Heap) (zlocs : List Loc) (zls : Array Slot), lv_has zls 7 [(4, .int zy1), (3, .int zx12), (2, .int zv1), (0, .ref (h 59)), (1, .int a1)] → Hw D (wX h cI zy2) A s.heap zH zlocs → W p l e (RM 5) s m args below meth c zH zlocs 0 0 Q (F0 m 154 zls [])) → ∀ (zH : Heap) (zlocs : List Loc) (zls : Array Slot), lv_has zls 7 [(5, .int zx35), (4, .int zx34), (3, .int zx12), (2, .int zv1), (0, .ref (h 59)), (1, .int a1)] → Hw D (wX h cI zM36) A s.heap zH zlocs → W p l e (RM 5) s m args below meth c zH zlocs 0 0 Q (F0 m 74 zls []) := by
              intro zn
              induction zn with
              | zero => intro zx34 zx35 zM36 zq zhq; exact absurd zhq (fun h9 => itr_0 h9)
              | succ zn zih =>
                  intro zx34 zx35 zM36 zq zhq k74_154 zH zlocs zls zhl zhw
                  obtain ⟨zy9, zhs, zhq⟩ := itr_s zhq
                  replace zhs : LEvenings_lookAhead_74_49 N zv1 zx12 zx34 zx35 zM36 = some zy9 := zhs
                  unfold LEvenings_lookAhead_74_49 at zhs
                  refine lv_iload zhx zhb dX1_lookAhead_74 (lv_at zhl 0 rfl) ?_
                  refine lv_aload_n zhx zhb dX1_lookAhead_76 rfl (lv_at zhl 4 rfl) ?_
                  refine x_get C zhw inlX1 rfl 59 0 (by decide) kw_5_20 rfl (wX_c59 h cI zM36) rfl dX1_lookAhead_77 ?_
                  refine x_getN C zhw inlX3 rfl 58 0 (by decide) (List.mem_of_getElem? (i := 33) rfl) rfl (wX_c58 h cI zM36) rfl dX1_lookAhead_80 ?_
                  refine x_getN C zhw inlX10 rfl 22 1 (by decide) (List.mem_of_getElem? (i := 21) rfl) rfl (wX_c22 h cI zM36) rfl dX1_lookAhead_83 ?_
                  refine x_getN C zhw inlX2 rfl 27 7 (by decide) (List.mem_of_getElem? (i := 9) rfl) rfl (wX_c27 h cI zM36) rfl dX1_lookAhead_86 ?_
                  refine lv_icmp_ge (tgt := 154) zhx zhb dX1_lookAhead_89 (by decide) (fun zc9 => ?_) (fun zc9 => ?_)
                  · replace zhs := br_T zhs zc9
                    cases zhs
                    exact k74_154 zx34 zM36 (itk_q zhq) zH zlocs zls (lv_sub zhl [1, 2, 3, 4, 5] rfl) zhw
                  · replace zhs := br_F zhs zc9
                    refine lv_aload_n zhx zhb dX1_lookAhead_92 rfl (lv_at zhl 4 rfl) ?_
                    refine x_get C zhw inlX1 rfl 59 0 (by decide) kw_5_20 rfl (wX_c59 h cI zM36) rfl dX1_lookAhead_93 ?_
                    refine lv_iload zhx zhb dX1_lookAhead_96 (lv_at zhl 0 rfl) ?_
                    refine lv_iload_n zhx zhb dX1_lookAhead_98 rfl (lv_at zhl 3 rfl) ?_
                    refine lv_iload_n zhx zhb dX1_lookAhead_99 rfl (lv_at zhl 2 rfl) ?_
                    refine lv_bipush (v := 24) zhx zhb dX1_lookAhead_100 (by decide) ?_
                    refine lv_imul zhx zhb dX1_lookAhead_102 ?_
                    refine lv_iadd zhx zhb dX1_lookAhead_103 ?_
                    obtain ⟨zv43, zhp, zhs⟩ := bnd_e zhs
                    refine x_cVI (As := [.int zx35, .int (zv1 + (zx12 * 24))]) (rest := []) C zhw zhl (cFridge_ageBehind l D cI h N zx35 (zv1 + (zx12 * 24)) zM36 zv43 zhp) (by decide) (by decide) kw_29_13 kw_22_6 kw_22_7 kw_2_6 kw_22_8 md_X3_ageBehind rfl 58 (wX_c58 h cI zM36) rfl rfl rfl rfl (Nat.le_of_ble_eq_true rfl) dX1_lookAhead_104 (fun zH zlocs zhw hn9 => ?_)
                    refine lv_istore (lv' := [(6, .int zv43), (5, .int zx35), (4, .int zx34), (3, .int zx12), (2, .int zv1), (0, .ref (h 59)), (1, .int a1)]) zhx zhb dX1_lookAhead_107 zhl (by decide) rfl (fun zls zhl => ?_)
                    refine lv_aload_n zhx zhb dX1_lookAhead_109 rfl (lv_at zhl 5 rfl) ?_
                    refine x_get C zhw inlX1 rfl 59 1 (by decide) kw_5_17 rfl (wX_c59 h cI zM36) rfl dX1_lookAhead_110 ?_
                    refine lv_iload_n zhx zhb dX1_lookAhead_113 rfl (lv_at zhl 3 rfl) ?_
                    refine lv_bipush (v := 10) zhx zhb dX1_lookAhead_114 (by decide) ?_
                    refine lv_imul zhx zhb dX1_lookAhead_116 ?_
                    refine lv_iload zhx zhb dX1_lookAhead_117 (lv_at zhl 1 rfl) ?_
                    refine lv_iadd zhx zhb dX1_lookAhead_119 ?_
                    refine lv_iload zhx zhb dX1_lookAhead_120 (lv_at zhl 0 rfl) ?_
                    refine x_cSNV (As := [.ref (h 60), .int ((zx12 * 10) + zx35), .int zv43]) (rest := []) C zhw zhl (c_put l D cI (wX h cI) zM36 60 200 (h 60) (wX_c60 h cI zM36) (fun j v => wX_a60 h cI zM36 j v) (by decide) ((zx12 * 10) + zx35) zv43) (by decide) (by decide) (List.mem_of_getElem? (i := 19) rfl) kw_7_0 kw_1_2 kw_7_1 md_X11_put rfl rfl (Nat.le_of_ble_eq_true rfl) dX1_lookAhead_122 (fun zH zlocs zhw => ?_)
                    obtain ⟨zM44, ze9, zhs⟩ := ltM_e zhs
                    rw [← ze9] at zhw; clear ze9
                    refine lv_iload zhx zhb dX1_lookAhead_125 (lv_at zhl 0 rfl) ?_
                    refine lv_aload_n zhx zhb dX1_lookAhead_127 rfl (lv_at zhl 5 rfl) ?_
                    refine x_get C zhw inlX1 rfl 59 2 (by decide) kw_5_18 rfl (wX_c59 h cI zM44) rfl dX1_lookAhead_128 ?_
                    refine lv_iload zhx zhb dX1_lookAhead_131 (lv_at zhl 1 rfl) ?_
                    refine x_cSNI (As := [.ref (h 61), .int zx35]) (rest := [.int zv43]) C zhw zhl (c_at l D cI (wX h cI zM44) 61 10 (h 61) (zM44 61) (wX_c61 h cI zM44) (by decide) zx35) (by decide) (by decide) (List.mem_of_getElem? (i := 20) rfl) kw_7_7 kw_1_2 kw_7_8 md_X11_at rfl rfl (Nat.le_of_ble_eq_true rfl) dX1_lookAhead_133 (fun zH zlocs zhw hn9 => ?_)
                    refine lv_icmp_lt (tgt := 148) zhx zhb dX1_lookAhead_136 (by decide) (fun zc9 => ?_) (fun zc9 => ?_)
                    · replace zhs := br_T zhs zc9
                      obtain ⟨zv46, ze9, zhs⟩ := ltI_e zhs
                      refine lv_iinc (v := zv46) (lv' := [(5, .int zv46), (6, .int zv43), (4, .int zx34), (3, .int zx12), (2, .int zv1), (0, .ref (h 59)), (1, .int a1)]) zhx zhb dX1_lookAhead_148 zhl (k := 1) rfl (by rw [ze9]; rfl) (by decide) rfl (fun zls zhl => ?_)
                      clear ze9
                      refine lv_goto (tgt := 74) zhx zhb dX1_lookAhead_151 (by decide) ?_
                      cases zhs
                      exact zih zx34 zv46 zM44 zq (itk_l zhq) k74_154 zH zlocs zls (lv_sub zhl [0, 2, 3, 4, 5, 6] rfl) zhw
                    · replace zhs := br_F zhs zc9
                      refine lv_iload zhx zhb dX1_lookAhead_139 (lv_at zhl 2 rfl) ?_
                      refine lv_iconst (v := 1) zhx zhb dX1_lookAhead_141 (by decide) ?_
                      refine lv_iload zhx zhb dX1_lookAhead_142 (lv_at zhl 1 rfl) ?_
                      refine lv_ishl zhx zhb dX1_lookAhead_144 ?_
                      refine lv_ior zhx zhb dX1_lookAhead_145 ?_
                      obtain ⟨zv47, ze9, zhs⟩ := ltI_e zhs
                      refine lv_topi (fun zy9 ze8 => ?_)
                      obtain rfl : zv47 = zy9 := ze9.trans ze8.symm
                      clear ze9 ze8
                      refine lv_istore (lv' := [(4, .int zv47), (6, .int zv43), (5, .int zx35), (3, .int zx12), (2, .int zv1), (0, .ref (h 59)), (1, .int a1)]) zhx zhb dX1_lookAhead_146 zhl (by decide) rfl (fun zls zhl => ?_)
                      obtain ⟨zv48, ze9, zhs⟩ := ltI_e zhs
                      refine lv_iinc (v := zv48) (lv' := [(5, .int zv48), (4, .int zv47), (6, .int zv43), (3, .int zx12), (2, .int zv1), (0, .ref (h 59)), (1, .int a1)]) zhx zhb dX1_lookAhead_148 zhl (k := 2) rfl (by rw [ze9]; rfl) (by decide) rfl (fun zls zhl => ?_)
                      clear ze9
                      refine lv_goto (tgt := 74) zhx zhb dX1_lookAhead_151 (by decide) ?_
                      cases zhs
                      exact zih zv47 zv48 zM44 zq (itk_l zhq) k74_154 zH zlocs zls (lv_sub zhl [0, 1, 3, 4, 5, 6] rfl) zhw
            refine hloop49 N 0 0 zM13 zq49 zhq49 (fun zv50 zM51 zhqe zH zlocs zls zhl zhw => ?_) zH zlocs zls zhl zhw
            · subst zhqe
              try dsimp only at zhs
              refine lv_aload_n zhx zhb dX1_lookAhead_154 rfl (lv_at zhl 3 rfl) ?_
              refine x_get C zhw inlX1 rfl 59 3 (by decide) kw_5_19 rfl (wX_c59 h cI zM51) rfl dX1_lookAhead_155 ?_
              refine lv_iload_n zhx zhb dX1_lookAhead_158 rfl (lv_at zhl 1 rfl) ?_
              refine lv_iload zhx zhb dX1_lookAhead_159 (lv_at zhl 0 rfl) ?_
              refine x_cSNV (As := [.ref (h 62), .int zx12, .int zv50]) (rest := []) C zhw zhl (c_put l D cI (wX h cI) zM51 62 20 (h 62) (wX_c62 h cI zM51) (fun j v => wX_a62 h cI zM51 j v) (by decide) zx12 zv50) (by decide) (by decide) (List.mem_of_getElem? (i := 19) rfl) kw_7_0 kw_1_2 kw_7_1 md_X11_put rfl rfl (Nat.le_of_ble_eq_true rfl) dX1_lookAhead_161 (fun zH zlocs zhw => ?_)
              obtain ⟨zM52, ze9, zhs⟩ := ltM_e zhs
              rw [← ze9] at zhw; clear ze9
              obtain ⟨zv53, ze9, zhs⟩ := ltI_e zhs
              refine lv_iinc (v := zv53) (lv' := [(3, .int zv53), (4, .int zv50), (2, .int zv1), (0, .ref (h 59)), (1, .int a1)]) zhx zhb dX1_lookAhead_164 zhl (k := 1) rfl (by rw [ze9]; rfl) (by decide) rfl (fun zls zhl => ?_)
              clear ze9
              refine lv_goto (tgt := 63) zhx zhb dX1_lookAhead_167 (by decide) ?_
              cases zhs
              exact zih zv53 zM52 zq (itk_l zhq) k63_170 zH zlocs zls (lv_sub zhl [0, 2, 3, 4] rfl) zhw
    refine hloop54 N 0 zM11 zq54 zhq54 (fun zM55 zhqe zH zlocs zls zhl zhw => ?_) zH zlocs zls zhl zhw
    · subst zhqe
      cases zhs
      exact zhret _ _ _ _ dX1_lookAhead_170 zhw

-- OffFirst$Stock.bitsThere in (40, ())
def LStock_bitsThere_4_13 (N : Nat) (M : Mm) (zx1 : Int32) (zx2 : Int32) : Option ((Int32 × Int32) ⊕ ((Int32))) :=
  (if (M 40 5) ≤ zx2 then some (.inr zx1)
  else (sStock_isThere zx2 M).bind fun zv8 =>
  (if zv8 = 0 then ltI (zx2 + 1) fun zv10 =>
  some (.inl (zx1, zv10))
  else ltI (zx1 ||| (1 <<< (zx2 &&& 31))) fun zv11 =>
  ltI (zx2 + 1) fun zv12 =>
  some (.inl (zv11, zv12))))
def sStock_bitsThere (N : Nat) (M : Mm) : Option Int32 :=
  (itr (fun z : Int32 × Int32 => LStock_bitsThere_4_13 N M z.1 z.2) N (0, 0)).bind fun zv14 =>
  some zv14
set_option maxHeartbeats 4000000 in
set_option maxRecDepth 100000 in
theorem cStock_bitsThere (l : Launch) (D : va_G) (cI : ClassId) (h : Nat → Nat) (N : Nat) (M : Mm) (r : Int32) (zhs : sStock_bitsThere N M = some r) : CtI l yX8_bitsThere cX8_bitsThere 3 (some .int) 3 D cI (wX h cI M) (wX h cI M) [.ref (h 40)] r := by
  unfold sStock_bitsThere at zhs
  refine CtI_of (by decide +kernel) (Nat.le_of_ble_eq_true rfl) ⟨_, rfl⟩ ?_
  intro p e s m args below meth c A Q zls zH zlocs C zhw zhl zhret
  have zhx := C.1
  have zhb := C.2.1
  have zhown := C.2.2.2.2.1
  have zhtB := C.2.2.2.2.2.2.1
  have zhl : lv_has zls 3 [(0, .ref (h 40))] := zhl
  refine lv_iconst (v := 0) zhx zhb dX8_bitsThere_0 (by decide) ?_
  refine lv_istore_n (lv' := [(1, .int 0), (0, .ref (h 40))]) zhx zhb dX8_bitsThere_1 rfl zhl (by decide) rfl (fun zls zhl => ?_)
  refine lv_iconst (v := 0) zhx zhb dX8_bitsThere_2 (by decide) ?_
  refine lv_istore_n (lv' := [(2, .int 0), (1, .int 0), (0, .ref (h 40))]) zhx zhb dX8_bitsThere_3 rfl zhl (by decide) rfl (fun zls zhl => ?_)
  obtain ⟨zq13, zhq13, zhs⟩ := bnd_e zhs
  have hloop13 : ∀ (zn : Nat) (zx1 : Int32) (zx2 : Int32) (zq : (Int32)), itr (fun z : Int32 × Int32 => LStock_bitsThere_4_13 N M z.1 z.2) zn (zx1, zx2) = some zq → (∀ (zy1 : Int32), zy1 = zq → ∀ (zH : Heap) (zlocs : List Loc) (zls : Array Slot), lv_has zls 3 [(1, .int zy1)] → Hw D (wX h cI M) A s.heap zH zlocs → W p l e (RM 3) s m args below meth c zH zlocs 0 0 Q (F0 m 32 zls [])) → ∀ (zH : Heap) (zlocs : List Loc) (zls : Array Slot), lv_has zls 3 [(2, .int zx2), (1, .int zx1), (0, .ref (h 40))] → Hw D (wX h cI M) A s.heap zH zlocs → W p l e (RM 3) s m args below meth c zH zlocs 0 0 Q (F0 m 4 zls []) := by
    intro zn
    induction zn with
    | zero => intro zx1 zx2 zq zhq; exact absurd zhq (fun h9 => itr_0 h9)
    | succ zn zih =>
        intro zx1 zx2 zq zhq k4_32 zH zlocs zls zhl zhw
        obtain ⟨zy9, zhs, zhq⟩ := itr_s zhq
        replace zhs : LStock_bitsThere_4_13 N M zx1 zx2 = some zy9 := zhs
        unfold LStock_bitsThere_4_13 at zhs
        refine lv_iload_n zhx zhb dX8_bitsThere_4 rfl (lv_at zhl 0 rfl) ?_
        refine lv_aload_n zhx zhb dX8_bitsThere_5 rfl (lv_at zhl 2 rfl) ?_
        refine x_get C zhw inlX8 rfl 40 5 (by decide) kw_7_13 rfl (wX_c40 h cI M) rfl dX8_bitsThere_6 ?_
        refine lv_icmp_ge (tgt := 32) zhx zhb dX8_bitsThere_9 (by decide) (fun zc9 => ?_) (fun zc9 => ?_)
        · replace zhs := br_T zhs zc9
          cases zhs
          exact k4_32 zx1 (itk_q zhq) zH zlocs zls (lv_sub zhl [1] rfl) zhw
        · replace zhs := br_F zhs zc9
          refine lv_aload_n zhx zhb dX8_bitsThere_12 rfl (lv_at zhl 2 rfl) ?_
          refine lv_iload_n zhx zhb dX8_bitsThere_13 rfl (lv_at zhl 0 rfl) ?_
          obtain ⟨zv8, zhp, zhs⟩ := bnd_e zhs
          refine x_cVI (As := [.int zx2]) (rest := []) C zhw zhl (cStock_isThere l D cI h zx2 M zv8 zhp) (by decide) (by decide) kw_24_11 kw_22_2 kw_22_3 kw_2_0 kw_22_4 md_X8_isThere rfl 40 (wX_c40 h cI M) rfl rfl rfl rfl (Nat.le_of_ble_eq_true rfl) dX8_bitsThere_14 (fun zH zlocs zhw hzv8 => ?_)
          refine lv_if_eq (tgt := 26) zhx zhb dX8_bitsThere_17 (by decide) (fun zc9 => ?_) (fun zc9 => ?_)
          · replace zhs := br_T zhs zc9
            obtain ⟨zv10, ze9, zhs⟩ := ltI_e zhs
            refine lv_iinc (v := zv10) (lv' := [(2, .int zv10), (1, .int zx1), (0, .ref (h 40))]) zhx zhb dX8_bitsThere_26 zhl (k := 0) rfl (by rw [ze9]; rfl) (by decide) rfl (fun zls zhl => ?_)
            clear ze9
            refine lv_goto (tgt := 4) zhx zhb dX8_bitsThere_29 (by decide) ?_
            cases zhs
            exact zih zx1 zv10 zq (itk_l zhq) k4_32 zH zlocs zls zhl zhw
          · replace zhs := br_F zhs zc9
            refine lv_iload_n zhx zhb dX8_bitsThere_20 rfl (lv_at zhl 1 rfl) ?_
            refine lv_iconst (v := 1) zhx zhb dX8_bitsThere_21 (by decide) ?_
            refine lv_iload_n zhx zhb dX8_bitsThere_22 rfl (lv_at zhl 0 rfl) ?_
            refine lv_ishl zhx zhb dX8_bitsThere_23 ?_
            refine lv_ior zhx zhb dX8_bitsThere_24 ?_
            obtain ⟨zv11, ze9, zhs⟩ := ltI_e zhs
            refine lv_topi (fun zy9 ze8 => ?_)
            obtain rfl : zv11 = zy9 := ze9.trans ze8.symm
            clear ze9 ze8
            refine lv_istore_n (lv' := [(1, .int zv11), (2, .int zx2), (0, .ref (h 40))]) zhx zhb dX8_bitsThere_25 rfl zhl (by decide) rfl (fun zls zhl => ?_)
            obtain ⟨zv12, ze9, zhs⟩ := ltI_e zhs
            refine lv_iinc (v := zv12) (lv' := [(2, .int zv12), (1, .int zv11), (0, .ref (h 40))]) zhx zhb dX8_bitsThere_26 zhl (k := 1) rfl (by rw [ze9]; rfl) (by decide) rfl (fun zls zhl => ?_)
            clear ze9
            refine lv_goto (tgt := 4) zhx zhb dX8_bitsThere_29 (by decide) ?_
            cases zhs
            exact zih zv11 zv12 zq (itk_l zhq) k4_32 zH zlocs zls zhl zhw
  refine hloop13 N 0 0 zq13 zhq13 (fun zv14 zhqe zH zlocs zls zhl zhw => ?_) zH zlocs zls zhl zhw
  · subst zhqe
    refine lv_iload_n zhx zhb dX8_bitsThere_32 rfl (lv_at zhl 0 rfl) ?_
    cases zhs
    exact zhret _ _ _ _ dX8_bitsThere_33 (by rfl) zhw

-- OffFirst$Evenings.offOn in (59, ())
def sEvenings_offOn (a1 : Int32) (M : Mm) : Option Int32 :=
  some (atf 20 (M 62) a1)
set_option maxHeartbeats 4000000 in
set_option maxRecDepth 100000 in
theorem cEvenings_offOn (l : Launch) (D : va_G) (cI : ClassId) (h : Nat → Nat) (a1 : Int32) (M : Mm) (r : Int32) (zhs : sEvenings_offOn a1 M = some r) : CtI l yX1_offOn cX1_offOn 2 (some .int) 2 D cI (wX h cI M) (wX h cI M) [.ref (h 59), .int a1] r := by
  unfold sEvenings_offOn at zhs
  refine CtI_of (by decide +kernel) (Nat.le_of_ble_eq_true rfl) ⟨_, rfl⟩ ?_
  intro p e s m args below meth c A Q zls zH zlocs C zhw zhl zhret
  have zhx := C.1
  have zhb := C.2.1
  have zhown := C.2.2.2.2.1
  have zhtB := C.2.2.2.2.2.2.1
  have zhl : lv_has zls 2 [(0, .ref (h 59)), (1, .int a1)] := zhl
  refine lv_aload_n zhx zhb dX1_offOn_0 rfl (lv_at zhl 0 rfl) ?_
  refine x_get C zhw inlX1 rfl 59 3 (by decide) kw_5_19 rfl (wX_c59 h cI M) rfl dX1_offOn_1 ?_
  refine lv_iload_n zhx zhb dX1_offOn_4 rfl (lv_at zhl 1 rfl) ?_
  refine x_cSNI (As := [.ref (h 62), .int a1]) (rest := []) C zhw zhl (c_at l D cI (wX h cI M) 62 20 (h 62) (M 62) (wX_c62 h cI M) (by decide) a1) (by decide) (by decide) (List.mem_of_getElem? (i := 20) rfl) kw_7_7 kw_1_2 kw_7_8 md_X11_at rfl rfl (Nat.le_of_ble_eq_true rfl) dX1_offOn_5 (fun zH zlocs zhw hn9 => ?_)
  cases zhs
  exact zhret _ _ _ _ dX1_offOn_8 (by rfl) zhw

-- OffFirst.hasBit in (None, ())
def sOff_hasBit (a1 : Int32) (a2 : Int32) : Option Int32 :=
  (if ((a1 >>> (a2 &&& 31)) &&& 1) = 1 then some 1
  else some 0)
set_option maxHeartbeats 4000000 in
set_option maxRecDepth 100000 in
theorem cOff_hasBit (l : Launch) (D : va_G) (cI : ClassId) (h : Nat → Nat) (a1 : Int32) (a2 : Int32) (M : Mm) (r : Int32) (zhs : sOff_hasBit a1 a2 = some r) : CtI l yX11_hasBit cX11_hasBit 2 (some .boolean) 1 D cI (wX h cI M) (wX h cI M) [.int a1, .int a2] r := by
  unfold sOff_hasBit at zhs
  refine CtI_of (by decide +kernel) (Nat.le_of_ble_eq_true rfl) ⟨_, rfl⟩ ?_
  intro p e s m args below meth c A Q zls zH zlocs C zhw zhl zhret
  have zhx := C.1
  have zhb := C.2.1
  have zhown := C.2.2.2.2.1
  have zhtB := C.2.2.2.2.2.2.1
  have zhl : lv_has zls 2 [(0, .int a1), (1, .int a2)] := zhl
  refine lv_iload_n zhx zhb dX11_hasBit_0 rfl (lv_at zhl 0 rfl) ?_
  refine lv_iload_n zhx zhb dX11_hasBit_1 rfl (lv_at zhl 1 rfl) ?_
  refine lv_ishr zhx zhb dX11_hasBit_2 ?_
  refine lv_iconst (v := 1) zhx zhb dX11_hasBit_3 (by decide) ?_
  refine lv_iand zhx zhb dX11_hasBit_4 ?_
  refine lv_iconst (v := 1) zhx zhb dX11_hasBit_5 (by decide) ?_
  refine lv_icmp_ne (tgt := 13) zhx zhb dX11_hasBit_6 (by decide) (fun zc9 => ?_) (fun zc9 => ?_)
  · replace zhs := br_F zhs zc9
    refine lv_iconst (v := 0) zhx zhb dX11_hasBit_13 (by decide) ?_
    cases zhs
    exact zhret _ _ _ _ dX11_hasBit_14 (by rfl) zhw
  · replace zhs := br_T zhs zc9
    refine lv_iconst (v := 1) zhx zhb dX11_hasBit_9 (by decide) ?_
    refine lv_goto (tgt := 14) zhx zhb dX11_hasBit_10 (by decide) ?_
    cases zhs
    exact zhret _ _ _ _ dX11_hasBit_14 (by rfl) zhw

-- OffFirst$Foods.coinOfAll in (27, ())
def LFoods_coinOfAll_l_4_13 (N : Nat) (a1 : Int32) (M : Mm) (zx1 : Int32) (zx2 : Int32) : Option ((Int32 × Int32) ⊕ ((Int32))) :=
  (if (M 27 7) ≤ zx2 then some (.inr zx1)
  else (sOff_hasBit a1 zx2).bind fun zv8 =>
  (if zv8 = 0 then ltI (zx2 + 1) fun zv10 =>
  some (.inl (zx1, zv10))
  else ltI (zx1 + (atf 10 (M 30) zx2)) fun zv11 =>
  ltI (zx2 + 1) fun zv12 =>
  some (.inl (zv11, zv12))))
def sFoods_coinOfAll_l (N : Nat) (a1 : Int32) (M : Mm) : Option Int32 :=
  (itr (fun z : Int32 × Int32 => LFoods_coinOfAll_l_4_13 N a1 M z.1 z.2) N (0, 0)).bind fun zv14 =>
  some zv14
set_option maxHeartbeats 4000000 in
set_option maxRecDepth 100000 in
theorem cFoods_coinOfAll_l (l : Launch) (D : va_G) (cI : ClassId) (h : Nat → Nat) (N : Nat) (a1 : Int32) (M : Mm) (r : Int32) (zhs : sFoods_coinOfAll_l N a1 M = some r) : CtI l yX2_coinOfAll cX2_coinOfAll 4 (some .int) 2 D cI (wX h cI M) (wX h cI M) [.ref (h 27), .int a1] r := by
  unfold sFoods_coinOfAll_l at zhs
  refine CtI_of (by decide +kernel) (Nat.le_of_ble_eq_true rfl) ⟨_, rfl⟩ ?_
  intro p e s m args below meth c A Q zls zH zlocs C zhw zhl zhret
  have zhx := C.1
  have zhb := C.2.1
  have zhown := C.2.2.2.2.1
  have zhtB := C.2.2.2.2.2.2.1
  have zhl : lv_has zls 4 [(0, .ref (h 27)), (1, .int a1)] := zhl
  refine lv_iconst (v := 0) zhx zhb dX2_coinOfAll_0 (by decide) ?_
  refine lv_istore_n (lv' := [(2, .int 0), (0, .ref (h 27)), (1, .int a1)]) zhx zhb dX2_coinOfAll_1 rfl zhl (by decide) rfl (fun zls zhl => ?_)
  refine lv_iconst (v := 0) zhx zhb dX2_coinOfAll_2 (by decide) ?_
  refine lv_istore_n (lv' := [(3, .int 0), (2, .int 0), (0, .ref (h 27)), (1, .int a1)]) zhx zhb dX2_coinOfAll_3 rfl zhl (by decide) rfl (fun zls zhl => ?_)
  obtain ⟨zq13, zhq13, zhs⟩ := bnd_e zhs
  have hloop13 : ∀ (zn : Nat) (zx1 : Int32) (zx2 : Int32) (zq : (Int32)), itr (fun z : Int32 × Int32 => LFoods_coinOfAll_l_4_13 N a1 M z.1 z.2) zn (zx1, zx2) = some zq → (∀ (zy1 : Int32), zy1 = zq → ∀ (zH : Heap) (zlocs : List Loc) (zls : Array Slot), lv_has zls 4 [(2, .int zy1)] → Hw D (wX h cI M) A s.heap zH zlocs → W p l e (RM 2) s m args below meth c zH zlocs 0 0 Q (F0 m 37 zls [])) → ∀ (zH : Heap) (zlocs : List Loc) (zls : Array Slot), lv_has zls 4 [(3, .int zx2), (2, .int zx1), (0, .ref (h 27)), (1, .int a1)] → Hw D (wX h cI M) A s.heap zH zlocs → W p l e (RM 2) s m args below meth c zH zlocs 0 0 Q (F0 m 4 zls []) := by
    intro zn
    induction zn with
    | zero => intro zx1 zx2 zq zhq; exact absurd zhq (fun h9 => itr_0 h9)
    | succ zn zih =>
        intro zx1 zx2 zq zhq k4_37 zH zlocs zls zhl zhw
        obtain ⟨zy9, zhs, zhq⟩ := itr_s zhq
        replace zhs : LFoods_coinOfAll_l_4_13 N a1 M zx1 zx2 = some zy9 := zhs
        unfold LFoods_coinOfAll_l_4_13 at zhs
        refine lv_iload_n zhx zhb dX2_coinOfAll_4 rfl (lv_at zhl 0 rfl) ?_
        refine lv_aload_n zhx zhb dX2_coinOfAll_5 rfl (lv_at zhl 2 rfl) ?_
        refine x_get C zhw inlX2 rfl 27 7 (by decide) kw_7_6 rfl (wX_c27 h cI M) rfl dX2_coinOfAll_6 ?_
        refine lv_icmp_ge (tgt := 37) zhx zhb dX2_coinOfAll_9 (by decide) (fun zc9 => ?_) (fun zc9 => ?_)
        · replace zhs := br_T zhs zc9
          cases zhs
          exact k4_37 zx1 (itk_q zhq) zH zlocs zls (lv_sub zhl [1] rfl) zhw
        · replace zhs := br_F zhs zc9
          refine lv_iload_n zhx zhb dX2_coinOfAll_12 rfl (lv_at zhl 3 rfl) ?_
          refine lv_iload_n zhx zhb dX2_coinOfAll_13 rfl (lv_at zhl 0 rfl) ?_
          obtain ⟨zv8, zhp, zhs⟩ := bnd_e zhs
          refine x_cSNI (As := [.int a1, .int zx2]) (rest := []) C zhw zhl (cOff_hasBit l D cI h a1 zx2 M zv8 zhp) (by decide) (by decide) (List.mem_of_getElem? (i := 21) rfl) kw_30_9 kw_1_2 kw_30_10 md_X11_hasBit rfl rfl (Nat.le_of_ble_eq_true rfl) dX2_coinOfAll_14 (fun zH zlocs zhw hzv8 => ?_)
          refine lv_if_eq (tgt := 31) zhx zhb dX2_coinOfAll_17 (by decide) (fun zc9 => ?_) (fun zc9 => ?_)
          · replace zhs := br_T zhs zc9
            obtain ⟨zv10, ze9, zhs⟩ := ltI_e zhs
            refine lv_iinc (v := zv10) (lv' := [(3, .int zv10), (2, .int zx1), (0, .ref (h 27)), (1, .int a1)]) zhx zhb dX2_coinOfAll_31 zhl (k := 0) rfl (by rw [ze9]; rfl) (by decide) rfl (fun zls zhl => ?_)
            clear ze9
            refine lv_goto (tgt := 4) zhx zhb dX2_coinOfAll_34 (by decide) ?_
            cases zhs
            exact zih zx1 zv10 zq (itk_l zhq) k4_37 zH zlocs zls zhl zhw
          · replace zhs := br_F zhs zc9
            refine lv_iload_n zhx zhb dX2_coinOfAll_20 rfl (lv_at zhl 1 rfl) ?_
            refine lv_aload_n zhx zhb dX2_coinOfAll_21 rfl (lv_at zhl 2 rfl) ?_
            refine x_get C zhw inlX2 rfl 27 2 (by decide) kw_4_11 rfl (wX_c27 h cI M) rfl dX2_coinOfAll_22 ?_
            refine lv_iload_n zhx zhb dX2_coinOfAll_25 rfl (lv_at zhl 0 rfl) ?_
            refine x_cSNI (As := [.ref (h 30), .int zx2]) (rest := [.int zx1]) C zhw zhl (c_at l D cI (wX h cI M) 30 10 (h 30) (M 30) (wX_c30 h cI M) (by decide) zx2) (by decide) (by decide) (List.mem_of_getElem? (i := 9) rfl) kw_7_7 kw_1_2 kw_7_8 md_X11_at rfl rfl (Nat.le_of_ble_eq_true rfl) dX2_coinOfAll_26 (fun zH zlocs zhw hn9 => ?_)
            refine lv_iadd zhx zhb dX2_coinOfAll_29 ?_
            obtain ⟨zv11, ze9, zhs⟩ := ltI_e zhs
            refine lv_topi (fun zy9 ze8 => ?_)
            obtain rfl : zv11 = zy9 := ze9.trans ze8.symm
            clear ze9 ze8
            refine lv_istore_n (lv' := [(2, .int zv11), (3, .int zx2), (0, .ref (h 27)), (1, .int a1)]) zhx zhb dX2_coinOfAll_30 rfl zhl (by decide) rfl (fun zls zhl => ?_)
            obtain ⟨zv12, ze9, zhs⟩ := ltI_e zhs
            refine lv_iinc (v := zv12) (lv' := [(3, .int zv12), (2, .int zv11), (0, .ref (h 27)), (1, .int a1)]) zhx zhb dX2_coinOfAll_31 zhl (k := 1) rfl (by rw [ze9]; rfl) (by decide) rfl (fun zls zhl => ?_)
            clear ze9
            refine lv_goto (tgt := 4) zhx zhb dX2_coinOfAll_34 (by decide) ?_
            cases zhs
            exact zih zv11 zv12 zq (itk_l zhq) k4_37 zH zlocs zls zhl zhw
  refine hloop13 N 0 0 zq13 zhq13 (fun zv14 zhqe zH zlocs zls zhl zhw => ?_) zH zlocs zls zhl zhw
  · subst zhqe
    refine lv_iload_n zhx zhb dX2_coinOfAll_37 rfl (lv_at zhl 0 rfl) ?_
    cases zhs
    exact zhret _ _ _ _ dX2_coinOfAll_38 (by rfl) zhw

-- OffFirst$Planner.coinLeft in (63, ())
def sPlanner_coinLeft (N : Nat) (a1 : Int32) (M : Mm) : Option Int32 :=
  (sEvenings_offOn ((M 63 4) - 1) M).bind fun zv1 =>
  (sFoods_coinOfAll_l N (a1 &&& zv1) M).bind fun zv2 =>
  some zv2
set_option maxHeartbeats 4000000 in
set_option maxRecDepth 100000 in
theorem cPlanner_coinLeft (l : Launch) (D : va_G) (cI : ClassId) (h : Nat → Nat) (N : Nat) (a1 : Int32) (M : Mm) (r : Int32) (zhs : sPlanner_coinLeft N a1 M = some r) : CtI l yX6_coinLeft cX6_coinLeft 2 (some .int) 3 D cI (wX h cI M) (wX h cI M) [.ref (h 63), .int a1] r := by
  unfold sPlanner_coinLeft at zhs
  refine CtI_of (by decide +kernel) (Nat.le_of_ble_eq_true rfl) ⟨_, rfl⟩ ?_
  intro p e s m args below meth c A Q zls zH zlocs C zhw zhl zhret
  have zhx := C.1
  have zhb := C.2.1
  have zhown := C.2.2.2.2.1
  have zhtB := C.2.2.2.2.2.2.1
  have zhl : lv_has zls 2 [(0, .ref (h 63)), (1, .int a1)] := zhl
  refine lv_aload_n zhx zhb dX6_coinLeft_0 rfl (lv_at zhl 0 rfl) ?_
  refine x_get C zhw inlX6 rfl 63 0 (by decide) kw_6_3 rfl (wX_c63 h cI M) rfl dX6_coinLeft_1 ?_
  refine x_getN C zhw inlX3 rfl 58 0 (by decide) (List.mem_of_getElem? (i := 34) rfl) rfl (wX_c58 h cI M) rfl dX6_coinLeft_4 ?_
  refine x_getN C zhw inlX10 rfl 22 1 (by decide) (List.mem_of_getElem? (i := 23) rfl) rfl (wX_c22 h cI M) rfl dX6_coinLeft_7 ?_
  refine lv_iload_n zhx zhb dX6_coinLeft_10 rfl (lv_at zhl 1 rfl) ?_
  refine lv_aload_n zhx zhb dX6_coinLeft_11 rfl (lv_at zhl 0 rfl) ?_
  refine x_get C zhw inlX6 rfl 63 1 (by decide) kw_6_4 rfl (wX_c63 h cI M) rfl dX6_coinLeft_12 ?_
  refine lv_aload_n zhx zhb dX6_coinLeft_15 rfl (lv_at zhl 0 rfl) ?_
  refine x_get C zhw inlX6 rfl 63 4 (by decide) kw_29_5 rfl (wX_c63 h cI M) rfl dX6_coinLeft_16 ?_
  refine lv_iconst (v := 1) zhx zhb dX6_coinLeft_19 (by decide) ?_
  refine lv_isub zhx zhb dX6_coinLeft_20 ?_
  obtain ⟨zv1, zhp, zhs⟩ := bnd_e zhs
  refine x_cVI (As := [.int ((M 63 4) - 1)]) (rest := [.int a1, .ref (h 27)]) C zhw zhl (cEvenings_offOn l D cI h ((M 63 4) - 1) M zv1 zhp) (by decide) (by decide) kw_30_1 kw_30_2 kw_30_3 kw_2_10 kw_30_4 md_X1_offOn rfl 59 (wX_c59 h cI M) rfl rfl rfl rfl (Nat.le_of_ble_eq_true rfl) dX6_coinLeft_21 (fun zH zlocs zhw hn9 => ?_)
  refine lv_iand zhx zhb dX6_coinLeft_24 ?_
  obtain ⟨zv2, zhp, zhs⟩ := bnd_e zhs
  refine x_cVI (As := [.int (a1 &&& zv1)]) (rest := []) C zhw zhl (cFoods_coinOfAll_l l D cI h N (a1 &&& zv1) M zv2 zhp) (by decide) (by decide) kw_30_5 kw_30_6 kw_30_7 kw_3_15 kw_30_8 md_X2_coinOfAll rfl 27 (wX_c27 h cI M) rfl rfl rfl rfl (Nat.le_of_ble_eq_true rfl) dX6_coinLeft_25 (fun zH zlocs zhw hn9 => ?_)
  cases zhs
  exact zhret _ _ _ _ dX6_coinLeft_28 (by rfl) zhw

-- OffFirst$Planner.settle in (63, ())
def LPlanner_settle_16_8 (N : Nat) (zx2 : Int32) (zM3 : Mm) : Option ((Int32 × Mm) ⊕ ((Mm))) :=
  (if (zM3 63 4) ≤ zx2 then some (.inr zM3)
  else ltM (putf 4 zM3 65 zx2 (atf 4 (zM3 64) zx2)) fun zM6 =>
  ltI (zx2 + 1) fun zv7 =>
  some (.inl (zv7, zM6)))
def sPlanner_settle (N : Nat) (a1 : Int32) (M : Mm) : Option Mm :=
  (if a1 < (M 63 5) then ltM (mset M 63 5 a1) fun zM1 =>
  (itr (fun z : Int32 × Mm => LPlanner_settle_16_8 N z.1 z.2) N (0, zM1)).bind fun zM9 =>
  some zM9
  else some M)
set_option maxHeartbeats 4000000 in
set_option maxRecDepth 100000 in
theorem cPlanner_settle (l : Launch) (D : va_G) (cI : ClassId) (h : Nat → Nat) (N : Nat) (a1 : Int32) (M : Mm) (M' : Mm) (zhs : sPlanner_settle N a1 M = some M') : CtV l yX6_settle cX6_settle 3 2 D cI (wX h cI M) (wX h cI M') [.ref (h 63), .int a1] := by
  unfold sPlanner_settle at zhs
  refine CtV_of (by decide +kernel) (Nat.le_of_ble_eq_true rfl) ?_
  intro p e s m args below meth c A Q zls zH zlocs C zhw zhl zhret
  have zhx := C.1
  have zhb := C.2.1
  have zhown := C.2.2.2.2.1
  have zhtB := C.2.2.2.2.2.2.1
  have zhl : lv_has zls 3 [(0, .ref (h 63)), (1, .int a1)] := zhl
  refine lv_iload_n zhx zhb dX6_settle_0 rfl (lv_at zhl 1 rfl) ?_
  refine lv_aload_n zhx zhb dX6_settle_1 rfl (lv_at zhl 0 rfl) ?_
  refine x_get C zhw inlX6 rfl 63 5 (by decide) kw_29_7 rfl (wX_c63 h cI M) rfl dX6_settle_2 ?_
  refine lv_icmp_lt (tgt := 9) zhx zhb dX6_settle_5 (by decide) (fun zc9 => ?_) (fun zc9 => ?_)
  · replace zhs := br_T zhs zc9
    refine lv_aload_n zhx zhb dX6_settle_9 rfl (lv_at zhl 0 rfl) ?_
    refine lv_iload_n zhx zhb dX6_settle_10 rfl (lv_at zhl 1 rfl) ?_
    refine x_put C zhw inlX6 rfl tyX6_ok nmX6 63 5 (by decide) kw_29_7 rfl rfl rfl (wX_c63 h cI M) (Nat.le_of_ble_eq_true rfl) (wX_s63_5 h cI M _) dX6_settle_11 (fun zH zlocs zhw => ?_)
    obtain ⟨zM1, ze9, zhs⟩ := ltM_e zhs
    rw [← ze9] at zhw; clear ze9
    refine lv_iconst (v := 0) zhx zhb dX6_settle_14 (by decide) ?_
    refine lv_istore_n (lv' := [(2, .int 0), (0, .ref (h 63)), (1, .int a1)]) zhx zhb dX6_settle_15 rfl zhl (by decide) rfl (fun zls zhl => ?_)
    obtain ⟨zq8, zhq8, zhs⟩ := bnd_e zhs
    have hloop8 : ∀ (zn : Nat) (zx2 : Int32) (zM3 : Mm) (zq : (Mm)), itr (fun z : Int32 × Mm => LPlanner_settle_16_8 N z.1 z.2) zn (zx2, zM3) = some zq → (∀ (zy1 : Mm), zy1 = zq → ∀ (zH : Heap) (zlocs : List Loc) (zls : Array Slot), lv_has zls 3 [] → Hw D (wX h cI zy1) A s.heap zH zlocs → W p l e (RM 2) s m args below meth c zH zlocs 0 0 Q (F0 m 46 zls [])) → ∀ (zH : Heap) (zlocs : List Loc) (zls : Array Slot), lv_has zls 3 [(2, .int zx2), (0, .ref (h 63))] → Hw D (wX h cI zM3) A s.heap zH zlocs → W p l e (RM 2) s m args below meth c zH zlocs 0 0 Q (F0 m 16 zls []) := by
      intro zn
      induction zn with
      | zero => intro zx2 zM3 zq zhq; exact absurd zhq (fun h9 => itr_0 h9)
      | succ zn zih =>
          intro zx2 zM3 zq zhq k16_46 zH zlocs zls zhl zhw
          obtain ⟨zy9, zhs, zhq⟩ := itr_s zhq
          replace zhs : LPlanner_settle_16_8 N zx2 zM3 = some zy9 := zhs
          unfold LPlanner_settle_16_8 at zhs
          refine lv_iload_n zhx zhb dX6_settle_16 rfl (lv_at zhl 0 rfl) ?_
          refine lv_aload_n zhx zhb dX6_settle_17 rfl (lv_at zhl 1 rfl) ?_
          refine x_get C zhw inlX6 rfl 63 4 (by decide) kw_29_5 rfl (wX_c63 h cI zM3) rfl dX6_settle_18 ?_
          refine lv_icmp_ge (tgt := 46) zhx zhb dX6_settle_21 (by decide) (fun zc9 => ?_) (fun zc9 => ?_)
          · replace zhs := br_T zhs zc9
            cases zhs
            exact k16_46 zM3 (itk_q zhq) zH zlocs zls (lv_sub zhl [] rfl) zhw
          · replace zhs := br_F zhs zc9
            refine lv_aload_n zhx zhb dX6_settle_24 rfl (lv_at zhl 1 rfl) ?_
            refine x_get C zhw inlX6 rfl 63 3 (by decide) kw_6_2 rfl (wX_c63 h cI zM3) rfl dX6_settle_25 ?_
            refine lv_iload_n zhx zhb dX6_settle_28 rfl (lv_at zhl 0 rfl) ?_
            refine lv_aload_n zhx zhb dX6_settle_29 rfl (lv_at zhl 1 rfl) ?_
            refine x_get C zhw inlX6 rfl 63 2 (by decide) kw_6_1 rfl (wX_c63 h cI zM3) rfl dX6_settle_30 ?_
            refine lv_iload_n zhx zhb dX6_settle_33 rfl (lv_at zhl 0 rfl) ?_
            refine x_cSNI (As := [.ref (h 64), .int zx2]) (rest := [.int zx2, .ref (h 65)]) C zhw zhl (c_at l D cI (wX h cI zM3) 64 4 (h 64) (zM3 64) (wX_c64 h cI zM3) (by decide) zx2) (by decide) (by decide) (List.mem_of_getElem? (i := 22) rfl) kw_7_7 kw_1_2 kw_7_8 md_X11_at rfl rfl (Nat.le_of_ble_eq_true rfl) dX6_settle_34 (fun zH zlocs zhw hn9 => ?_)
            refine x_cSNV (As := [.ref (h 65), .int zx2, .int (atf 4 (zM3 64) zx2)]) (rest := []) C zhw zhl (c_put l D cI (wX h cI) zM3 65 4 (h 65) (wX_c65 h cI zM3) (fun j v => wX_a65 h cI zM3 j v) (by decide) zx2 (atf 4 (zM3 64) zx2)) (by decide) (by decide) (List.mem_of_getElem? (i := 23) rfl) kw_7_0 kw_1_2 kw_7_1 md_X11_put rfl rfl (Nat.le_of_ble_eq_true rfl) dX6_settle_37 (fun zH zlocs zhw => ?_)
            obtain ⟨zM6, ze9, zhs⟩ := ltM_e zhs
            rw [← ze9] at zhw; clear ze9
            obtain ⟨zv7, ze9, zhs⟩ := ltI_e zhs
            refine lv_iinc (v := zv7) (lv' := [(2, .int zv7), (0, .ref (h 63))]) zhx zhb dX6_settle_40 zhl (k := 0) rfl (by rw [ze9]; rfl) (by decide) rfl (fun zls zhl => ?_)
            clear ze9
            refine lv_goto (tgt := 16) zhx zhb dX6_settle_43 (by decide) ?_
            cases zhs
            exact zih zv7 zM6 zq (itk_l zhq) k16_46 zH zlocs zls zhl zhw
    refine hloop8 N 0 zM1 zq8 zhq8 (fun zM9 zhqe zH zlocs zls zhl zhw => ?_) zH zlocs zls (lv_sub zhl [0, 1] rfl) zhw
    · subst zhqe
      cases zhs
      exact zhret _ _ _ _ dX6_settle_46 zhw
  · replace zhs := br_F zhs zc9
    cases zhs
    exact zhret _ _ _ _ dX6_settle_8 zhw

-- OffFirst$Told.hungryWith in (22, ())
def LTold_hungryWith_l_4_19 (N : Nat) (a1 : Int32) (M : Mm) (zx1 : Int32) (zx2 : Int32) : Option ((Int32 × Int32) ⊕ ((Int32))) :=
  (if (M 22 5) ≤ zx2 then some (.inr zx1)
  else (if a1 = 0 then ltI (zx1 + 1) fun zv13 =>
  ltI (zx2 + 1) fun zv14 =>
  some (.inl (zv13, zv14))
  else (if ((atf 4 (M 36) zx2) &&& a1) = 0 then ltI (zx2 + 1) fun zv16 =>
  some (.inl (zx1, zv16))
  else ltI (zx1 + 1) fun zv17 =>
  ltI (zx2 + 1) fun zv18 =>
  some (.inl (zv17, zv18)))))
def sTold_hungryWith_l (N : Nat) (a1 : Int32) (M : Mm) : Option Int32 :=
  (itr (fun z : Int32 × Int32 => LTold_hungryWith_l_4_19 N a1 M z.1 z.2) N (0, 0)).bind fun zv20 =>
  some zv20
set_option maxHeartbeats 4000000 in
set_option maxRecDepth 100000 in
theorem cTold_hungryWith_l (l : Launch) (D : va_G) (cI : ClassId) (h : Nat → Nat) (N : Nat) (a1 : Int32) (M : Mm) (r : Int32) (zhs : sTold_hungryWith_l N a1 M = some r) : CtI l yX10_hungryWith cX10_hungryWith 4 (some .int) 2 D cI (wX h cI M) (wX h cI M) [.ref (h 22), .int a1] r := by
  unfold sTold_hungryWith_l at zhs
  refine CtI_of (by decide +kernel) (Nat.le_of_ble_eq_true rfl) ⟨_, rfl⟩ ?_
  intro p e s m args below meth c A Q zls zH zlocs C zhw zhl zhret
  have zhx := C.1
  have zhb := C.2.1
  have zhown := C.2.2.2.2.1
  have zhtB := C.2.2.2.2.2.2.1
  have zhl : lv_has zls 4 [(0, .ref (h 22)), (1, .int a1)] := zhl
  refine lv_iconst (v := 0) zhx zhb dX10_hungryWith_0 (by decide) ?_
  refine lv_istore_n (lv' := [(2, .int 0), (0, .ref (h 22)), (1, .int a1)]) zhx zhb dX10_hungryWith_1 rfl zhl (by decide) rfl (fun zls zhl => ?_)
  refine lv_iconst (v := 0) zhx zhb dX10_hungryWith_2 (by decide) ?_
  refine lv_istore_n (lv' := [(3, .int 0), (2, .int 0), (0, .ref (h 22)), (1, .int a1)]) zhx zhb dX10_hungryWith_3 rfl zhl (by decide) rfl (fun zls zhl => ?_)
  obtain ⟨zq19, zhq19, zhs⟩ := bnd_e zhs
  have hloop19 : ∀ (zn : Nat) (zx1 : Int32) (zx2 : Int32) (zq : (Int32)), itr (fun z : Int32 × Int32 => LTold_hungryWith_l_4_19 N a1 M z.1 z.2) zn (zx1, zx2) = some zq → (∀ (zy1 : Int32), zy1 = zq → ∀ (zH : Heap) (zlocs : List Loc) (zls : Array Slot), lv_has zls 4 [(2, .int zy1)] → Hw D (wX h cI M) A s.heap zH zlocs → W p l e (RM 2) s m args below meth c zH zlocs 0 0 Q (F0 m 38 zls [])) → ∀ (zH : Heap) (zlocs : List Loc) (zls : Array Slot), lv_has zls 4 [(3, .int zx2), (2, .int zx1), (0, .ref (h 22)), (1, .int a1)] → Hw D (wX h cI M) A s.heap zH zlocs → W p l e (RM 2) s m args below meth c zH zlocs 0 0 Q (F0 m 4 zls []) := by
    intro zn
    induction zn with
    | zero => intro zx1 zx2 zq zhq; exact absurd zhq (fun h9 => itr_0 h9)
    | succ zn zih =>
        intro zx1 zx2 zq zhq k4_38 zH zlocs zls zhl zhw
        obtain ⟨zy9, zhs, zhq⟩ := itr_s zhq
        replace zhs : LTold_hungryWith_l_4_19 N a1 M zx1 zx2 = some zy9 := zhs
        unfold LTold_hungryWith_l_4_19 at zhs
        refine lv_iload_n zhx zhb dX10_hungryWith_4 rfl (lv_at zhl 0 rfl) ?_
        refine lv_aload_n zhx zhb dX10_hungryWith_5 rfl (lv_at zhl 2 rfl) ?_
        refine x_get C zhw inlX10 rfl 22 5 (by decide) kw_11_14 rfl (wX_c22 h cI M) rfl dX10_hungryWith_6 ?_
        refine lv_icmp_ge (tgt := 38) zhx zhb dX10_hungryWith_9 (by decide) (fun zc9 => ?_) (fun zc9 => ?_)
        · replace zhs := br_T zhs zc9
          cases zhs
          exact k4_38 zx1 (itk_q zhq) zH zlocs zls (lv_sub zhl [1] rfl) zhw
        · replace zhs := br_F zhs zc9
          refine lv_iload_n zhx zhb dX10_hungryWith_12 rfl (lv_at zhl 3 rfl) ?_
          refine lv_if_eq (tgt := 29) zhx zhb dX10_hungryWith_13 (by decide) (fun zc9 => ?_) (fun zc9 => ?_)
          · replace zhs := br_T zhs zc9
            obtain ⟨zv13, ze9, zhs⟩ := ltI_e zhs
            refine lv_iinc (v := zv13) (lv' := [(2, .int zv13), (3, .int zx2), (0, .ref (h 22)), (1, .int a1)]) zhx zhb dX10_hungryWith_29 zhl (k := 1) rfl (by rw [ze9]; rfl) (by decide) rfl (fun zls zhl => ?_)
            clear ze9
            obtain ⟨zv14, ze9, zhs⟩ := ltI_e zhs
            refine lv_iinc (v := zv14) (lv' := [(3, .int zv14), (2, .int zv13), (0, .ref (h 22)), (1, .int a1)]) zhx zhb dX10_hungryWith_32 zhl (k := 1) rfl (by rw [ze9]; rfl) (by decide) rfl (fun zls zhl => ?_)
            clear ze9
            refine lv_goto (tgt := 4) zhx zhb dX10_hungryWith_35 (by decide) ?_
            cases zhs
            exact zih zv13 zv14 zq (itk_l zhq) k4_38 zH zlocs zls zhl zhw
          · replace zhs := br_F zhs zc9
            refine lv_aload_n zhx zhb dX10_hungryWith_16 rfl (lv_at zhl 2 rfl) ?_
            refine x_get C zhw inlX10 rfl 22 4 (by decide) kw_3_18 rfl (wX_c22 h cI M) rfl dX10_hungryWith_17 ?_
            refine lv_iload_n zhx zhb dX10_hungryWith_20 rfl (lv_at zhl 0 rfl) ?_
            refine x_cSNI (As := [.ref (h 36), .int zx2]) (rest := []) C zhw zhl (c_at l D cI (wX h cI M) 36 4 (h 36) (M 36) (wX_c36 h cI M) (by decide) zx2) (by decide) (by decide) (List.mem_of_getElem? (i := 24) rfl) kw_7_7 kw_1_2 kw_7_8 md_X11_at rfl rfl (Nat.le_of_ble_eq_true rfl) dX10_hungryWith_21 (fun zH zlocs zhw hn9 => ?_)
            refine lv_iload_n zhx zhb dX10_hungryWith_24 rfl (lv_at zhl 3 rfl) ?_
            refine lv_iand zhx zhb dX10_hungryWith_25 ?_
            refine lv_if_eq (tgt := 32) zhx zhb dX10_hungryWith_26 (by decide) (fun zc9 => ?_) (fun zc9 => ?_)
            · replace zhs := br_T zhs zc9
              obtain ⟨zv16, ze9, zhs⟩ := ltI_e zhs
              refine lv_iinc (v := zv16) (lv' := [(3, .int zv16), (2, .int zx1), (0, .ref (h 22)), (1, .int a1)]) zhx zhb dX10_hungryWith_32 zhl (k := 0) rfl (by rw [ze9]; rfl) (by decide) rfl (fun zls zhl => ?_)
              clear ze9
              refine lv_goto (tgt := 4) zhx zhb dX10_hungryWith_35 (by decide) ?_
              cases zhs
              exact zih zx1 zv16 zq (itk_l zhq) k4_38 zH zlocs zls zhl zhw
            · replace zhs := br_F zhs zc9
              obtain ⟨zv17, ze9, zhs⟩ := ltI_e zhs
              refine lv_iinc (v := zv17) (lv' := [(2, .int zv17), (3, .int zx2), (0, .ref (h 22)), (1, .int a1)]) zhx zhb dX10_hungryWith_29 zhl (k := 1) rfl (by rw [ze9]; rfl) (by decide) rfl (fun zls zhl => ?_)
              clear ze9
              obtain ⟨zv18, ze9, zhs⟩ := ltI_e zhs
              refine lv_iinc (v := zv18) (lv' := [(3, .int zv18), (2, .int zv17), (0, .ref (h 22)), (1, .int a1)]) zhx zhb dX10_hungryWith_32 zhl (k := 1) rfl (by rw [ze9]; rfl) (by decide) rfl (fun zls zhl => ?_)
              clear ze9
              refine lv_goto (tgt := 4) zhx zhb dX10_hungryWith_35 (by decide) ?_
              cases zhs
              exact zih zv17 zv18 zq (itk_l zhq) k4_38 zH zlocs zls zhl zhw
  refine hloop19 N 0 0 zq19 zhq19 (fun zv20 zhqe zH zlocs zls zhl zhw => ?_) zH zlocs zls zhl zhw
  · subst zhqe
    refine lv_iload_n zhx zhb dX10_hungryWith_38 rfl (lv_at zhl 0 rfl) ?_
    cases zhs
    exact zhret _ _ _ _ dX10_hungryWith_39 (by rfl) zhw

-- OffFirst$Planner.costOfHunger in (63, ())
def sPlanner_costOfHunger (N : Nat) (a1 : Int32) (M : Mm) : Option Int32 :=
  (sTold_hungryWith_l N a1 M).bind fun zv1 =>
  some (10 * zv1)
set_option maxHeartbeats 4000000 in
set_option maxRecDepth 100000 in
theorem cPlanner_costOfHunger (l : Launch) (D : va_G) (cI : ClassId) (h : Nat → Nat) (N : Nat) (a1 : Int32) (M : Mm) (r : Int32) (zhs : sPlanner_costOfHunger N a1 M = some r) : CtI l yX6_costOfHunger cX6_costOfHunger 2 (some .int) 3 D cI (wX h cI M) (wX h cI M) [.ref (h 63), .int a1] r := by
  unfold sPlanner_costOfHunger at zhs
  refine CtI_of (by decide +kernel) (Nat.le_of_ble_eq_true rfl) ⟨_, rfl⟩ ?_
  intro p e s m args below meth c A Q zls zH zlocs C zhw zhl zhret
  have zhx := C.1
  have zhb := C.2.1
  have zhown := C.2.2.2.2.1
  have zhtB := C.2.2.2.2.2.2.1
  have zhl : lv_has zls 2 [(0, .ref (h 63)), (1, .int a1)] := zhl
  refine lv_bipush (v := 10) zhx zhb dX6_costOfHunger_0 (by decide) ?_
  refine lv_aload_n zhx zhb dX6_costOfHunger_2 rfl (lv_at zhl 0 rfl) ?_
  refine x_get C zhw inlX6 rfl 63 0 (by decide) kw_6_3 rfl (wX_c63 h cI M) rfl dX6_costOfHunger_3 ?_
  refine x_getN C zhw inlX3 rfl 58 0 (by decide) (List.mem_of_getElem? (i := 34) rfl) rfl (wX_c58 h cI M) rfl dX6_costOfHunger_6 ?_
  refine lv_iload_n zhx zhb dX6_costOfHunger_9 rfl (lv_at zhl 1 rfl) ?_
  obtain ⟨zv1, zhp, zhs⟩ := bnd_e zhs
  refine x_cVI (As := [.int a1]) (rest := [.int 10]) C zhw zhl (cTold_hungryWith_l l D cI h N a1 M zv1 zhp) (by decide) (by decide) kw_30_19 kw_30_20 kw_30_21 kw_1_19 kw_30_22 md_X10_hungryWith rfl 22 (wX_c22 h cI M) rfl rfl rfl rfl (Nat.le_of_ble_eq_true rfl) dX6_costOfHunger_10 (fun zH zlocs zhw hn9 => ?_)
  refine lv_imul zhx zhb dX6_costOfHunger_13 ?_
  cases zhs
  exact zhret _ _ _ _ dX6_costOfHunger_14 (by rfl) zhw

-- OffFirst$Told.sortsOfDish in (22, ())
def sTold_sortsOfDish_l (a1 : Int32) (M : Mm) : Option Int32 :=
  some (atf 5 (M 35) a1)
set_option maxHeartbeats 4000000 in
set_option maxRecDepth 100000 in
theorem cTold_sortsOfDish_l (l : Launch) (D : va_G) (cI : ClassId) (h : Nat → Nat) (a1 : Int32) (M : Mm) (r : Int32) (zhs : sTold_sortsOfDish_l a1 M = some r) : CtI l yX10_sortsOfDish cX10_sortsOfDish 2 (some .int) 2 D cI (wX h cI M) (wX h cI M) [.ref (h 22), .int a1] r := by
  unfold sTold_sortsOfDish_l at zhs
  refine CtI_of (by decide +kernel) (Nat.le_of_ble_eq_true rfl) ⟨_, rfl⟩ ?_
  intro p e s m args below meth c A Q zls zH zlocs C zhw zhl zhret
  have zhx := C.1
  have zhb := C.2.1
  have zhown := C.2.2.2.2.1
  have zhtB := C.2.2.2.2.2.2.1
  have zhl : lv_has zls 2 [(0, .ref (h 22)), (1, .int a1)] := zhl
  refine lv_aload_n zhx zhb dX10_sortsOfDish_0 rfl (lv_at zhl 0 rfl) ?_
  refine x_get C zhw inlX10 rfl 22 2 (by decide) kw_3_17 rfl (wX_c22 h cI M) rfl dX10_sortsOfDish_1 ?_
  refine lv_iload_n zhx zhb dX10_sortsOfDish_4 rfl (lv_at zhl 1 rfl) ?_
  refine x_cSNI (As := [.ref (h 35), .int a1]) (rest := []) C zhw zhl (c_at l D cI (wX h cI M) 35 5 (h 35) (M 35) (wX_c35 h cI M) (by decide) a1) (by decide) (by decide) (List.mem_of_getElem? (i := 24) rfl) kw_7_7 kw_1_2 kw_7_8 md_X11_at rfl rfl (Nat.le_of_ble_eq_true rfl) dX10_sortsOfDish_5 (fun zH zlocs zhw hn9 => ?_)
  cases zhs
  exact zhret _ _ _ _ dX10_sortsOfDish_8 (by rfl) zhw

-- OffFirst$Foods.bitsOfSort in (27, ())
def sFoods_bitsOfSort_l (a1 : Int32) (M : Mm) : Option Int32 :=
  some (atf 4 (M 34) a1)
set_option maxHeartbeats 4000000 in
set_option maxRecDepth 100000 in
theorem cFoods_bitsOfSort_l (l : Launch) (D : va_G) (cI : ClassId) (h : Nat → Nat) (a1 : Int32) (M : Mm) (r : Int32) (zhs : sFoods_bitsOfSort_l a1 M = some r) : CtI l yX2_bitsOfSort cX2_bitsOfSort 2 (some .int) 2 D cI (wX h cI M) (wX h cI M) [.ref (h 27), .int a1] r := by
  unfold sFoods_bitsOfSort_l at zhs
  refine CtI_of (by decide +kernel) (Nat.le_of_ble_eq_true rfl) ⟨_, rfl⟩ ?_
  intro p e s m args below meth c A Q zls zH zlocs C zhw zhl zhret
  have zhx := C.1
  have zhb := C.2.1
  have zhown := C.2.2.2.2.1
  have zhtB := C.2.2.2.2.2.2.1
  have zhl : lv_has zls 2 [(0, .ref (h 27)), (1, .int a1)] := zhl
  refine lv_aload_n zhx zhb dX2_bitsOfSort_0 rfl (lv_at zhl 0 rfl) ?_
  refine x_get C zhw inlX2 rfl 27 6 (by decide) kw_4_15 rfl (wX_c27 h cI M) rfl dX2_bitsOfSort_1 ?_
  refine lv_iload_n zhx zhb dX2_bitsOfSort_4 rfl (lv_at zhl 1 rfl) ?_
  refine x_cSNI (As := [.ref (h 34), .int a1]) (rest := []) C zhw zhl (c_at l D cI (wX h cI M) 34 4 (h 34) (M 34) (wX_c34 h cI M) (by decide) a1) (by decide) (by decide) (List.mem_of_getElem? (i := 9) rfl) kw_7_7 kw_1_2 kw_7_8 md_X11_at rfl rfl (Nat.le_of_ble_eq_true rfl) dX2_bitsOfSort_5 (fun zH zlocs zhw hn9 => ?_)
  cases zhs
  exact zhret _ _ _ _ dX2_bitsOfSort_8 (by rfl) zhw

-- OffFirst$Evenings.isOlderOn in (59, ())
def sEvenings_isOlderOn (a1 : Int32) (a2 : Int32) (a3 : Int32) (M : Mm) : Option Int32 :=
  ltL ((Int32.toInt64 (atf 200 (M 60) ((a1 * 10) + a2))) * (Int32.toInt64 (atf 10 (M 61) a3))) fun zv1 =>
  ltL ((Int32.toInt64 (atf 200 (M 60) ((a1 * 10) + a3))) * (Int32.toInt64 (atf 10 (M 61) a2))) fun zv2 =>
  (if (lg_cmp zv1 zv2) ≤ 0 then some 0
  else some 1)
set_option maxHeartbeats 4000000 in
set_option maxRecDepth 100000 in
theorem cEvenings_isOlderOn (l : Launch) (D : va_G) (cI : ClassId) (h : Nat → Nat) (a1 : Int32) (a2 : Int32) (a3 : Int32) (M : Mm) (r : Int32) (zhs : sEvenings_isOlderOn a1 a2 a3 M = some r) : CtI l yX1_isOlderOn cX1_isOlderOn 8 (some .boolean) 2 D cI (wX h cI M) (wX h cI M) [.ref (h 59), .int a1, .int a2, .int a3] r := by
  unfold sEvenings_isOlderOn at zhs
  refine CtI_of (by decide +kernel) (Nat.le_of_ble_eq_true rfl) ⟨_, rfl⟩ ?_
  intro p e s m args below meth c A Q zls zH zlocs C zhw zhl zhret
  have zhx := C.1
  have zhb := C.2.1
  have zhown := C.2.2.2.2.1
  have zhtB := C.2.2.2.2.2.2.1
  have zhl : lv_has zls 8 [(0, .ref (h 59)), (1, .int a1), (2, .int a2), (3, .int a3)] := zhl
  refine lv_aload_n zhx zhb dX1_isOlderOn_0 rfl (lv_at zhl 0 rfl) ?_
  refine x_get C zhw inlX1 rfl 59 1 (by decide) kw_5_17 rfl (wX_c59 h cI M) rfl dX1_isOlderOn_1 ?_
  refine lv_iload_n zhx zhb dX1_isOlderOn_4 rfl (lv_at zhl 1 rfl) ?_
  refine lv_bipush (v := 10) zhx zhb dX1_isOlderOn_5 (by decide) ?_
  refine lv_imul zhx zhb dX1_isOlderOn_7 ?_
  refine lv_iload_n zhx zhb dX1_isOlderOn_8 rfl (lv_at zhl 2 rfl) ?_
  refine lv_iadd zhx zhb dX1_isOlderOn_9 ?_
  refine x_cSNI (As := [.ref (h 60), .int ((a1 * 10) + a2)]) (rest := []) C zhw zhl (c_at l D cI (wX h cI M) 60 200 (h 60) (M 60) (wX_c60 h cI M) (by decide) ((a1 * 10) + a2)) (by decide) (by decide) (List.mem_of_getElem? (i := 20) rfl) kw_7_7 kw_1_2 kw_7_8 md_X11_at rfl rfl (Nat.le_of_ble_eq_true rfl) dX1_isOlderOn_10 (fun zH zlocs zhw hn9 => ?_)
  refine lv_i2l zhx zhb dX1_isOlderOn_13 rfl ?_
  refine lv_aload_n zhx zhb dX1_isOlderOn_14 rfl (lv_at zhl 0 rfl) ?_
  refine x_get C zhw inlX1 rfl 59 2 (by decide) kw_5_18 rfl (wX_c59 h cI M) rfl dX1_isOlderOn_15 ?_
  refine lv_iload_n zhx zhb dX1_isOlderOn_18 rfl (lv_at zhl 3 rfl) ?_
  refine x_cSNI (As := [.ref (h 61), .int a3]) (rest := [.long (Int32.toInt64 (atf 200 (M 60) ((a1 * 10) + a2)))]) C zhw zhl (c_at l D cI (wX h cI M) 61 10 (h 61) (M 61) (wX_c61 h cI M) (by decide) a3) (by decide) (by decide) (List.mem_of_getElem? (i := 20) rfl) kw_7_7 kw_1_2 kw_7_8 md_X11_at rfl rfl (Nat.le_of_ble_eq_true rfl) dX1_isOlderOn_19 (fun zH zlocs zhw hn9 => ?_)
  refine lv_i2l zhx zhb dX1_isOlderOn_22 rfl ?_
  refine lv_lmul zhx zhb dX1_isOlderOn_23 ?_
  obtain ⟨zv1, ze9, zhs⟩ := ltL_e zhs
  refine lv_topl (fun zy9 ze8 => ?_)
  obtain rfl : zv1 = zy9 := ze9.trans ze8.symm
  clear ze9 ze8
  refine lv_lstore (lv' := [(4, .long zv1), (0, .ref (h 59)), (1, .int a1), (2, .int a2), (3, .int a3)]) zhx zhb dX1_isOlderOn_24 zhl (by decide) rfl (fun zls zhl => ?_)
  refine lv_aload_n zhx zhb dX1_isOlderOn_26 rfl (lv_at zhl 1 rfl) ?_
  refine x_get C zhw inlX1 rfl 59 1 (by decide) kw_5_17 rfl (wX_c59 h cI M) rfl dX1_isOlderOn_27 ?_
  refine lv_iload_n zhx zhb dX1_isOlderOn_30 rfl (lv_at zhl 2 rfl) ?_
  refine lv_bipush (v := 10) zhx zhb dX1_isOlderOn_31 (by decide) ?_
  refine lv_imul zhx zhb dX1_isOlderOn_33 ?_
  refine lv_iload_n zhx zhb dX1_isOlderOn_34 rfl (lv_at zhl 4 rfl) ?_
  refine lv_iadd zhx zhb dX1_isOlderOn_35 ?_
  refine x_cSNI (As := [.ref (h 60), .int ((a1 * 10) + a3)]) (rest := []) C zhw zhl (c_at l D cI (wX h cI M) 60 200 (h 60) (M 60) (wX_c60 h cI M) (by decide) ((a1 * 10) + a3)) (by decide) (by decide) (List.mem_of_getElem? (i := 20) rfl) kw_7_7 kw_1_2 kw_7_8 md_X11_at rfl rfl (Nat.le_of_ble_eq_true rfl) dX1_isOlderOn_36 (fun zH zlocs zhw hn9 => ?_)
  refine lv_i2l zhx zhb dX1_isOlderOn_39 rfl ?_
  refine lv_aload_n zhx zhb dX1_isOlderOn_40 rfl (lv_at zhl 1 rfl) ?_
  refine x_get C zhw inlX1 rfl 59 2 (by decide) kw_5_18 rfl (wX_c59 h cI M) rfl dX1_isOlderOn_41 ?_
  refine lv_iload_n zhx zhb dX1_isOlderOn_44 rfl (lv_at zhl 3 rfl) ?_
  refine x_cSNI (As := [.ref (h 61), .int a2]) (rest := [.long (Int32.toInt64 (atf 200 (M 60) ((a1 * 10) + a3)))]) C zhw zhl (c_at l D cI (wX h cI M) 61 10 (h 61) (M 61) (wX_c61 h cI M) (by decide) a2) (by decide) (by decide) (List.mem_of_getElem? (i := 20) rfl) kw_7_7 kw_1_2 kw_7_8 md_X11_at rfl rfl (Nat.le_of_ble_eq_true rfl) dX1_isOlderOn_45 (fun zH zlocs zhw hn9 => ?_)
  refine lv_i2l zhx zhb dX1_isOlderOn_48 rfl ?_
  refine lv_lmul zhx zhb dX1_isOlderOn_49 ?_
  obtain ⟨zv2, ze9, zhs⟩ := ltL_e zhs
  refine lv_topl (fun zy9 ze8 => ?_)
  obtain rfl : zv2 = zy9 := ze9.trans ze8.symm
  clear ze9 ze8
  refine lv_lstore (lv' := [(6, .long zv2), (4, .long zv1), (0, .ref (h 59)), (1, .int a1), (2, .int a2), (3, .int a3)]) zhx zhb dX1_isOlderOn_50 zhl (by decide) rfl (fun zls zhl => ?_)
  refine lv_lload zhx zhb dX1_isOlderOn_52 (lv_at zhl 1 rfl) ?_
  refine lv_lload zhx zhb dX1_isOlderOn_54 (lv_at zhl 0 rfl) ?_
  refine W.lcmp zhx zhb dX1_isOlderOn_56 ?_
  refine lv_if_le (tgt := 64) zhx zhb dX1_isOlderOn_57 (by decide) (fun zc9 => ?_) (fun zc9 => ?_)
  · replace zhs := br_T zhs zc9
    refine lv_iconst (v := 0) zhx zhb dX1_isOlderOn_64 (by decide) ?_
    cases zhs
    exact zhret _ _ _ _ dX1_isOlderOn_65 (by rfl) zhw
  · replace zhs := br_F zhs zc9
    refine lv_iconst (v := 1) zhx zhb dX1_isOlderOn_60 (by decide) ?_
    refine lv_goto (tgt := 65) zhx zhb dX1_isOlderOn_61 (by decide) ?_
    cases zhs
    exact zhret _ _ _ _ dX1_isOlderOn_65 (by rfl) zhw

