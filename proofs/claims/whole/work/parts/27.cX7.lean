-- OffFirst$Evenings.lookAhead in (59, ())
def LEvenings_lookAhead_22_10 (N : Nat) (zx2 : Int32) (zM3 : Mm) : Option ((Int32 × Mm) ⊕ ((Mm))) :=
  (if (zM3 27 7) ≤ zx2 then some (.inr zM3)
  else (sFridge_limitOf zx2 zM3).bind fun zv7 =>
  ltM (putf 10 zM3 61 zx2 zv7) fun zM8 =>
  ltI (zx2 + 1) fun zv9 =>
  some (.inl (zv9, zM8)))
def LEvenings_lookAhead_74_49 (N : Nat) (zv1 : Int32) (zx12 : Int32) (zx34 : Int32) (zx35 : Int32) (zM36 : Mm) : Option ((Int32 × Int32 × Mm) ⊕ ((Int32 × Mm))) :=
  (if (zM36 27 7) ≤ zx35 then some (.inr (zx34, zM36))
  else (sFridge_ageBehind N zx35 (zv1 + (zx12 * 24)) zM36).bind fun zv43 =>
  ltM (putf 200 zM36 60 ((zx12 * 10) + zx35) zv43) fun zM44 =>
  (if zv43 < (atf 10 (zM44 61) zx35) then ltI (zx35 + 1) fun zv46 =>
  some (.inl (zx34, zv46, zM44))
  else ltI (zx34 ||| (1 <<< (zx35 &&& 31))) fun zv47 =>
  ltI (zx35 + 1) fun zv48 =>
  some (.inl (zv47, zv48, zM44))))
def LEvenings_lookAhead_63_54 (N : Nat) (a1 : Int32) (zv1 : Int32) (zx12 : Int32) (zM13 : Mm) : Option ((Int32 × Mm) ⊕ ((Mm))) :=
  (if a1 ≤ zx12 then some (.inr zM13)
  else (itr (fun z : Int32 × Int32 × Mm => LEvenings_lookAhead_74_49 N zv1 zx12 z.1 z.2.1 z.2.2) N (0, 0, zM13)).bind fun (zv50, zM51) =>
  ltM (putf 20 zM51 62 zx12 zv50) fun zM52 =>
  ltI (zx12 + 1) fun zv53 =>
  some (.inl (zv53, zM52)))
def sEvenings_lookAhead (N : Nat) (a1 : Int32) (M : Mm) : Option Mm :=
  ltI (remI (42 - (remI (M 40 6) 24)) 24) fun zv1 =>
  (itr (fun z : Int32 × Mm => LEvenings_lookAhead_22_10 N z.1 z.2) N (0, M)).bind fun zM11 =>
  (itr (fun z : Int32 × Mm => LEvenings_lookAhead_63_54 N a1 zv1 z.1 z.2) N (0, zM11)).bind fun zM55 =>
  some zM55
set_option maxHeartbeats 4000000 in
set_option maxRecDepth 100000 in
theorem cEvenings_lookAhead (l : Launch) (D : va_G) (cI : ClassId) (h : Nat → Nat) (N : Nat) (a1 : Int32) (M : Mm) (M' : Mm) (zhs : sEvenings_lookAhead N a1 M = some M') : CtV l yX1_lookAhead cX1_lookAhead 7 5 D cI (wX h cI M) (wX h cI M') [.ref (h 59), .int a1] := by
  unfold sEvenings_lookAhead at zhs
  refine CtV_of (by decide +kernel) (Nat.le_of_ble_eq_true rfl) ?_
  intro p e s m args below meth c A Q zls zH zlocs C zhw zhl zhret
  have zhx := C.1
  have zhb := C.2.1
  have zhown := C.2.2.2.2.1
  have zhtB := C.2.2.2.2.2.2.1
  have zhl : lv_has zls 7 [(0, .ref (h 59)), (1, .int a1)] := zhl
  refine lv_bipush (v := 42) zhx zhb dX1_lookAhead_0 (by decide) ?_
  refine lv_aload_n zhx zhb dX1_lookAhead_2 rfl (lv_at zhl 0 rfl) ?_
  refine x_get C zhw inlX1 rfl 59 0 (by decide) kw_5_20 rfl (wX_c59 h cI M) rfl dX1_lookAhead_3 ?_
  refine x_getN C zhw inlX3 rfl 58 1 (by decide) (List.mem_of_getElem? (i := 35) rfl) rfl (wX_c58 h cI M) rfl dX1_lookAhead_6 ?_
  refine x_getN C zhw inlX8 rfl 40 6 (by decide) (List.mem_of_getElem? (i := 29) rfl) rfl (wX_c40 h cI M) rfl dX1_lookAhead_9 ?_
  refine lv_bipush (v := 24) zhx zhb dX1_lookAhead_12 (by decide) ?_
  refine lv_irem zhx zhb dX1_lookAhead_14 (by decide) ?_
  refine lv_isub zhx zhb dX1_lookAhead_15 ?_
  refine lv_bipush (v := 24) zhx zhb dX1_lookAhead_16 (by decide) ?_
  refine lv_irem zhx zhb dX1_lookAhead_18 (by decide) ?_
  obtain ⟨zv1, ze9, zhs⟩ := ltI_e zhs
  refine lv_topi (fun zy9 ze8 => ?_)
  obtain rfl : zv1 = zy9 := ze9.trans ze8.symm
  clear ze9 ze8
  refine lv_istore_n (lv' := [(2, .int zv1), (0, .ref (h 59)), (1, .int a1)]) zhx zhb dX1_lookAhead_19 rfl zhl (by decide) rfl (fun zls zhl => ?_)
  refine lv_iconst (v := 0) zhx zhb dX1_lookAhead_20 (by decide) ?_
  refine lv_istore_n (lv' := [(3, .int 0), (2, .int zv1), (0, .ref (h 59)), (1, .int a1)]) zhx zhb dX1_lookAhead_21 rfl zhl (by decide) rfl (fun zls zhl => ?_)
  obtain ⟨zq10, zhq10, zhs⟩ := bnd_e zhs
  have hloop10 : ∀ (zn : Nat) (zx2 : Int32) (zM3 : Mm) (zq : (Mm)), itr (fun z : Int32 × Mm => LEvenings_lookAhead_22_10 N z.1 z.2) zn (zx2, zM3) = some zq → (∀ (zy1 : Mm), zy1 = zq → ∀ (zH : Heap) (zlocs : List Loc) (zls : Array Slot), lv_has zls 7 [(2, .int zv1), (0, .ref (h 59)), (1, .int a1)] → Hw D (wX h cI zy1) A s.heap zH zlocs → W p l e (RM 5) s m args below meth c zH zlocs 0 0 Q (F0 m 61 zls [])) → ∀ (zH : Heap) (zlocs : List Loc) (zls : Array Slot), lv_has zls 7 [(3, .int zx2), (2, .int zv1), (0, .ref (h 59)), (1, .int a1)] → Hw D (wX h cI zM3) A s.heap zH zlocs → W p l e (RM 5) s m args below meth c zH zlocs 0 0 Q (F0 m 22 zls []) := by
    intro zn
    induction zn with
    | zero => intro zx2 zM3 zq zhq; exact absurd zhq (fun h9 => itr_0 h9)
    | succ zn zih =>
        intro zx2 zM3 zq zhq k22_61 zH zlocs zls zhl zhw
        obtain ⟨zy9, zhs, zhq⟩ := itr_s zhq
        replace zhs : LEvenings_lookAhead_22_10 N zx2 zM3 = some zy9 := zhs
        unfold LEvenings_lookAhead_22_10 at zhs
        refine lv_iload_n zhx zhb dX1_lookAhead_22 rfl (lv_at zhl 0 rfl) ?_
        refine lv_aload_n zhx zhb dX1_lookAhead_23 rfl (lv_at zhl 2 rfl) ?_
        refine x_get C zhw inlX1 rfl 59 0 (by decide) kw_5_20 rfl (wX_c59 h cI zM3) rfl dX1_lookAhead_24 ?_
        refine x_getN C zhw inlX3 rfl 58 0 (by decide) (List.mem_of_getElem? (i := 33) rfl) rfl (wX_c58 h cI zM3) rfl dX1_lookAhead_27 ?_
        refine x_getN C zhw inlX10 rfl 22 1 (by decide) (List.mem_of_getElem? (i := 21) rfl) rfl (wX_c22 h cI zM3) rfl dX1_lookAhead_30 ?_
        refine x_getN C zhw inlX2 rfl 27 7 (by decide) (List.mem_of_getElem? (i := 9) rfl) rfl (wX_c27 h cI zM3) rfl dX1_lookAhead_33 ?_
        refine lv_icmp_ge (tgt := 61) zhx zhb dX1_lookAhead_36 (by decide) (fun zc9 => ?_) (fun zc9 => ?_)
        · replace zhs := br_T zhs zc9
          cases zhs
          exact k22_61 zM3 (itk_q zhq) zH zlocs zls (lv_sub zhl [1, 2, 3] rfl) zhw
        · replace zhs := br_F zhs zc9
          refine lv_aload_n zhx zhb dX1_lookAhead_39 rfl (lv_at zhl 2 rfl) ?_
          refine x_get C zhw inlX1 rfl 59 2 (by decide) kw_5_18 rfl (wX_c59 h cI zM3) rfl dX1_lookAhead_40 ?_
          refine lv_iload_n zhx zhb dX1_lookAhead_43 rfl (lv_at zhl 0 rfl) ?_
          refine lv_aload_n zhx zhb dX1_lookAhead_44 rfl (lv_at zhl 2 rfl) ?_
          refine x_get C zhw inlX1 rfl 59 0 (by decide) kw_5_20 rfl (wX_c59 h cI zM3) rfl dX1_lookAhead_45 ?_
          refine lv_iload_n zhx zhb dX1_lookAhead_48 rfl (lv_at zhl 0 rfl) ?_
          obtain ⟨zv7, zhp, zhs⟩ := bnd_e zhs
          refine x_cVI (As := [.int zx2]) (rest := [.int zx2, .ref (h 61)]) C zhw zhl (cFridge_limitOf l D cI h zx2 zM3 zv7 zhp) (by decide) (by decide) kw_29_12 kw_18_20 kw_18_21 kw_2_6 kw_18_22 md_X3_limitOf rfl 58 (wX_c58 h cI zM3) rfl rfl rfl rfl (Nat.le_of_ble_eq_true rfl) dX1_lookAhead_49 (fun zH zlocs zhw hn9 => ?_)
          refine x_cSNV (As := [.ref (h 61), .int zx2, .int zv7]) (rest := []) C zhw zhl (c_put l D cI (wX h cI) zM3 61 10 (h 61) (wX_c61 h cI zM3) (fun j v => wX_a61 h cI zM3 j v) (by decide) zx2 zv7) (by decide) (by decide) (List.mem_of_getElem? (i := 19) rfl) kw_7_0 kw_1_2 kw_7_1 md_X11_put rfl rfl (Nat.le_of_ble_eq_true rfl) dX1_lookAhead_52 (fun zH zlocs zhw => ?_)
          obtain ⟨zM8, ze9, zhs⟩ := ltM_e zhs
          rw [← ze9] at zhw; clear ze9
          obtain ⟨zv9, ze9, zhs⟩ := ltI_e zhs
          refine lv_iinc (v := zv9) (lv' := [(3, .int zv9), (2, .int zv1), (0, .ref (h 59)), (1, .int a1)]) zhx zhb dX1_lookAhead_55 zhl (k := 0) rfl (by rw [ze9]; rfl) (by decide) rfl (fun zls zhl => ?_)
          clear ze9
          refine lv_goto (tgt := 22) zhx zhb dX1_lookAhead_58 (by decide) ?_
          cases zhs
          exact zih zv9 zM8 zq (itk_l zhq) k22_61 zH zlocs zls zhl zhw
  refine hloop10 N 0 M zq10 zhq10 (fun zM11 zhqe zH zlocs zls zhl zhw => ?_) zH zlocs zls zhl zhw
  · subst zhqe
    refine lv_iconst (v := 0) zhx zhb dX1_lookAhead_61 (by decide) ?_
    refine lv_istore_n (lv' := [(3, .int 0), (2, .int zv1), (0, .ref (h 59)), (1, .int a1)]) zhx zhb dX1_lookAhead_62 rfl zhl (by decide) rfl (fun zls zhl => ?_)
    obtain ⟨zq54, zhq54, zhs⟩ := bnd_e zhs
    have hloop54 : ∀ (zn : Nat) (zx12 : Int32) (zM13 : Mm) (zq : (Mm)), itr (fun z : Int32 × Mm => LEvenings_lookAhead_63_54 N a1 zv1 z.1 z.2) zn (zx12, zM13) = some zq → (∀ (zy1 : Mm), zy1 = zq → ∀ (zH : Heap) (zlocs : List Loc) (zls : Array Slot), lv_has zls 7 [] → Hw D (wX h cI zy1) A s.heap zH zlocs → W p l e (RM 5) s m args below meth c zH zlocs 0 0 Q (F0 m 170 zls [])) → ∀ (zH : Heap) (zlocs : List Loc) (zls : Array Slot), lv_has zls 7 [(3, .int zx12), (2, .int zv1), (0, .ref (h 59)), (1, .int a1)] → Hw D (wX h cI zM13) A s.heap zH zlocs → W p l e (RM 5) s m args below meth c zH zlocs 0 0 Q (F0 m 63 zls []) := by
      intro zn
      induction zn with
      | zero => intro zx12 zM13 zq zhq; exact absurd zhq (fun h9 => itr_0 h9)
      | succ zn zih =>
          intro zx12 zM13 zq zhq k63_170 zH zlocs zls zhl zhw
          obtain ⟨zy9, zhs, zhq⟩ := itr_s zhq
          replace zhs : LEvenings_lookAhead_63_54 N a1 zv1 zx12 zM13 = some zy9 := zhs
          unfold LEvenings_lookAhead_63_54 at zhs
          refine lv_iload_n zhx zhb dX1_lookAhead_63 rfl (lv_at zhl 0 rfl) ?_
          refine lv_iload_n zhx zhb dX1_lookAhead_64 rfl (lv_at zhl 3 rfl) ?_
          refine lv_icmp_ge (tgt := 170) zhx zhb dX1_lookAhead_65 (by decide) (fun zc9 => ?_) (fun zc9 => ?_)
          · replace zhs := br_T zhs zc9
            cases zhs
            exact k63_170 zM13 (itk_q zhq) zH zlocs zls (lv_sub zhl [] rfl) zhw
          · replace zhs := br_F zhs zc9
            refine lv_iconst (v := 0) zhx zhb dX1_lookAhead_68 (by decide) ?_
            refine lv_istore (lv' := [(4, .int 0), (3, .int zx12), (2, .int zv1), (0, .ref (h 59)), (1, .int a1)]) zhx zhb dX1_lookAhead_69 zhl (by decide) rfl (fun zls zhl => ?_)
            refine lv_iconst (v := 0) zhx zhb dX1_lookAhead_71 (by decide) ?_
            refine lv_istore (lv' := [(5, .int 0), (4, .int 0), (3, .int zx12), (2, .int zv1), (0, .ref (h 59)), (1, .int a1)]) zhx zhb dX1_lookAhead_72 zhl (by decide) rfl (fun zls zhl => ?_)
            obtain ⟨zq49, zhq49, zhs⟩ := bnd_e zhs
            have hloop49 : ∀ (zn : Nat) (zx34 : Int32) (zx35 : Int32) (zM36 : Mm) (zq : (Int32 × Mm)), itr (fun z : Int32 × Int32 × Mm => LEvenings_lookAhead_74_49 N zv1 zx12 z.1 z.2.1 z.2.2) zn (zx34, zx35, zM36) = some zq → (∀ (zy1 : Int32) (zy2 : Mm), (zy1, zy2) = zq → ∀ (zH : Heap) (zlocs : List Loc) (zls : Array Slot), lv_has zls 7 [(4, .int zy1), (3, .int zx12), (2, .int zv1), (0, .ref (h 59)), (1, .int a1)] → Hw D (wX h cI zy2) A s.heap zH zlocs → W p l e (RM 5) s m args below meth c zH zlocs 0 0 Q (F0 m 154 zls [])) → ∀ (zH : Heap) (zlocs : List Loc) (zls : Array Slot), lv_has zls 7 [(5, .int zx35), (4, .int zx34), (3, .int zx12), (2, .int zv1), (0, .ref (h 59)), (1, .int a1)] → Hw D (wX h cI zM36) A s.heap zH zlocs → W p l e (RM 5) s m args below meth c zH zlocs 0 0 Q (F0 m 74 zls []) := by
              intro zn
              induction zn with
              | zero => intro zx34 zx35 zM36 zq zhq; exact absurd zhq (fun h9 => itr_0 h9)
              | succ zn zih =>
                  intro zx34 zx35 zM36 zq zhq k74_154 zH zlocs zls zhl zhw
                  obtain ⟨zy9, zhs, zhq⟩ := itr_s zhq
                  replace zhs : LEvenings_lookAhead_74_49 N zv1 zx12 zx34 zx35 zM36 = some zy9 := zhs
                  unfold LEvenings_lookAhead_74_49 at zhs
                  refine lv_iload zhx zhb dX1_lookAhead_74 (lv_at zhl 0 rfl) ?_
                  refine lv_aload_n zhx zhb dX1_lookAhead_76 rfl (lv_at zhl 4 rfl) ?_
                  refine x_get C zhw inlX1 rfl 59 0 (by decide) kw_5_20 rfl (wX_c59 h cI zM36) rfl dX1_lookAhead_77 ?_
                  refine x_getN C zhw inlX3 rfl 58 0 (by decide) (List.mem_of_getElem? (i := 33) rfl) rfl (wX_c58 h cI zM36) rfl dX1_lookAhead_80 ?_
                  refine x_getN C zhw inlX10 rfl 22 1 (by decide) (List.mem_of_getElem? (i := 21) rfl) rfl (wX_c22 h cI zM36) rfl dX1_lookAhead_83 ?_
                  refine x_getN C zhw inlX2 rfl 27 7 (by decide) (List.mem_of_getElem? (i := 9) rfl) rfl (wX_c27 h cI zM36) rfl dX1_lookAhead_86 ?_
                  refine lv_icmp_ge (tgt := 154) zhx zhb dX1_lookAhead_89 (by decide) (fun zc9 => ?_) (fun zc9 => ?_)
                  · replace zhs := br_T zhs zc9
                    cases zhs
                    exact k74_154 zx34 zM36 (itk_q zhq) zH zlocs zls (lv_sub zhl [1, 2, 3, 4, 5] rfl) zhw
                  · replace zhs := br_F zhs zc9
                    refine lv_aload_n zhx zhb dX1_lookAhead_92 rfl (lv_at zhl 4 rfl) ?_
                    refine x_get C zhw inlX1 rfl 59 0 (by decide) kw_5_20 rfl (wX_c59 h cI zM36) rfl dX1_lookAhead_93 ?_
                    refine lv_iload zhx zhb dX1_lookAhead_96 (lv_at zhl 0 rfl) ?_
                    refine lv_iload_n zhx zhb dX1_lookAhead_98 rfl (lv_at zhl 3 rfl) ?_
                    refine lv_iload_n zhx zhb dX1_lookAhead_99 rfl (lv_at zhl 2 rfl) ?_
                    refine lv_bipush (v := 24) zhx zhb dX1_lookAhead_100 (by decide) ?_
                    refine lv_imul zhx zhb dX1_lookAhead_102 ?_
                    refine lv_iadd zhx zhb dX1_lookAhead_103 ?_
                    obtain ⟨zv43, zhp, zhs⟩ := bnd_e zhs
                    refine x_cVI (As := [.int zx35, .int (zv1 + (zx12 * 24))]) (rest := []) C zhw zhl (cFridge_ageBehind l D cI h N zx35 (zv1 + (zx12 * 24)) zM36 zv43 zhp) (by decide) (by decide) kw_29_13 kw_22_6 kw_22_7 kw_2_6 kw_22_8 md_X3_ageBehind rfl 58 (wX_c58 h cI zM36) rfl rfl rfl rfl (Nat.le_of_ble_eq_true rfl) dX1_lookAhead_104 (fun zH zlocs zhw hn9 => ?_)
                    refine lv_istore (lv' := [(6, .int zv43), (5, .int zx35), (4, .int zx34), (3, .int zx12), (2, .int zv1), (0, .ref (h 59)), (1, .int a1)]) zhx zhb dX1_lookAhead_107 zhl (by decide) rfl (fun zls zhl => ?_)
                    refine lv_aload_n zhx zhb dX1_lookAhead_109 rfl (lv_at zhl 5 rfl) ?_
                    refine x_get C zhw inlX1 rfl 59 1 (by decide) kw_5_17 rfl (wX_c59 h cI zM36) rfl dX1_lookAhead_110 ?_
                    refine lv_iload_n zhx zhb dX1_lookAhead_113 rfl (lv_at zhl 3 rfl) ?_
                    refine lv_bipush (v := 10) zhx zhb dX1_lookAhead_114 (by decide) ?_
                    refine lv_imul zhx zhb dX1_lookAhead_116 ?_
                    refine lv_iload zhx zhb dX1_lookAhead_117 (lv_at zhl 1 rfl) ?_
                    refine lv_iadd zhx zhb dX1_lookAhead_119 ?_
                    refine lv_iload zhx zhb dX1_lookAhead_120 (lv_at zhl 0 rfl) ?_
                    refine x_cSNV (As := [.ref (h 60), .int ((zx12 * 10) + zx35), .int zv43]) (rest := []) C zhw zhl (c_put l D cI (wX h cI) zM36 60 200 (h 60) (wX_c60 h cI zM36) (fun j v => wX_a60 h cI zM36 j v) (by decide) ((zx12 * 10) + zx35) zv43) (by decide) (by decide) (List.mem_of_getElem? (i := 19) rfl) kw_7_0 kw_1_2 kw_7_1 md_X11_put rfl rfl (Nat.le_of_ble_eq_true rfl) dX1_lookAhead_122 (fun zH zlocs zhw => ?_)
                    obtain ⟨zM44, ze9, zhs⟩ := ltM_e zhs
                    rw [← ze9] at zhw; clear ze9
                    refine lv_iload zhx zhb dX1_lookAhead_125 (lv_at zhl 0 rfl) ?_
                    refine lv_aload_n zhx zhb dX1_lookAhead_127 rfl (lv_at zhl 5 rfl) ?_
                    refine x_get C zhw inlX1 rfl 59 2 (by decide) kw_5_18 rfl (wX_c59 h cI zM44) rfl dX1_lookAhead_128 ?_
                    refine lv_iload zhx zhb dX1_lookAhead_131 (lv_at zhl 1 rfl) ?_
                    refine x_cSNI (As := [.ref (h 61), .int zx35]) (rest := [.int zv43]) C zhw zhl (c_at l D cI (wX h cI zM44) 61 10 (h 61) (zM44 61) (wX_c61 h cI zM44) (by decide) zx35) (by decide) (by decide) (List.mem_of_getElem? (i := 20) rfl) kw_7_7 kw_1_2 kw_7_8 md_X11_at rfl rfl (Nat.le_of_ble_eq_true rfl) dX1_lookAhead_133 (fun zH zlocs zhw hn9 => ?_)
                    refine lv_icmp_lt (tgt := 148) zhx zhb dX1_lookAhead_136 (by decide) (fun zc9 => ?_) (fun zc9 => ?_)
                    · replace zhs := br_T zhs zc9
                      obtain ⟨zv46, ze9, zhs⟩ := ltI_e zhs
                      refine lv_iinc (v := zv46) (lv' := [(5, .int zv46), (6, .int zv43), (4, .int zx34), (3, .int zx12), (2, .int zv1), (0, .ref (h 59)), (1, .int a1)]) zhx zhb dX1_lookAhead_148 zhl (k := 1) rfl (by rw [ze9]; rfl) (by decide) rfl (fun zls zhl => ?_)
                      clear ze9
                      refine lv_goto (tgt := 74) zhx zhb dX1_lookAhead_151 (by decide) ?_
                      cases zhs
                      exact zih zx34 zv46 zM44 zq (itk_l zhq) k74_154 zH zlocs zls (lv_sub zhl [0, 2, 3, 4, 5, 6] rfl) zhw
                    · replace zhs := br_F zhs zc9
                      refine lv_iload zhx zhb dX1_lookAhead_139 (lv_at zhl 2 rfl) ?_
                      refine lv_iconst (v := 1) zhx zhb dX1_lookAhead_141 (by decide) ?_
                      refine lv_iload zhx zhb dX1_lookAhead_142 (lv_at zhl 1 rfl) ?_
                      refine lv_ishl zhx zhb dX1_lookAhead_144 ?_
                      refine lv_ior zhx zhb dX1_lookAhead_145 ?_
                      obtain ⟨zv47, ze9, zhs⟩ := ltI_e zhs
                      refine lv_topi (fun zy9 ze8 => ?_)
                      obtain rfl : zv47 = zy9 := ze9.trans ze8.symm
                      clear ze9 ze8
                      refine lv_istore (lv' := [(4, .int zv47), (6, .int zv43), (5, .int zx35), (3, .int zx12), (2, .int zv1), (0, .ref (h 59)), (1, .int a1)]) zhx zhb dX1_lookAhead_146 zhl (by decide) rfl (fun zls zhl => ?_)
                      obtain ⟨zv48, ze9, zhs⟩ := ltI_e zhs
                      refine lv_iinc (v := zv48) (lv' := [(5, .int zv48), (4, .int zv47), (6, .int zv43), (3, .int zx12), (2, .int zv1), (0, .ref (h 59)), (1, .int a1)]) zhx zhb dX1_lookAhead_148 zhl (k := 2) rfl (by rw [ze9]; rfl) (by decide) rfl (fun zls zhl => ?_)
                      clear ze9
                      refine lv_goto (tgt := 74) zhx zhb dX1_lookAhead_151 (by decide) ?_
                      cases zhs
                      exact zih zv47 zv48 zM44 zq (itk_l zhq) k74_154 zH zlocs zls (lv_sub zhl [0, 1, 3, 4, 5, 6] rfl) zhw
            refine hloop49 N 0 0 zM13 zq49 zhq49 (fun zv50 zM51 zhqe zH zlocs zls zhl zhw => ?_) zH zlocs zls zhl zhw
            · subst zhqe
              try dsimp only at zhs
              refine lv_aload_n zhx zhb dX1_lookAhead_154 rfl (lv_at zhl 3 rfl) ?_
              refine x_get C zhw inlX1 rfl 59 3 (by decide) kw_5_19 rfl (wX_c59 h cI zM51) rfl dX1_lookAhead_155 ?_
              refine lv_iload_n zhx zhb dX1_lookAhead_158 rfl (lv_at zhl 1 rfl) ?_
              refine lv_iload zhx zhb dX1_lookAhead_159 (lv_at zhl 0 rfl) ?_
              refine x_cSNV (As := [.ref (h 62), .int zx12, .int zv50]) (rest := []) C zhw zhl (c_put l D cI (wX h cI) zM51 62 20 (h 62) (wX_c62 h cI zM51) (fun j v => wX_a62 h cI zM51 j v) (by decide) zx12 zv50) (by decide) (by decide) (List.mem_of_getElem? (i := 19) rfl) kw_7_0 kw_1_2 kw_7_1 md_X11_put rfl rfl (Nat.le_of_ble_eq_true rfl) dX1_lookAhead_161 (fun zH zlocs zhw => ?_)
              obtain ⟨zM52, ze9, zhs⟩ := ltM_e zhs
              rw [← ze9] at zhw; clear ze9
              obtain ⟨zv53, ze9, zhs⟩ := ltI_e zhs
              refine lv_iinc (v := zv53) (lv' := [(3, .int zv53), (4, .int zv50), (2, .int zv1), (0, .ref (h 59)), (1, .int a1)]) zhx zhb dX1_lookAhead_164 zhl (k := 1) rfl (by rw [ze9]; rfl) (by decide) rfl (fun zls zhl => ?_)
              clear ze9
              refine lv_goto (tgt := 63) zhx zhb dX1_lookAhead_167 (by decide) ?_
              cases zhs
              exact zih zv53 zM52 zq (itk_l zhq) k63_170 zH zlocs zls (lv_sub zhl [0, 2, 3, 4] rfl) zhw
    refine hloop54 N 0 zM11 zq54 zhq54 (fun zM55 zhqe zH zlocs zls zhl zhw => ?_) zH zlocs zls zhl zhw
    · subst zhqe
      cases zhs
      exact zhret _ _ _ _ dX1_lookAhead_170 zhw

-- OffFirst$Stock.bitsThere in (40, ())
def LStock_bitsThere_4_13 (N : Nat) (M : Mm) (zx1 : Int32) (zx2 : Int32) : Option ((Int32 × Int32) ⊕ ((Int32))) :=
  (if (M 40 5) ≤ zx2 then some (.inr zx1)
  else (sStock_isThere zx2 M).bind fun zv8 =>
  (if zv8 = 0 then ltI (zx2 + 1) fun zv10 =>
  some (.inl (zx1, zv10))
  else ltI (zx1 ||| (1 <<< (zx2 &&& 31))) fun zv11 =>
  ltI (zx2 + 1) fun zv12 =>
  some (.inl (zv11, zv12))))
def sStock_bitsThere (N : Nat) (M : Mm) : Option Int32 :=
  (itr (fun z : Int32 × Int32 => LStock_bitsThere_4_13 N M z.1 z.2) N (0, 0)).bind fun zv14 =>
  some zv14
set_option maxHeartbeats 4000000 in
set_option maxRecDepth 100000 in
theorem cStock_bitsThere (l : Launch) (D : va_G) (cI : ClassId) (h : Nat → Nat) (N : Nat) (M : Mm) (r : Int32) (zhs : sStock_bitsThere N M = some r) : CtI l yX8_bitsThere cX8_bitsThere 3 (some .int) 3 D cI (wX h cI M) (wX h cI M) [.ref (h 40)] r := by
  unfold sStock_bitsThere at zhs
  refine CtI_of (by decide +kernel) (Nat.le_of_ble_eq_true rfl) ⟨_, rfl⟩ ?_
  intro p e s m args below meth c A Q zls zH zlocs C zhw zhl zhret
  have zhx := C.1
  have zhb := C.2.1
  have zhown := C.2.2.2.2.1
  have zhtB := C.2.2.2.2.2.2.1
  have zhl : lv_has zls 3 [(0, .ref (h 40))] := zhl
  refine lv_iconst (v := 0) zhx zhb dX8_bitsThere_0 (by decide) ?_
  refine lv_istore_n (lv' := [(1, .int 0), (0, .ref (h 40))]) zhx zhb dX8_bitsThere_1 rfl zhl (by decide) rfl (fun zls zhl => ?_)
  refine lv_iconst (v := 0) zhx zhb dX8_bitsThere_2 (by decide) ?_
  refine lv_istore_n (lv' := [(2, .int 0), (1, .int 0), (0, .ref (h 40))]) zhx zhb dX8_bitsThere_3 rfl zhl (by decide) rfl (fun zls zhl => ?_)
  obtain ⟨zq13, zhq13, zhs⟩ := bnd_e zhs
  have hloop13 : ∀ (zn : Nat) (zx1 : Int32) (zx2 : Int32) (zq : (Int32)), itr (fun z : Int32 × Int32 => LStock_bitsThere_4_13 N M z.1 z.2) zn (zx1, zx2) = some zq → (∀ (zy1 : Int32), zy1 = zq → ∀ (zH : Heap) (zlocs : List Loc) (zls : Array Slot), lv_has zls 3 [(1, .int zy1)] → Hw D (wX h cI M) A s.heap zH zlocs → W p l e (RM 3) s m args below meth c zH zlocs 0 0 Q (F0 m 32 zls [])) → ∀ (zH : Heap) (zlocs : List Loc) (zls : Array Slot), lv_has zls 3 [(2, .int zx2), (1, .int zx1), (0, .ref (h 40))] → Hw D (wX h cI M) A s.heap zH zlocs → W p l e (RM 3) s m args below meth c zH zlocs 0 0 Q (F0 m 4 zls []) := by
    intro zn
    induction zn with
    | zero => intro zx1 zx2 zq zhq; exact absurd zhq (fun h9 => itr_0 h9)
    | succ zn zih =>
        intro zx1 zx2 zq zhq k4_32 zH zlocs zls zhl zhw
        obtain ⟨zy9, zhs, zhq⟩ := itr_s zhq
        replace zhs : LStock_bitsThere_4_13 N M zx1 zx2 = some zy9 := zhs
        unfold LStock_bitsThere_4_13 at zhs
        refine lv_iload_n zhx zhb dX8_bitsThere_4 rfl (lv_at zhl 0 rfl) ?_
        refine lv_aload_n zhx zhb dX8_bitsThere_5 rfl (lv_at zhl 2 rfl) ?_
        refine x_get C zhw inlX8 rfl 40 5 (by decide) kw_7_13 rfl (wX_c40 h cI M) rfl dX8_bitsThere_6 ?_
        refine lv_icmp_ge (tgt := 32) zhx zhb dX8_bitsThere_9 (by decide) (fun zc9 => ?_) (fun zc9 => ?_)
        · replace zhs := br_T zhs zc9
          cases zhs
          exact k4_32 zx1 (itk_q zhq) zH zlocs zls (lv_sub zhl [1] rfl) zhw
        · replace zhs := br_F zhs zc9
          refine lv_aload_n zhx zhb dX8_bitsThere_12 rfl (lv_at zhl 2 rfl) ?_
          refine lv_iload_n zhx zhb dX8_bitsThere_13 rfl (lv_at zhl 0 rfl) ?_
          obtain ⟨zv8, zhp, zhs⟩ := bnd_e zhs
          refine x_cVI (As := [.int zx2]) (rest := []) C zhw zhl (cStock_isThere l D cI h zx2 M zv8 zhp) (by decide) (by decide) kw_24_11 kw_22_2 kw_22_3 kw_2_0 kw_22_4 md_X8_isThere rfl 40 (wX_c40 h cI M) rfl rfl rfl rfl (Nat.le_of_ble_eq_true rfl) dX8_bitsThere_14 (fun zH zlocs zhw hzv8 => ?_)
          refine lv_if_eq (tgt := 26) zhx zhb dX8_bitsThere_17 (by decide) (fun zc9 => ?_) (fun zc9 => ?_)
          · replace zhs := br_T zhs zc9
            obtain ⟨zv10, ze9, zhs⟩ := ltI_e zhs
            refine lv_iinc (v := zv10) (lv' := [(2, .int zv10), (1, .int zx1), (0, .ref (h 40))]) zhx zhb dX8_bitsThere_26 zhl (k := 0) rfl (by rw [ze9]; rfl) (by decide) rfl (fun zls zhl => ?_)
            clear ze9
            refine lv_goto (tgt := 4) zhx zhb dX8_bitsThere_29 (by decide) ?_
            cases zhs
            exact zih zx1 zv10 zq (itk_l zhq) k4_32 zH zlocs zls zhl zhw
          · replace zhs := br_F zhs zc9
            refine lv_iload_n zhx zhb dX8_bitsThere_20 rfl (lv_at zhl 1 rfl) ?_
            refine lv_iconst (v := 1) zhx zhb dX8_bitsThere_21 (by decide) ?_
            refine lv_iload_n zhx zhb dX8_bitsThere_22 rfl (lv_at zhl 0 rfl) ?_
            refine lv_ishl zhx zhb dX8_bitsThere_23 ?_
            refine lv_ior zhx zhb dX8_bitsThere_24 ?_
            obtain ⟨zv11, ze9, zhs⟩ := ltI_e zhs
            refine lv_topi (fun zy9 ze8 => ?_)
            obtain rfl : zv11 = zy9 := ze9.trans ze8.symm
            clear ze9 ze8
            refine lv_istore_n (lv' := [(1, .int zv11), (2, .int zx2), (0, .ref (h 40))]) zhx zhb dX8_bitsThere_25 rfl zhl (by decide) rfl (fun zls zhl => ?_)
            obtain ⟨zv12, ze9, zhs⟩ := ltI_e zhs
            refine lv_iinc (v := zv12) (lv' := [(2, .int zv12), (1, .int zv11), (0, .ref (h 40))]) zhx zhb dX8_bitsThere_26 zhl (k := 1) rfl (by rw [ze9]; rfl) (by decide) rfl (fun zls zhl => ?_)
            clear ze9
            refine lv_goto (tgt := 4) zhx zhb dX8_bitsThere_29 (by decide) ?_
            cases zhs
            exact zih zv11 zv12 zq (itk_l zhq) k4_32 zH zlocs zls zhl zhw
  refine hloop13 N 0 0 zq13 zhq13 (fun zv14 zhqe zH zlocs zls zhl zhw => ?_) zH zlocs zls zhl zhw
  · subst zhqe
    refine lv_iload_n zhx zhb dX8_bitsThere_32 rfl (lv_at zhl 0 rfl) ?_
    cases zhs
    exact zhret _ _ _ _ dX8_bitsThere_33 (by rfl) zhw

-- OffFirst$Told.hungryWith in (22, ())
def LTold_hungryWith_l_4_19 (N : Nat) (a1 : Int32) (M : Mm) (zx1 : Int32) (zx2 : Int32) : Option ((Int32 × Int32) ⊕ ((Int32))) :=
  (if (M 22 5) ≤ zx2 then some (.inr zx1)
  else (if a1 = 0 then ltI (zx1 + 1) fun zv13 =>
  ltI (zx2 + 1) fun zv14 =>
  some (.inl (zv13, zv14))
  else (if ((atf 4 (M 36) zx2) &&& a1) = 0 then ltI (zx2 + 1) fun zv16 =>
  some (.inl (zx1, zv16))
  else ltI (zx1 + 1) fun zv17 =>
  ltI (zx2 + 1) fun zv18 =>
  some (.inl (zv17, zv18)))))
def sTold_hungryWith_l (N : Nat) (a1 : Int32) (M : Mm) : Option Int32 :=
  (itr (fun z : Int32 × Int32 => LTold_hungryWith_l_4_19 N a1 M z.1 z.2) N (0, 0)).bind fun zv20 =>
  some zv20
set_option maxHeartbeats 4000000 in
set_option maxRecDepth 100000 in
theorem cTold_hungryWith_l (l : Launch) (D : va_G) (cI : ClassId) (h : Nat → Nat) (N : Nat) (a1 : Int32) (M : Mm) (r : Int32) (zhs : sTold_hungryWith_l N a1 M = some r) : CtI l yX10_hungryWith cX10_hungryWith 4 (some .int) 2 D cI (wX h cI M) (wX h cI M) [.ref (h 22), .int a1] r := by
  unfold sTold_hungryWith_l at zhs
  refine CtI_of (by decide +kernel) (Nat.le_of_ble_eq_true rfl) ⟨_, rfl⟩ ?_
  intro p e s m args below meth c A Q zls zH zlocs C zhw zhl zhret
  have zhx := C.1
  have zhb := C.2.1
  have zhown := C.2.2.2.2.1
  have zhtB := C.2.2.2.2.2.2.1
  have zhl : lv_has zls 4 [(0, .ref (h 22)), (1, .int a1)] := zhl
  refine lv_iconst (v := 0) zhx zhb dX10_hungryWith_0 (by decide) ?_
  refine lv_istore_n (lv' := [(2, .int 0), (0, .ref (h 22)), (1, .int a1)]) zhx zhb dX10_hungryWith_1 rfl zhl (by decide) rfl (fun zls zhl => ?_)
  refine lv_iconst (v := 0) zhx zhb dX10_hungryWith_2 (by decide) ?_
  refine lv_istore_n (lv' := [(3, .int 0), (2, .int 0), (0, .ref (h 22)), (1, .int a1)]) zhx zhb dX10_hungryWith_3 rfl zhl (by decide) rfl (fun zls zhl => ?_)
  obtain ⟨zq19, zhq19, zhs⟩ := bnd_e zhs
  have hloop19 : ∀ (zn : Nat) (zx1 : Int32) (zx2 : Int32) (zq : (Int32)), itr (fun z : Int32 × Int32 => LTold_hungryWith_l_4_19 N a1 M z.1 z.2) zn (zx1, zx2) = some zq → (∀ (zy1 : Int32), zy1 = zq → ∀ (zH : Heap) (zlocs : List Loc) (zls : Array Slot), lv_has zls 4 [(2, .int zy1)] → Hw D (wX h cI M) A s.heap zH zlocs → W p l e (RM 2) s m args below meth c zH zlocs 0 0 Q (F0 m 38 zls [])) → ∀ (zH : Heap) (zlocs : List Loc) (zls : Array Slot), lv_has zls 4 [(3, .int zx2), (2, .int zx1), (0, .ref (h 22)), (1, .int a1)] → Hw D (wX h cI M) A s.heap zH zlocs → W p l e (RM 2) s m args below meth c zH zlocs 0 0 Q (F0 m 4 zls []) := by
    intro zn
    induction zn with
    | zero => intro zx1 zx2 zq zhq; exact absurd zhq (fun h9 => itr_0 h9)
    | succ zn zih =>
        intro zx1 zx2 zq zhq k4_38 zH zlocs zls zhl zhw
        obtain ⟨zy9, zhs, zhq⟩ := itr_s zhq
        replace zhs : LTold_hungryWith_l_4_19 N a1 M zx1 zx2 = some zy9 := zhs
        unfold LTold_hungryWith_l_4_19 at zhs
        refine lv_iload_n zhx zhb dX10_hungryWith_4 rfl (lv_at zhl 0 rfl) ?_
        refine lv_aload_n zhx zhb dX10_hungryWith_5 rfl (lv_at zhl 2 rfl) ?_
        refine x_get C zhw inlX10 rfl 22 5 (by decide) kw_11_14 rfl (wX_c22 h cI M) rfl dX10_hungryWith_6 ?_
        refine lv_icmp_ge (tgt := 38) zhx zhb dX10_hungryWith_9 (by decide) (fun zc9 => ?_) (fun zc9 => ?_)
        · replace zhs := br_T zhs zc9
          cases zhs
          exact k4_38 zx1 (itk_q zhq) zH zlocs zls (lv_sub zhl [1] rfl) zhw
        · replace zhs := br_F zhs zc9
          refine lv_iload_n zhx zhb dX10_hungryWith_12 rfl (lv_at zhl 3 rfl) ?_
          refine lv_if_eq (tgt := 29) zhx zhb dX10_hungryWith_13 (by decide) (fun zc9 => ?_) (fun zc9 => ?_)
          · replace zhs := br_T zhs zc9
            obtain ⟨zv13, ze9, zhs⟩ := ltI_e zhs
            refine lv_iinc (v := zv13) (lv' := [(2, .int zv13), (3, .int zx2), (0, .ref (h 22)), (1, .int a1)]) zhx zhb dX10_hungryWith_29 zhl (k := 1) rfl (by rw [ze9]; rfl) (by decide) rfl (fun zls zhl => ?_)
            clear ze9
            obtain ⟨zv14, ze9, zhs⟩ := ltI_e zhs
            refine lv_iinc (v := zv14) (lv' := [(3, .int zv14), (2, .int zv13), (0, .ref (h 22)), (1, .int a1)]) zhx zhb dX10_hungryWith_32 zhl (k := 1) rfl (by rw [ze9]; rfl) (by decide) rfl (fun zls zhl => ?_)
            clear ze9
            refine lv_goto (tgt := 4) zhx zhb dX10_hungryWith_35 (by decide) ?_
            cases zhs
            exact zih zv13 zv14 zq (itk_l zhq) k4_38 zH zlocs zls zhl zhw
          · replace zhs := br_F zhs zc9
            refine lv_aload_n zhx zhb dX10_hungryWith_16 rfl (lv_at zhl 2 rfl) ?_
            refine x_get C zhw inlX10 rfl 22 4 (by decide) kw_3_18 rfl (wX_c22 h cI M) rfl dX10_hungryWith_17 ?_
            refine lv_iload_n zhx zhb dX10_hungryWith_20 rfl (lv_at zhl 0 rfl) ?_
            refine x_cSNI (As := [.ref (h 36), .int zx2]) (rest := []) C zhw zhl (c_at l D cI (wX h cI M) 36 4 (h 36) (M 36) (wX_c36 h cI M) (by decide) zx2) (by decide) (by decide) (List.mem_of_getElem? (i := 24) rfl) kw_7_7 kw_1_2 kw_7_8 md_X11_at rfl rfl (Nat.le_of_ble_eq_true rfl) dX10_hungryWith_21 (fun zH zlocs zhw hn9 => ?_)
            refine lv_iload_n zhx zhb dX10_hungryWith_24 rfl (lv_at zhl 3 rfl) ?_
            refine lv_iand zhx zhb dX10_hungryWith_25 ?_
            refine lv_if_eq (tgt := 32) zhx zhb dX10_hungryWith_26 (by decide) (fun zc9 => ?_) (fun zc9 => ?_)
            · replace zhs := br_T zhs zc9
              obtain ⟨zv16, ze9, zhs⟩ := ltI_e zhs
              refine lv_iinc (v := zv16) (lv' := [(3, .int zv16), (2, .int zx1), (0, .ref (h 22)), (1, .int a1)]) zhx zhb dX10_hungryWith_32 zhl (k := 0) rfl (by rw [ze9]; rfl) (by decide) rfl (fun zls zhl => ?_)
              clear ze9
              refine lv_goto (tgt := 4) zhx zhb dX10_hungryWith_35 (by decide) ?_
              cases zhs
              exact zih zx1 zv16 zq (itk_l zhq) k4_38 zH zlocs zls zhl zhw
            · replace zhs := br_F zhs zc9
              obtain ⟨zv17, ze9, zhs⟩ := ltI_e zhs
              refine lv_iinc (v := zv17) (lv' := [(2, .int zv17), (3, .int zx2), (0, .ref (h 22)), (1, .int a1)]) zhx zhb dX10_hungryWith_29 zhl (k := 1) rfl (by rw [ze9]; rfl) (by decide) rfl (fun zls zhl => ?_)
              clear ze9
              obtain ⟨zv18, ze9, zhs⟩ := ltI_e zhs
              refine lv_iinc (v := zv18) (lv' := [(3, .int zv18), (2, .int zv17), (0, .ref (h 22)), (1, .int a1)]) zhx zhb dX10_hungryWith_32 zhl (k := 1) rfl (by rw [ze9]; rfl) (by decide) rfl (fun zls zhl => ?_)
              clear ze9
              refine lv_goto (tgt := 4) zhx zhb dX10_hungryWith_35 (by decide) ?_
              cases zhs
              exact zih zv17 zv18 zq (itk_l zhq) k4_38 zH zlocs zls zhl zhw
  refine hloop19 N 0 0 zq19 zhq19 (fun zv20 zhqe zH zlocs zls zhl zhw => ?_) zH zlocs zls zhl zhw
  · subst zhqe
    refine lv_iload_n zhx zhb dX10_hungryWith_38 rfl (lv_at zhl 0 rfl) ?_
    cases zhs
    exact zhret _ _ _ _ dX10_hungryWith_39 (by rfl) zhw

-- OffFirst$Told.sortsOfDish in (22, ())
def sTold_sortsOfDish_l (a1 : Int32) (M : Mm) : Option Int32 :=
  some (atf 5 (M 35) a1)
set_option maxHeartbeats 4000000 in
set_option maxRecDepth 100000 in
theorem cTold_sortsOfDish_l (l : Launch) (D : va_G) (cI : ClassId) (h : Nat → Nat) (a1 : Int32) (M : Mm) (r : Int32) (zhs : sTold_sortsOfDish_l a1 M = some r) : CtI l yX10_sortsOfDish cX10_sortsOfDish 2 (some .int) 2 D cI (wX h cI M) (wX h cI M) [.ref (h 22), .int a1] r := by
  unfold sTold_sortsOfDish_l at zhs
  refine CtI_of (by decide +kernel) (Nat.le_of_ble_eq_true rfl) ⟨_, rfl⟩ ?_
  intro p e s m args below meth c A Q zls zH zlocs C zhw zhl zhret
  have zhx := C.1
  have zhb := C.2.1
  have zhown := C.2.2.2.2.1
  have zhtB := C.2.2.2.2.2.2.1
  have zhl : lv_has zls 2 [(0, .ref (h 22)), (1, .int a1)] := zhl
  refine lv_aload_n zhx zhb dX10_sortsOfDish_0 rfl (lv_at zhl 0 rfl) ?_
  refine x_get C zhw inlX10 rfl 22 2 (by decide) kw_3_17 rfl (wX_c22 h cI M) rfl dX10_sortsOfDish_1 ?_
  refine lv_iload_n zhx zhb dX10_sortsOfDish_4 rfl (lv_at zhl 1 rfl) ?_
  refine x_cSNI (As := [.ref (h 35), .int a1]) (rest := []) C zhw zhl (c_at l D cI (wX h cI M) 35 5 (h 35) (M 35) (wX_c35 h cI M) (by decide) a1) (by decide) (by decide) (List.mem_of_getElem? (i := 24) rfl) kw_7_7 kw_1_2 kw_7_8 md_X11_at rfl rfl (Nat.le_of_ble_eq_true rfl) dX10_sortsOfDish_5 (fun zH zlocs zhw hn9 => ?_)
  cases zhs
  exact zhret _ _ _ _ dX10_sortsOfDish_8 (by rfl) zhw

-- OffFirst$Evenings.offOn in (59, ())
def sEvenings_offOn (a1 : Int32) (M : Mm) : Option Int32 :=
  some (atf 20 (M 62) a1)
set_option maxHeartbeats 4000000 in
set_option maxRecDepth 100000 in
theorem cEvenings_offOn (l : Launch) (D : va_G) (cI : ClassId) (h : Nat → Nat) (a1 : Int32) (M : Mm) (r : Int32) (zhs : sEvenings_offOn a1 M = some r) : CtI l yX1_offOn cX1_offOn 2 (some .int) 2 D cI (wX h cI M) (wX h cI M) [.ref (h 59), .int a1] r := by
  unfold sEvenings_offOn at zhs
  refine CtI_of (by decide +kernel) (Nat.le_of_ble_eq_true rfl) ⟨_, rfl⟩ ?_
  intro p e s m args below meth c A Q zls zH zlocs C zhw zhl zhret
  have zhx := C.1
  have zhb := C.2.1
  have zhown := C.2.2.2.2.1
  have zhtB := C.2.2.2.2.2.2.1
  have zhl : lv_has zls 2 [(0, .ref (h 59)), (1, .int a1)] := zhl
  refine lv_aload_n zhx zhb dX1_offOn_0 rfl (lv_at zhl 0 rfl) ?_
  refine x_get C zhw inlX1 rfl 59 3 (by decide) kw_5_19 rfl (wX_c59 h cI M) rfl dX1_offOn_1 ?_
  refine lv_iload_n zhx zhb dX1_offOn_4 rfl (lv_at zhl 1 rfl) ?_
  refine x_cSNI (As := [.ref (h 62), .int a1]) (rest := []) C zhw zhl (c_at l D cI (wX h cI M) 62 20 (h 62) (M 62) (wX_c62 h cI M) (by decide) a1) (by decide) (by decide) (List.mem_of_getElem? (i := 20) rfl) kw_7_7 kw_1_2 kw_7_8 md_X11_at rfl rfl (Nat.le_of_ble_eq_true rfl) dX1_offOn_5 (fun zH zlocs zhw hn9 => ?_)
  cases zhs
  exact zhret _ _ _ _ dX1_offOn_8 (by rfl) zhw

-- OffFirst.hasBit in (None, ())
def sOff_hasBit (a1 : Int32) (a2 : Int32) : Option Int32 :=
  (if ((a1 >>> (a2 &&& 31)) &&& 1) = 1 then some 1
  else some 0)
set_option maxHeartbeats 4000000 in
set_option maxRecDepth 100000 in
theorem cOff_hasBit (l : Launch) (D : va_G) (cI : ClassId) (h : Nat → Nat) (a1 : Int32) (a2 : Int32) (M : Mm) (r : Int32) (zhs : sOff_hasBit a1 a2 = some r) : CtI l yX11_hasBit cX11_hasBit 2 (some .boolean) 1 D cI (wX h cI M) (wX h cI M) [.int a1, .int a2] r := by
  unfold sOff_hasBit at zhs
  refine CtI_of (by decide +kernel) (Nat.le_of_ble_eq_true rfl) ⟨_, rfl⟩ ?_
  intro p e s m args below meth c A Q zls zH zlocs C zhw zhl zhret
  have zhx := C.1
  have zhb := C.2.1
  have zhown := C.2.2.2.2.1
  have zhtB := C.2.2.2.2.2.2.1
  have zhl : lv_has zls 2 [(0, .int a1), (1, .int a2)] := zhl
  refine lv_iload_n zhx zhb dX11_hasBit_0 rfl (lv_at zhl 0 rfl) ?_
  refine lv_iload_n zhx zhb dX11_hasBit_1 rfl (lv_at zhl 1 rfl) ?_
  refine lv_ishr zhx zhb dX11_hasBit_2 ?_
  refine lv_iconst (v := 1) zhx zhb dX11_hasBit_3 (by decide) ?_
  refine lv_iand zhx zhb dX11_hasBit_4 ?_
  refine lv_iconst (v := 1) zhx zhb dX11_hasBit_5 (by decide) ?_
  refine lv_icmp_ne (tgt := 13) zhx zhb dX11_hasBit_6 (by decide) (fun zc9 => ?_) (fun zc9 => ?_)
  · replace zhs := br_F zhs zc9
    refine lv_iconst (v := 0) zhx zhb dX11_hasBit_13 (by decide) ?_
    cases zhs
    exact zhret _ _ _ _ dX11_hasBit_14 (by rfl) zhw
  · replace zhs := br_T zhs zc9
    refine lv_iconst (v := 1) zhx zhb dX11_hasBit_9 (by decide) ?_
    refine lv_goto (tgt := 14) zhx zhb dX11_hasBit_10 (by decide) ?_
    cases zhs
    exact zhret _ _ _ _ dX11_hasBit_14 (by rfl) zhw

-- OffFirst$Foods.bitsOfSort in (27, ())
def sFoods_bitsOfSort_l (a1 : Int32) (M : Mm) : Option Int32 :=
  some (atf 4 (M 34) a1)
set_option maxHeartbeats 4000000 in
set_option maxRecDepth 100000 in
theorem cFoods_bitsOfSort_l (l : Launch) (D : va_G) (cI : ClassId) (h : Nat → Nat) (a1 : Int32) (M : Mm) (r : Int32) (zhs : sFoods_bitsOfSort_l a1 M = some r) : CtI l yX2_bitsOfSort cX2_bitsOfSort 2 (some .int) 2 D cI (wX h cI M) (wX h cI M) [.ref (h 27), .int a1] r := by
  unfold sFoods_bitsOfSort_l at zhs
  refine CtI_of (by decide +kernel) (Nat.le_of_ble_eq_true rfl) ⟨_, rfl⟩ ?_
  intro p e s m args below meth c A Q zls zH zlocs C zhw zhl zhret
  have zhx := C.1
  have zhb := C.2.1
  have zhown := C.2.2.2.2.1
  have zhtB := C.2.2.2.2.2.2.1
  have zhl : lv_has zls 2 [(0, .ref (h 27)), (1, .int a1)] := zhl
  refine lv_aload_n zhx zhb dX2_bitsOfSort_0 rfl (lv_at zhl 0 rfl) ?_
  refine x_get C zhw inlX2 rfl 27 6 (by decide) kw_4_15 rfl (wX_c27 h cI M) rfl dX2_bitsOfSort_1 ?_
  refine lv_iload_n zhx zhb dX2_bitsOfSort_4 rfl (lv_at zhl 1 rfl) ?_
  refine x_cSNI (As := [.ref (h 34), .int a1]) (rest := []) C zhw zhl (c_at l D cI (wX h cI M) 34 4 (h 34) (M 34) (wX_c34 h cI M) (by decide) a1) (by decide) (by decide) (List.mem_of_getElem? (i := 9) rfl) kw_7_7 kw_1_2 kw_7_8 md_X11_at rfl rfl (Nat.le_of_ble_eq_true rfl) dX2_bitsOfSort_5 (fun zH zlocs zhw hn9 => ?_)
  cases zhs
  exact zhret _ _ _ _ dX2_bitsOfSort_8 (by rfl) zhw

-- OffFirst$Evenings.isOlderOn in (59, ())
def sEvenings_isOlderOn (a1 : Int32) (a2 : Int32) (a3 : Int32) (M : Mm) : Option Int32 :=
  ltL ((Int32.toInt64 (atf 200 (M 60) ((a1 * 10) + a2))) * (Int32.toInt64 (atf 10 (M 61) a3))) fun zv1 =>
  ltL ((Int32.toInt64 (atf 200 (M 60) ((a1 * 10) + a3))) * (Int32.toInt64 (atf 10 (M 61) a2))) fun zv2 =>
  (if (lg_cmp zv1 zv2) ≤ 0 then some 0
  else some 1)
set_option maxHeartbeats 4000000 in
set_option maxRecDepth 100000 in
theorem cEvenings_isOlderOn (l : Launch) (D : va_G) (cI : ClassId) (h : Nat → Nat) (a1 : Int32) (a2 : Int32) (a3 : Int32) (M : Mm) (r : Int32) (zhs : sEvenings_isOlderOn a1 a2 a3 M = some r) : CtI l yX1_isOlderOn cX1_isOlderOn 8 (some .boolean) 2 D cI (wX h cI M) (wX h cI M) [.ref (h 59), .int a1, .int a2, .int a3] r := by
  unfold sEvenings_isOlderOn at zhs
  refine CtI_of (by decide +kernel) (Nat.le_of_ble_eq_true rfl) ⟨_, rfl⟩ ?_
  intro p e s m args below meth c A Q zls zH zlocs C zhw zhl zhret
  have zhx := C.1
  have zhb := C.2.1
  have zhown := C.2.2.2.2.1
  have zhtB := C.2.2.2.2.2.2.1
  have zhl : lv_has zls 8 [(0, .ref (h 59)), (1, .int a1), (2, .int a2), (3, .int a3)] := zhl
  refine lv_aload_n zhx zhb dX1_isOlderOn_0 rfl (lv_at zhl 0 rfl) ?_
  refine x_get C zhw inlX1 rfl 59 1 (by decide) kw_5_17 rfl (wX_c59 h cI M) rfl dX1_isOlderOn_1 ?_
  refine lv_iload_n zhx zhb dX1_isOlderOn_4 rfl (lv_at zhl 1 rfl) ?_
  refine lv_bipush (v := 10) zhx zhb dX1_isOlderOn_5 (by decide) ?_
  refine lv_imul zhx zhb dX1_isOlderOn_7 ?_
  refine lv_iload_n zhx zhb dX1_isOlderOn_8 rfl (lv_at zhl 2 rfl) ?_
  refine lv_iadd zhx zhb dX1_isOlderOn_9 ?_
  refine x_cSNI (As := [.ref (h 60), .int ((a1 * 10) + a2)]) (rest := []) C zhw zhl (c_at l D cI (wX h cI M) 60 200 (h 60) (M 60) (wX_c60 h cI M) (by decide) ((a1 * 10) + a2)) (by decide) (by decide) (List.mem_of_getElem? (i := 20) rfl) kw_7_7 kw_1_2 kw_7_8 md_X11_at rfl rfl (Nat.le_of_ble_eq_true rfl) dX1_isOlderOn_10 (fun zH zlocs zhw hn9 => ?_)
  refine lv_i2l zhx zhb dX1_isOlderOn_13 rfl ?_
  refine lv_aload_n zhx zhb dX1_isOlderOn_14 rfl (lv_at zhl 0 rfl) ?_
  refine x_get C zhw inlX1 rfl 59 2 (by decide) kw_5_18 rfl (wX_c59 h cI M) rfl dX1_isOlderOn_15 ?_
  refine lv_iload_n zhx zhb dX1_isOlderOn_18 rfl (lv_at zhl 3 rfl) ?_
  refine x_cSNI (As := [.ref (h 61), .int a3]) (rest := [.long (Int32.toInt64 (atf 200 (M 60) ((a1 * 10) + a2)))]) C zhw zhl (c_at l D cI (wX h cI M) 61 10 (h 61) (M 61) (wX_c61 h cI M) (by decide) a3) (by decide) (by decide) (List.mem_of_getElem? (i := 20) rfl) kw_7_7 kw_1_2 kw_7_8 md_X11_at rfl rfl (Nat.le_of_ble_eq_true rfl) dX1_isOlderOn_19 (fun zH zlocs zhw hn9 => ?_)
  refine lv_i2l zhx zhb dX1_isOlderOn_22 rfl ?_
  refine lv_lmul zhx zhb dX1_isOlderOn_23 ?_
  obtain ⟨zv1, ze9, zhs⟩ := ltL_e zhs
  refine lv_topl (fun zy9 ze8 => ?_)
  obtain rfl : zv1 = zy9 := ze9.trans ze8.symm
  clear ze9 ze8
  refine lv_lstore (lv' := [(4, .long zv1), (0, .ref (h 59)), (1, .int a1), (2, .int a2), (3, .int a3)]) zhx zhb dX1_isOlderOn_24 zhl (by decide) rfl (fun zls zhl => ?_)
  refine lv_aload_n zhx zhb dX1_isOlderOn_26 rfl (lv_at zhl 1 rfl) ?_
  refine x_get C zhw inlX1 rfl 59 1 (by decide) kw_5_17 rfl (wX_c59 h cI M) rfl dX1_isOlderOn_27 ?_
  refine lv_iload_n zhx zhb dX1_isOlderOn_30 rfl (lv_at zhl 2 rfl) ?_
  refine lv_bipush (v := 10) zhx zhb dX1_isOlderOn_31 (by decide) ?_
  refine lv_imul zhx zhb dX1_isOlderOn_33 ?_
  refine lv_iload_n zhx zhb dX1_isOlderOn_34 rfl (lv_at zhl 4 rfl) ?_
  refine lv_iadd zhx zhb dX1_isOlderOn_35 ?_
  refine x_cSNI (As := [.ref (h 60), .int ((a1 * 10) + a3)]) (rest := []) C zhw zhl (c_at l D cI (wX h cI M) 60 200 (h 60) (M 60) (wX_c60 h cI M) (by decide) ((a1 * 10) + a3)) (by decide) (by decide) (List.mem_of_getElem? (i := 20) rfl) kw_7_7 kw_1_2 kw_7_8 md_X11_at rfl rfl (Nat.le_of_ble_eq_true rfl) dX1_isOlderOn_36 (fun zH zlocs zhw hn9 => ?_)
  refine lv_i2l zhx zhb dX1_isOlderOn_39 rfl ?_
  refine lv_aload_n zhx zhb dX1_isOlderOn_40 rfl (lv_at zhl 1 rfl) ?_
  refine x_get C zhw inlX1 rfl 59 2 (by decide) kw_5_18 rfl (wX_c59 h cI M) rfl dX1_isOlderOn_41 ?_
  refine lv_iload_n zhx zhb dX1_isOlderOn_44 rfl (lv_at zhl 3 rfl) ?_
  refine x_cSNI (As := [.ref (h 61), .int a2]) (rest := [.long (Int32.toInt64 (atf 200 (M 60) ((a1 * 10) + a3)))]) C zhw zhl (c_at l D cI (wX h cI M) 61 10 (h 61) (M 61) (wX_c61 h cI M) (by decide) a2) (by decide) (by decide) (List.mem_of_getElem? (i := 20) rfl) kw_7_7 kw_1_2 kw_7_8 md_X11_at rfl rfl (Nat.le_of_ble_eq_true rfl) dX1_isOlderOn_45 (fun zH zlocs zhw hn9 => ?_)
  refine lv_i2l zhx zhb dX1_isOlderOn_48 rfl ?_
  refine lv_lmul zhx zhb dX1_isOlderOn_49 ?_
  obtain ⟨zv2, ze9, zhs⟩ := ltL_e zhs
  refine lv_topl (fun zy9 ze8 => ?_)
  obtain rfl : zv2 = zy9 := ze9.trans ze8.symm
  clear ze9 ze8
  refine lv_lstore (lv' := [(6, .long zv2), (4, .long zv1), (0, .ref (h 59)), (1, .int a1), (2, .int a2), (3, .int a3)]) zhx zhb dX1_isOlderOn_50 zhl (by decide) rfl (fun zls zhl => ?_)
  refine lv_lload zhx zhb dX1_isOlderOn_52 (lv_at zhl 1 rfl) ?_
  refine lv_lload zhx zhb dX1_isOlderOn_54 (lv_at zhl 0 rfl) ?_
  refine W.lcmp zhx zhb dX1_isOlderOn_56 ?_
  refine lv_if_le (tgt := 64) zhx zhb dX1_isOlderOn_57 (by decide) (fun zc9 => ?_) (fun zc9 => ?_)
  · replace zhs := br_T zhs zc9
    refine lv_iconst (v := 0) zhx zhb dX1_isOlderOn_64 (by decide) ?_
    cases zhs
    exact zhret _ _ _ _ dX1_isOlderOn_65 (by rfl) zhw
  · replace zhs := br_F zhs zc9
    refine lv_iconst (v := 1) zhx zhb dX1_isOlderOn_60 (by decide) ?_
    refine lv_goto (tgt := 65) zhx zhb dX1_isOlderOn_61 (by decide) ?_
    cases zhs
    exact zhret _ _ _ _ dX1_isOlderOn_65 (by rfl) zhw

-- OffFirst$Evenings.oldestOn in (59, ())
def LEvenings_oldestOn_6_19 (N : Nat) (a1 : Int32) (a2 : Int32) (M : Mm) (zx1 : Int32) (zx2 : Int32) : Option ((Int32 × Int32) ⊕ ((Int32))) :=
  (if (M 27 7) ≤ zx2 then some (.inr zx1)
  else (sOff_hasBit a2 zx2).bind fun zv11 =>
  (if zv11 = 0 then ltI (zx2 + 1) fun zv13 =>
  some (.inl (zx1, zv13))
  else (if zx1 < 0 then ltI (zx2 + 1) fun zv15 =>
  some (.inl (zx2, zv15))
  else (sEvenings_isOlderOn a1 zx2 zx1 M).bind fun zv16 =>
  (if zv16 = 0 then ltI (zx2 + 1) fun zv17 =>
  some (.inl (zx1, zv17))
  else ltI (zx2 + 1) fun zv18 =>
  some (.inl (zx2, zv18))))))
def sEvenings_oldestOn (N : Nat) (a1 : Int32) (a2 : Int32) (M : Mm) : Option Int32 :=
  (itr (fun z : Int32 × Int32 => LEvenings_oldestOn_6_19 N a1 a2 M z.1 z.2) N ((-4), 0)).bind fun zv20 =>
  (if 0 ≤ zv20 then some (1 <<< (zv20 &&& 31))
  else some 0)
set_option maxHeartbeats 4000000 in
set_option maxRecDepth 100000 in
theorem cEvenings_oldestOn (l : Launch) (D : va_G) (cI : ClassId) (h : Nat → Nat) (N : Nat) (a1 : Int32) (a2 : Int32) (M : Mm) (r : Int32) (zhs : sEvenings_oldestOn N a1 a2 M = some r) : CtI l yX1_oldestOn cX1_oldestOn 5 (some .int) 3 D cI (wX h cI M) (wX h cI M) [.ref (h 59), .int a1, .int a2] r := by
  unfold sEvenings_oldestOn at zhs
  refine CtI_of (by decide +kernel) (Nat.le_of_ble_eq_true rfl) ⟨_, rfl⟩ ?_
  intro p e s m args below meth c A Q zls zH zlocs C zhw zhl zhret
  have zhx := C.1
  have zhb := C.2.1
  have zhown := C.2.2.2.2.1
  have zhtB := C.2.2.2.2.2.2.1
  have zhl : lv_has zls 5 [(0, .ref (h 59)), (1, .int a1), (2, .int a2)] := zhl
  refine lv_bipush (v := (-4)) zhx zhb dX1_oldestOn_0 (by decide) ?_
  refine lv_istore_n (lv' := [(3, .int (-4)), (0, .ref (h 59)), (1, .int a1), (2, .int a2)]) zhx zhb dX1_oldestOn_2 rfl zhl (by decide) rfl (fun zls zhl => ?_)
  refine lv_iconst (v := 0) zhx zhb dX1_oldestOn_3 (by decide) ?_
  refine lv_istore (lv' := [(4, .int 0), (3, .int (-4)), (0, .ref (h 59)), (1, .int a1), (2, .int a2)]) zhx zhb dX1_oldestOn_4 zhl (by decide) rfl (fun zls zhl => ?_)
  obtain ⟨zq19, zhq19, zhs⟩ := bnd_e zhs
  have hloop19 : ∀ (zn : Nat) (zx1 : Int32) (zx2 : Int32) (zq : (Int32)), itr (fun z : Int32 × Int32 => LEvenings_oldestOn_6_19 N a1 a2 M z.1 z.2) zn (zx1, zx2) = some zq → (∀ (zy1 : Int32), zy1 = zq → ∀ (zH : Heap) (zlocs : List Loc) (zls : Array Slot), lv_has zls 5 [(3, .int zy1)] → Hw D (wX h cI M) A s.heap zH zlocs → W p l e (RM 3) s m args below meth c zH zlocs 0 0 Q (F0 m 57 zls [])) → ∀ (zH : Heap) (zlocs : List Loc) (zls : Array Slot), lv_has zls 5 [(4, .int zx2), (3, .int zx1), (0, .ref (h 59)), (1, .int a1), (2, .int a2)] → Hw D (wX h cI M) A s.heap zH zlocs → W p l e (RM 3) s m args below meth c zH zlocs 0 0 Q (F0 m 6 zls []) := by
    intro zn
    induction zn with
    | zero => intro zx1 zx2 zq zhq; exact absurd zhq (fun h9 => itr_0 h9)
    | succ zn zih =>
        intro zx1 zx2 zq zhq k6_57 zH zlocs zls zhl zhw
        obtain ⟨zy9, zhs, zhq⟩ := itr_s zhq
        replace zhs : LEvenings_oldestOn_6_19 N a1 a2 M zx1 zx2 = some zy9 := zhs
        unfold LEvenings_oldestOn_6_19 at zhs
        refine lv_iload zhx zhb dX1_oldestOn_6 (lv_at zhl 0 rfl) ?_
        refine lv_aload_n zhx zhb dX1_oldestOn_8 rfl (lv_at zhl 2 rfl) ?_
        refine x_get C zhw inlX1 rfl 59 0 (by decide) kw_5_20 rfl (wX_c59 h cI M) rfl dX1_oldestOn_9 ?_
        refine x_getN C zhw inlX3 rfl 58 0 (by decide) (List.mem_of_getElem? (i := 33) rfl) rfl (wX_c58 h cI M) rfl dX1_oldestOn_12 ?_
        refine x_getN C zhw inlX10 rfl 22 1 (by decide) (List.mem_of_getElem? (i := 21) rfl) rfl (wX_c22 h cI M) rfl dX1_oldestOn_15 ?_
        refine x_getN C zhw inlX2 rfl 27 7 (by decide) (List.mem_of_getElem? (i := 9) rfl) rfl (wX_c27 h cI M) rfl dX1_oldestOn_18 ?_
        refine lv_icmp_ge (tgt := 57) zhx zhb dX1_oldestOn_21 (by decide) (fun zc9 => ?_) (fun zc9 => ?_)
        · replace zhs := br_T zhs zc9
          cases zhs
          exact k6_57 zx1 (itk_q zhq) zH zlocs zls (lv_sub zhl [1] rfl) zhw
        · replace zhs := br_F zhs zc9
          refine lv_iload_n zhx zhb dX1_oldestOn_24 rfl (lv_at zhl 4 rfl) ?_
          refine lv_iload zhx zhb dX1_oldestOn_25 (lv_at zhl 0 rfl) ?_
          obtain ⟨zv11, zhp, zhs⟩ := bnd_e zhs
          refine x_cSNI (As := [.int a2, .int zx2]) (rest := []) C zhw zhl (cOff_hasBit l D cI h a2 zx2 M zv11 zhp) (by decide) (by decide) (List.mem_of_getElem? (i := 26) rfl) kw_30_6 kw_1_2 kw_30_7 md_X11_hasBit rfl rfl (Nat.le_of_ble_eq_true rfl) dX1_oldestOn_27 (fun zH zlocs zhw hzv11 => ?_)
          refine lv_if_eq (tgt := 51) zhx zhb dX1_oldestOn_30 (by decide) (fun zc9 => ?_) (fun zc9 => ?_)
          · replace zhs := br_T zhs zc9
            obtain ⟨zv13, ze9, zhs⟩ := ltI_e zhs
            refine lv_iinc (v := zv13) (lv' := [(4, .int zv13), (3, .int zx1), (0, .ref (h 59)), (1, .int a1), (2, .int a2)]) zhx zhb dX1_oldestOn_51 zhl (k := 0) rfl (by rw [ze9]; rfl) (by decide) rfl (fun zls zhl => ?_)
            clear ze9
            refine lv_goto (tgt := 6) zhx zhb dX1_oldestOn_54 (by decide) ?_
            cases zhs
            exact zih zx1 zv13 zq (itk_l zhq) k6_57 zH zlocs zls zhl zhw
          · replace zhs := br_F zhs zc9
            refine lv_iload_n zhx zhb dX1_oldestOn_33 rfl (lv_at zhl 1 rfl) ?_
            refine lv_if_lt (tgt := 48) zhx zhb dX1_oldestOn_34 (by decide) (fun zc9 => ?_) (fun zc9 => ?_)
            · replace zhs := br_T zhs zc9
              refine lv_iload zhx zhb dX1_oldestOn_48 (lv_at zhl 0 rfl) ?_
              refine lv_istore_n (lv' := [(3, .int zx2), (4, .int zx2), (0, .ref (h 59)), (1, .int a1), (2, .int a2)]) zhx zhb dX1_oldestOn_50 rfl zhl (by decide) rfl (fun zls zhl => ?_)
              obtain ⟨zv15, ze9, zhs⟩ := ltI_e zhs
              refine lv_iinc (v := zv15) (lv' := [(4, .int zv15), (3, .int zx2), (0, .ref (h 59)), (1, .int a1), (2, .int a2)]) zhx zhb dX1_oldestOn_51 zhl (k := 1) rfl (by rw [ze9]; rfl) (by decide) rfl (fun zls zhl => ?_)
              clear ze9
              refine lv_goto (tgt := 6) zhx zhb dX1_oldestOn_54 (by decide) ?_
              cases zhs
              exact zih zx2 zv15 zq (itk_l zhq) k6_57 zH zlocs zls zhl zhw
            · replace zhs := br_F zhs zc9
              refine lv_aload_n zhx zhb dX1_oldestOn_37 rfl (lv_at zhl 2 rfl) ?_
              refine lv_iload_n zhx zhb dX1_oldestOn_38 rfl (lv_at zhl 3 rfl) ?_
              refine lv_iload zhx zhb dX1_oldestOn_39 (lv_at zhl 0 rfl) ?_
              refine lv_iload_n zhx zhb dX1_oldestOn_41 rfl (lv_at zhl 1 rfl) ?_
              obtain ⟨zv16, zhp, zhs⟩ := bnd_e zhs
              refine x_cVI (As := [.int a1, .int zx2, .int zx1]) (rest := []) C zhw zhl (cEvenings_isOlderOn l D cI h a1 zx2 zx1 M zv16 zhp) (by decide) (by decide) kw_31_8 kw_31_9 kw_31_10 kw_2_10 kw_31_11 md_X1_isOlderOn rfl 59 (wX_c59 h cI M) rfl rfl rfl rfl (Nat.le_of_ble_eq_true rfl) dX1_oldestOn_42 (fun zH zlocs zhw hzv16 => ?_)
              refine lv_if_eq (tgt := 51) zhx zhb dX1_oldestOn_45 (by decide) (fun zc9 => ?_) (fun zc9 => ?_)
              · replace zhs := br_T zhs zc9
                obtain ⟨zv17, ze9, zhs⟩ := ltI_e zhs
                refine lv_iinc (v := zv17) (lv' := [(4, .int zv17), (3, .int zx1), (0, .ref (h 59)), (1, .int a1), (2, .int a2)]) zhx zhb dX1_oldestOn_51 zhl (k := 0) rfl (by rw [ze9]; rfl) (by decide) rfl (fun zls zhl => ?_)
                clear ze9
                refine lv_goto (tgt := 6) zhx zhb dX1_oldestOn_54 (by decide) ?_
                cases zhs
                exact zih zx1 zv17 zq (itk_l zhq) k6_57 zH zlocs zls zhl zhw
              · replace zhs := br_F zhs zc9
                refine lv_iload zhx zhb dX1_oldestOn_48 (lv_at zhl 0 rfl) ?_
                refine lv_istore_n (lv' := [(3, .int zx2), (4, .int zx2), (0, .ref (h 59)), (1, .int a1), (2, .int a2)]) zhx zhb dX1_oldestOn_50 rfl zhl (by decide) rfl (fun zls zhl => ?_)
                obtain ⟨zv18, ze9, zhs⟩ := ltI_e zhs
                refine lv_iinc (v := zv18) (lv' := [(4, .int zv18), (3, .int zx2), (0, .ref (h 59)), (1, .int a1), (2, .int a2)]) zhx zhb dX1_oldestOn_51 zhl (k := 1) rfl (by rw [ze9]; rfl) (by decide) rfl (fun zls zhl => ?_)
                clear ze9
                refine lv_goto (tgt := 6) zhx zhb dX1_oldestOn_54 (by decide) ?_
                cases zhs
                exact zih zx2 zv18 zq (itk_l zhq) k6_57 zH zlocs zls zhl zhw
  refine hloop19 N (-4) 0 zq19 zhq19 (fun zv20 zhqe zH zlocs zls zhl zhw => ?_) zH zlocs zls zhl zhw
  · subst zhqe
    refine lv_iload_n zhx zhb dX1_oldestOn_57 rfl (lv_at zhl 0 rfl) ?_
    refine lv_if_ge (tgt := 65) zhx zhb dX1_oldestOn_58 (by decide) (fun zc9 => ?_) (fun zc9 => ?_)
    · replace zhs := br_T zhs zc9
      refine lv_iconst (v := 1) zhx zhb dX1_oldestOn_65 (by decide) ?_
      refine lv_iload_n zhx zhb dX1_oldestOn_66 rfl (lv_at zhl 0 rfl) ?_
      refine lv_ishl zhx zhb dX1_oldestOn_67 ?_
      cases zhs
      exact zhret _ _ _ _ dX1_oldestOn_68 (by rfl) zhw
    · replace zhs := br_F zhs zc9
      refine lv_iconst (v := 0) zhx zhb dX1_oldestOn_61 (by decide) ?_
      refine lv_goto (tgt := 68) zhx zhb dX1_oldestOn_62 (by decide) ?_
      cases zhs
      exact zhret _ _ _ _ dX1_oldestOn_68 (by rfl) zhw

-- OffFirst$Planner.eatenOn in (63, ())
def LPlanner_eatenOn_20_17 (N : Nat) (a1 : Int32) (a3 : Int32) (M : Mm) (zv2 : Int32) (zx3 : Int32) (zx4 : Int32) : Option ((Int32 × Int32) ⊕ ((Unit) ⊕ (Int32))) :=
  (if 4 ≤ zx4 then some (.inr (.inr zx3))
  else (sOff_hasBit a3 zx4).bind fun zv11 =>
  (if zv11 = 0 then ltI (zx4 + 1) fun zv12 =>
  some (.inl (zx3, zv12))
  else (sFoods_bitsOfSort_l zx4 M).bind fun zv13 =>
  (sEvenings_oldestOn N a1 (zv2 &&& zv13) M).bind fun zv14 =>
  (if zv14 = 0 then some (.inr (.inl ()))
  else ltI (zx3 ||| zv14) fun zv15 =>
  ltI (zx4 + 1) fun zv16 =>
  some (.inl (zv15, zv16)))))
def sPlanner_eatenOn (N : Nat) (a1 : Int32) (a2 : Int32) (a3 : Int32) (M : Mm) : Option Int32 :=
  (sEvenings_offOn a1 M).bind fun zv1 =>
  ltI (a2 &&& (zv1 ^^^ (-1))) fun zv2 =>
  ((itr (fun z : Int32 × Int32 => LPlanner_eatenOn_20_17 N a1 a3 M zv2 z.1 z.2) N (0, 0)).bind fun q => match q with
  | .inl () => some 0
  | .inr zv18 => some zv18)
set_option maxHeartbeats 4000000 in
set_option maxRecDepth 100000 in
theorem cPlanner_eatenOn (l : Launch) (D : va_G) (cI : ClassId) (h : Nat → Nat) (N : Nat) (a1 : Int32) (a2 : Int32) (a3 : Int32) (M : Mm) (r : Int32) (zhs : sPlanner_eatenOn N a1 a2 a3 M = some r) : CtI l yX6_eatenOn cX6_eatenOn 8 (some .int) 4 D cI (wX h cI M) (wX h cI M) [.ref (h 63), .int a1, .int a2, .int a3] r := by
  unfold sPlanner_eatenOn at zhs
  refine CtI_of (by decide +kernel) (Nat.le_of_ble_eq_true rfl) ⟨_, rfl⟩ ?_
  intro p e s m args below meth c A Q zls zH zlocs C zhw zhl zhret
  have zhx := C.1
  have zhb := C.2.1
  have zhown := C.2.2.2.2.1
  have zhtB := C.2.2.2.2.2.2.1
  have zhl : lv_has zls 8 [(0, .ref (h 63)), (1, .int a1), (2, .int a2), (3, .int a3)] := zhl
  refine lv_iload_n zhx zhb dX6_eatenOn_0 rfl (lv_at zhl 2 rfl) ?_
  refine lv_aload_n zhx zhb dX6_eatenOn_1 rfl (lv_at zhl 0 rfl) ?_
  refine x_get C zhw inlX6 rfl 63 1 (by decide) kw_6_4 rfl (wX_c63 h cI M) rfl dX6_eatenOn_2 ?_
  refine lv_iload_n zhx zhb dX6_eatenOn_5 rfl (lv_at zhl 1 rfl) ?_
  obtain ⟨zv1, zhp, zhs⟩ := bnd_e zhs
  refine x_cVI (As := [.int a1]) (rest := [.int a2]) C zhw zhl (cEvenings_offOn l D cI h a1 M zv1 zhp) (by decide) (by decide) kw_29_22 kw_29_23 kw_30_0 kw_2_10 kw_30_1 md_X1_offOn rfl 59 (wX_c59 h cI M) rfl rfl rfl rfl (Nat.le_of_ble_eq_true rfl) dX6_eatenOn_6 (fun zH zlocs zhw hn9 => ?_)
  refine lv_iconst (v := (-1)) zhx zhb dX6_eatenOn_9 (by decide) ?_
  refine lv_ixor zhx zhb dX6_eatenOn_10 ?_
  refine lv_iand zhx zhb dX6_eatenOn_11 ?_
  obtain ⟨zv2, ze9, zhs⟩ := ltI_e zhs
  refine lv_topi (fun zy9 ze8 => ?_)
  obtain rfl : zv2 = zy9 := ze9.trans ze8.symm
  clear ze9 ze8
  refine lv_istore (lv' := [(4, .int zv2), (0, .ref (h 63)), (1, .int a1), (2, .int a2), (3, .int a3)]) zhx zhb dX6_eatenOn_12 zhl (by decide) rfl (fun zls zhl => ?_)
  refine lv_iconst (v := 0) zhx zhb dX6_eatenOn_14 (by decide) ?_
  refine lv_istore (lv' := [(5, .int 0), (4, .int zv2), (0, .ref (h 63)), (1, .int a1), (2, .int a2), (3, .int a3)]) zhx zhb dX6_eatenOn_15 zhl (by decide) rfl (fun zls zhl => ?_)
  refine lv_iconst (v := 0) zhx zhb dX6_eatenOn_17 (by decide) ?_
  refine lv_istore (lv' := [(6, .int 0), (5, .int 0), (4, .int zv2), (0, .ref (h 63)), (1, .int a1), (2, .int a2), (3, .int a3)]) zhx zhb dX6_eatenOn_18 zhl (by decide) rfl (fun zls zhl => ?_)
  obtain ⟨zq17, zhq17, zhs⟩ := bnd_e zhs
  have hloop17 : ∀ (zn : Nat) (zx3 : Int32) (zx4 : Int32) (zq : (Unit) ⊕ (Int32)), itr (fun z : Int32 × Int32 => LPlanner_eatenOn_20_17 N a1 a3 M zv2 z.1 z.2) zn (zx3, zx4) = some zq → ((.inl ()) = zq → ∀ (zH : Heap) (zlocs : List Loc) (zls : Array Slot), lv_has zls 8 [] → Hw D (wX h cI M) A s.heap zH zlocs → W p l e (RM 4) s m args below meth c zH zlocs 0 0 Q (F0 m 68 zls [])) → (∀ (zy1 : Int32), (.inr zy1) = zq → ∀ (zH : Heap) (zlocs : List Loc) (zls : Array Slot), lv_has zls 8 [(5, .int zy1)] → Hw D (wX h cI M) A s.heap zH zlocs → W p l e (RM 4) s m args below meth c zH zlocs 0 0 Q (F0 m 83 zls [])) → ∀ (zH : Heap) (zlocs : List Loc) (zls : Array Slot), lv_has zls 8 [(6, .int zx4), (5, .int zx3), (4, .int zv2), (0, .ref (h 63)), (1, .int a1), (3, .int a3)] → Hw D (wX h cI M) A s.heap zH zlocs → W p l e (RM 4) s m args below meth c zH zlocs 0 0 Q (F0 m 20 zls []) := by
    intro zn
    induction zn with
    | zero => intro zx3 zx4 zq zhq; exact absurd zhq (fun h9 => itr_0 h9)
    | succ zn zih =>
        intro zx3 zx4 zq zhq k20_68 k20_83 zH zlocs zls zhl zhw
        obtain ⟨zy9, zhs, zhq⟩ := itr_s zhq
        replace zhs : LPlanner_eatenOn_20_17 N a1 a3 M zv2 zx3 zx4 = some zy9 := zhs
        unfold LPlanner_eatenOn_20_17 at zhs
        refine lv_iload zhx zhb dX6_eatenOn_20 (lv_at zhl 0 rfl) ?_
        refine lv_iconst (v := 4) zhx zhb dX6_eatenOn_22 (by decide) ?_
        refine lv_icmp_ge (tgt := 83) zhx zhb dX6_eatenOn_23 (by decide) (fun zc9 => ?_) (fun zc9 => ?_)
        · replace zhs := br_T zhs zc9
          cases zhs
          exact k20_83 zx3 (itk_q zhq) zH zlocs zls (lv_sub zhl [1] rfl) zhw
        · replace zhs := br_F zhs zc9
          refine lv_iload_n zhx zhb dX6_eatenOn_26 rfl (lv_at zhl 5 rfl) ?_
          refine lv_iload zhx zhb dX6_eatenOn_27 (lv_at zhl 0 rfl) ?_
          obtain ⟨zv11, zhp, zhs⟩ := bnd_e zhs
          refine x_cSNI (As := [.int a3, .int zx4]) (rest := []) C zhw zhl (cOff_hasBit l D cI h a3 zx4 M zv11 zhp) (by decide) (by decide) (List.mem_of_getElem? (i := 25) rfl) kw_30_6 kw_1_2 kw_30_7 md_X11_hasBit rfl rfl (Nat.le_of_ble_eq_true rfl) dX6_eatenOn_29 (fun zH zlocs zhw hzv11 => ?_)
          refine lv_if_eq (tgt := 77) zhx zhb dX6_eatenOn_32 (by decide) (fun zc9 => ?_) (fun zc9 => ?_)
          · replace zhs := br_T zhs zc9
            obtain ⟨zv12, ze9, zhs⟩ := ltI_e zhs
            refine lv_iinc (v := zv12) (lv' := [(6, .int zv12), (5, .int zx3), (4, .int zv2), (0, .ref (h 63)), (1, .int a1), (3, .int a3)]) zhx zhb dX6_eatenOn_77 zhl (k := 0) rfl (by rw [ze9]; rfl) (by decide) rfl (fun zls zhl => ?_)
            clear ze9
            refine lv_goto (tgt := 20) zhx zhb dX6_eatenOn_80 (by decide) ?_
            cases zhs
            exact zih zx3 zv12 zq (itk_l zhq) k20_68 k20_83 zH zlocs zls zhl zhw
          · replace zhs := br_F zhs zc9
            refine lv_aload_n zhx zhb dX6_eatenOn_35 rfl (lv_at zhl 3 rfl) ?_
            refine x_get C zhw inlX6 rfl 63 1 (by decide) kw_6_4 rfl (wX_c63 h cI M) rfl dX6_eatenOn_36 ?_
            refine lv_iload_n zhx zhb dX6_eatenOn_39 rfl (lv_at zhl 4 rfl) ?_
            refine lv_iload zhx zhb dX6_eatenOn_40 (lv_at zhl 2 rfl) ?_
            refine lv_aload_n zhx zhb dX6_eatenOn_42 rfl (lv_at zhl 3 rfl) ?_
            refine x_get C zhw inlX6 rfl 63 0 (by decide) kw_6_3 rfl (wX_c63 h cI M) rfl dX6_eatenOn_43 ?_
            refine x_getN C zhw inlX3 rfl 58 0 (by decide) (List.mem_of_getElem? (i := 34) rfl) rfl (wX_c58 h cI M) rfl dX6_eatenOn_46 ?_
            refine x_getN C zhw inlX10 rfl 22 1 (by decide) (List.mem_of_getElem? (i := 23) rfl) rfl (wX_c22 h cI M) rfl dX6_eatenOn_49 ?_
            refine lv_iload zhx zhb dX6_eatenOn_52 (lv_at zhl 0 rfl) ?_
            obtain ⟨zv13, zhp, zhs⟩ := bnd_e zhs
            refine x_cVI (As := [.int zx4]) (rest := [.int zv2, .int a1, .ref (h 59)]) C zhw zhl (cFoods_bitsOfSort_l l D cI h zx4 M zv13 zhp) (by decide) (by decide) kw_31_0 kw_31_1 kw_31_2 kw_3_15 kw_31_3 md_X2_bitsOfSort rfl 27 (wX_c27 h cI M) rfl rfl rfl rfl (Nat.le_of_ble_eq_true rfl) dX6_eatenOn_54 (fun zH zlocs zhw hn9 => ?_)
            refine lv_iand zhx zhb dX6_eatenOn_57 ?_
            obtain ⟨zv14, zhp, zhs⟩ := bnd_e zhs
            refine x_cVI (As := [.int a1, .int (zv2 &&& zv13)]) (rest := []) C zhw zhl (cEvenings_oldestOn l D cI h N a1 (zv2 &&& zv13) M zv14 zhp) (by decide) (by decide) kw_31_4 kw_31_5 kw_31_6 kw_2_10 kw_31_7 md_X1_oldestOn rfl 59 (wX_c59 h cI M) rfl rfl rfl rfl (Nat.le_of_ble_eq_true rfl) dX6_eatenOn_58 (fun zH zlocs zhw hn9 => ?_)
            refine lv_istore (lv' := [(7, .int zv14), (6, .int zx4), (5, .int zx3), (4, .int zv2), (0, .ref (h 63)), (1, .int a1), (3, .int a3)]) zhx zhb dX6_eatenOn_61 zhl (by decide) rfl (fun zls zhl => ?_)
            refine lv_iload zhx zhb dX6_eatenOn_63 (lv_at zhl 0 rfl) ?_
            refine lv_if_ne (tgt := 70) zhx zhb dX6_eatenOn_65 (by decide) (fun zc9 => ?_) (fun zc9 => ?_)
            · replace zhs := br_F zhs zc9
              refine lv_iload zhx zhb dX6_eatenOn_70 (lv_at zhl 2 rfl) ?_
              refine lv_iload zhx zhb dX6_eatenOn_72 (lv_at zhl 0 rfl) ?_
              refine lv_ior zhx zhb dX6_eatenOn_74 ?_
              obtain ⟨zv15, ze9, zhs⟩ := ltI_e zhs
              refine lv_topi (fun zy9 ze8 => ?_)
              obtain rfl : zv15 = zy9 := ze9.trans ze8.symm
              clear ze9 ze8
              refine lv_istore (lv' := [(5, .int zv15), (7, .int zv14), (6, .int zx4), (4, .int zv2), (0, .ref (h 63)), (1, .int a1), (3, .int a3)]) zhx zhb dX6_eatenOn_75 zhl (by decide) rfl (fun zls zhl => ?_)
              obtain ⟨zv16, ze9, zhs⟩ := ltI_e zhs
              refine lv_iinc (v := zv16) (lv' := [(6, .int zv16), (5, .int zv15), (7, .int zv14), (4, .int zv2), (0, .ref (h 63)), (1, .int a1), (3, .int a3)]) zhx zhb dX6_eatenOn_77 zhl (k := 2) rfl (by rw [ze9]; rfl) (by decide) rfl (fun zls zhl => ?_)
              clear ze9
              refine lv_goto (tgt := 20) zhx zhb dX6_eatenOn_80 (by decide) ?_
              cases zhs
              exact zih zv15 zv16 zq (itk_l zhq) k20_68 k20_83 zH zlocs zls (lv_sub zhl [0, 1, 3, 4, 5, 6] rfl) zhw
            · replace zhs := br_T zhs zc9
              cases zhs
              exact k20_68 (itk_q zhq) zH zlocs zls (lv_sub zhl [] rfl) zhw
  refine hloop17 N 0 0 zq17 zhq17 (fun zhqe zH zlocs zls zhl zhw => ?_) (fun zv18 zhqe zH zlocs zls zhl zhw => ?_) zH zlocs zls (lv_sub zhl [0, 1, 2, 3, 4, 6] rfl) zhw
  · subst zhqe
    try dsimp only at zhs
    refine lv_iconst (v := 0) zhx zhb dX6_eatenOn_68 (by decide) ?_
    cases zhs
    exact zhret _ _ _ _ dX6_eatenOn_69 (by rfl) zhw
  · subst zhqe
    try dsimp only at zhs
    refine lv_iload zhx zhb dX6_eatenOn_83 (lv_at zhl 0 rfl) ?_
    cases zhs
    exact zhret _ _ _ _ dX6_eatenOn_85 (by rfl) zhw

