section
-- ===== PART A: goes FIRST, ahead of the names: the tables' words, and 'selects' of the private methods out of them =====
/-- a private method of a class that the tables say can be made, by its rows of tables_1 -/
def lw_okq (q : MethodName × Nat) : Prop := (q.1.cls ≠ "java/lang/invoke/MethodHandle" ∧ q.1.cls ≠ "java/lang/invoke/VarHandle") ∧ Cond.instantiable q.1.cls q.2 ∈ tables_1 ∧ Cond.privateMethod q.1 ∈ tables_1 ∧ Cond.instanceMethod q.1 ∈ tables_1
theorem lw_p0 : lw_okq (⟨"OffFirst$Told", "clear", "()V"⟩, 8) := ⟨⟨by decide +kernel, by decide +kernel⟩, List.mem_of_getElem? (i := 52) (by decide +kernel), List.mem_of_getElem? (i := 414) (by decide +kernel), List.mem_of_getElem? (i := 415) (by decide +kernel)⟩
theorem lw_p1 : lw_okq (⟨"OffFirst$Text", "byteAt", "(I)I"⟩, 5) := ⟨⟨by decide +kernel, by decide +kernel⟩, List.mem_of_getElem? (i := 25) (by decide +kernel), List.mem_of_getElem? (i := 434) (by decide +kernel), List.mem_of_getElem? (i := 435) (by decide +kernel)⟩
theorem lw_p2 : lw_okq (⟨"OffFirst$Text", "readNumber", "(I)I"⟩, 5) := ⟨⟨by decide +kernel, by decide +kernel⟩, List.mem_of_getElem? (i := 25) (by decide +kernel), List.mem_of_getElem? (i := 439) (by decide +kernel), List.mem_of_getElem? (i := 440) (by decide +kernel)⟩
theorem lw_p3 : lw_okq (⟨"OffFirst$Told", "takeItem", "(LOffFirst$Text;)Z"⟩, 8) := ⟨⟨by decide +kernel, by decide +kernel⟩, List.mem_of_getElem? (i := 52) (by decide +kernel), List.mem_of_getElem? (i := 446) (by decide +kernel), List.mem_of_getElem? (i := 447) (by decide +kernel)⟩
theorem lw_p4 : lw_okq (⟨"OffFirst$Told", "takeCell", "(LOffFirst$Text;)Z"⟩, 8) := ⟨⟨by decide +kernel, by decide +kernel⟩, List.mem_of_getElem? (i := 52) (by decide +kernel), List.mem_of_getElem? (i := 450) (by decide +kernel), List.mem_of_getElem? (i := 451) (by decide +kernel)⟩
theorem lw_p5 : lw_okq (⟨"OffFirst$Told", "takeOpenedHour", "(LOffFirst$Text;)Z"⟩, 8) := ⟨⟨by decide +kernel, by decide +kernel⟩, List.mem_of_getElem? (i := 52) (by decide +kernel), List.mem_of_getElem? (i := 465) (by decide +kernel), List.mem_of_getElem? (i := 466) (by decide +kernel)⟩
theorem lw_p6 : lw_okq (⟨"OffFirst$Told", "takeFood", "(LOffFirst$Text;)Z"⟩, 8) := ⟨⟨by decide +kernel, by decide +kernel⟩, List.mem_of_getElem? (i := 52) (by decide +kernel), List.mem_of_getElem? (i := 473) (by decide +kernel), List.mem_of_getElem? (i := 474) (by decide +kernel)⟩
theorem lw_p7 : lw_okq (⟨"OffFirst$Told", "takeDish", "(LOffFirst$Text;)Z"⟩, 8) := ⟨⟨by decide +kernel, by decide +kernel⟩, List.mem_of_getElem? (i := 52) (by decide +kernel), List.mem_of_getElem? (i := 482) (by decide +kernel), List.mem_of_getElem? (i := 483) (by decide +kernel)⟩
theorem lw_p8 : lw_okq (⟨"OffFirst$Told", "takeEater", "(LOffFirst$Text;)Z"⟩, 8) := ⟨⟨by decide +kernel, by decide +kernel⟩, List.mem_of_getElem? (i := 52) (by decide +kernel), List.mem_of_getElem? (i := 487) (by decide +kernel), List.mem_of_getElem? (i := 488) (by decide +kernel)⟩
theorem lw_p9 : lw_okq (⟨"OffFirst$Told", "takeGuests", "(LOffFirst$Text;)Z"⟩, 8) := ⟨⟨by decide +kernel, by decide +kernel⟩, List.mem_of_getElem? (i := 52) (by decide +kernel), List.mem_of_getElem? (i := 491) (by decide +kernel), List.mem_of_getElem? (i := 492) (by decide +kernel)⟩
theorem lw_p10 : lw_okq (⟨"OffFirst$Told", "takePacks", "(LOffFirst$Text;)Z"⟩, 8) := ⟨⟨by decide +kernel, by decide +kernel⟩, List.mem_of_getElem? (i := 52) (by decide +kernel), List.mem_of_getElem? (i := 500) (by decide +kernel), List.mem_of_getElem? (i := 501) (by decide +kernel)⟩
theorem lw_p11 : lw_okq (⟨"OffFirst$Told", "takeSlip", "(LOffFirst$Text;)Z"⟩, 8) := ⟨⟨by decide +kernel, by decide +kernel⟩, List.mem_of_getElem? (i := 52) (by decide +kernel), List.mem_of_getElem? (i := 504) (by decide +kernel), List.mem_of_getElem? (i := 505) (by decide +kernel)⟩
theorem lw_p12 : lw_okq (⟨"OffFirst$Fridge", "ageAs", "(IIII)I"⟩, 2) := ⟨⟨by decide +kernel, by decide +kernel⟩, List.mem_of_getElem? (i := 214) (by decide +kernel), List.mem_of_getElem? (i := 600) (by decide +kernel), List.mem_of_getElem? (i := 601) (by decide +kernel)⟩
theorem lw_p13 : lw_okq (⟨"OffFirst", "takeAway", "(II)I"⟩, 12) := ⟨⟨by decide +kernel, by decide +kernel⟩, List.mem_of_getElem? (i := 17) (by decide +kernel), List.mem_of_getElem? (i := 657) (by decide +kernel), List.mem_of_getElem? (i := 658) (by decide +kernel)⟩
theorem lw_p14 : lw_okq (⟨"OffFirst$Planner", "tryEvening", "(III)V"⟩, 6) := ⟨⟨by decide +kernel, by decide +kernel⟩, List.mem_of_getElem? (i := 252) (by decide +kernel), List.mem_of_getElem? (i := 715) (by decide +kernel), List.mem_of_getElem? (i := 716) (by decide +kernel)⟩
theorem lw_p15 : lw_okq (⟨"OffFirst$Planner", "settle", "(I)V"⟩, 6) := ⟨⟨by decide +kernel, by decide +kernel⟩, List.mem_of_getElem? (i := 252) (by decide +kernel), List.mem_of_getElem? (i := 730) (by decide +kernel), List.mem_of_getElem? (i := 731) (by decide +kernel)⟩
def lw_privs_1 : List (MethodName × Nat) := [(⟨"OffFirst$Told", "clear", "()V"⟩, 8), (⟨"OffFirst$Text", "byteAt", "(I)I"⟩, 5), (⟨"OffFirst$Text", "readNumber", "(I)I"⟩, 5), (⟨"OffFirst$Told", "takeItem", "(LOffFirst$Text;)Z"⟩, 8), (⟨"OffFirst$Told", "takeCell", "(LOffFirst$Text;)Z"⟩, 8), (⟨"OffFirst$Told", "takeOpenedHour", "(LOffFirst$Text;)Z"⟩, 8), (⟨"OffFirst$Told", "takeFood", "(LOffFirst$Text;)Z"⟩, 8), (⟨"OffFirst$Told", "takeDish", "(LOffFirst$Text;)Z"⟩, 8), (⟨"OffFirst$Told", "takeEater", "(LOffFirst$Text;)Z"⟩, 8), (⟨"OffFirst$Told", "takeGuests", "(LOffFirst$Text;)Z"⟩, 8), (⟨"OffFirst$Told", "takePacks", "(LOffFirst$Text;)Z"⟩, 8), (⟨"OffFirst$Told", "takeSlip", "(LOffFirst$Text;)Z"⟩, 8), (⟨"OffFirst$Fridge", "ageAs", "(IIII)I"⟩, 2), (⟨"OffFirst", "takeAway", "(II)I"⟩, 12), (⟨"OffFirst$Planner", "tryEvening", "(III)V"⟩, 6), (⟨"OffFirst$Planner", "settle", "(I)V"⟩, 6)]
theorem lw_r1 : ∀ q ∈ lw_privs_1, lw_okq q := List.forall_mem_cons.mpr ⟨lw_p0, List.forall_mem_cons.mpr ⟨lw_p1, List.forall_mem_cons.mpr ⟨lw_p2, List.forall_mem_cons.mpr ⟨lw_p3, List.forall_mem_cons.mpr ⟨lw_p4, List.forall_mem_cons.mpr ⟨lw_p5, List.forall_mem_cons.mpr ⟨lw_p6, List.forall_mem_cons.mpr ⟨lw_p7, List.forall_mem_cons.mpr ⟨lw_p8, List.forall_mem_cons.mpr ⟨lw_p9, List.forall_mem_cons.mpr ⟨lw_p10, List.forall_mem_cons.mpr ⟨lw_p11, List.forall_mem_cons.mpr ⟨lw_p12, List.forall_mem_cons.mpr ⟨lw_p13, List.forall_mem_cons.mpr ⟨lw_p14, List.forall_mem_cons.mpr ⟨lw_p15, fun _ h => absurd h List.not_mem_nil⟩⟩⟩⟩⟩⟩⟩⟩⟩⟩⟩⟩⟩⟩⟩⟩
theorem lw_p16 : lw_okq (⟨"OffFirst$Planner", "eatenOn", "(III)I"⟩, 6) := ⟨⟨by decide +kernel, by decide +kernel⟩, List.mem_of_getElem? (i := 252) (by decide +kernel), List.mem_of_getElem? (i := 745) (by decide +kernel), List.mem_of_getElem? (i := 746) (by decide +kernel)⟩
theorem lw_p17 : lw_okq (⟨"OffFirst$Evenings", "isOlderOn", "(III)Z"⟩, 4) := ⟨⟨by decide +kernel, by decide +kernel⟩, List.mem_of_getElem? (i := 233) (by decide +kernel), List.mem_of_getElem? (i := 759) (by decide +kernel), List.mem_of_getElem? (i := 760) (by decide +kernel)⟩
theorem lw_p18 : lw_okq (⟨"OffFirst$Layer", "lookAtFoods", "(I)I"⟩, 7) := ⟨⟨by decide +kernel, by decide +kernel⟩, List.mem_of_getElem? (i := 278) (by decide +kernel), List.mem_of_getElem? (i := 799) (by decide +kernel), List.mem_of_getElem? (i := 800) (by decide +kernel)⟩
theorem lw_p19 : lw_okq (⟨"OffFirst$Layer", "tryFood", "(II)V"⟩, 7) := ⟨⟨by decide +kernel, by decide +kernel⟩, List.mem_of_getElem? (i := 278) (by decide +kernel), List.mem_of_getElem? (i := 808) (by decide +kernel), List.mem_of_getElem? (i := 809) (by decide +kernel)⟩
theorem lw_p20 : lw_okq (⟨"OffFirst$Layer", "settle", "(I)V"⟩, 7) := ⟨⟨by decide +kernel, by decide +kernel⟩, List.mem_of_getElem? (i := 278) (by decide +kernel), List.mem_of_getElem? (i := 812) (by decide +kernel), List.mem_of_getElem? (i := 813) (by decide +kernel)⟩
theorem lw_p21 : lw_okq (⟨"OffFirstModel", "noFridge", "(I)V"⟩, 33) := ⟨⟨by decide +kernel, by decide +kernel⟩, List.mem_of_getElem? (i := 968) (by decide +kernel), List.mem_of_getElem? (i := 974) (by decide +kernel), List.mem_of_getElem? (i := 975) (by decide +kernel)⟩
theorem lw_p22 : lw_okq (⟨"OffFirstModel", "layFridge", "()V"⟩, 33) := ⟨⟨by decide +kernel, by decide +kernel⟩, List.mem_of_getElem? (i := 968) (by decide +kernel), List.mem_of_getElem? (i := 978) (by decide +kernel), List.mem_of_getElem? (i := 979) (by decide +kernel)⟩
theorem lw_p23 : lw_okq (⟨"OffFirstModel", "readAll", "()I"⟩, 33) := ⟨⟨by decide +kernel, by decide +kernel⟩, List.mem_of_getElem? (i := 968) (by decide +kernel), List.mem_of_getElem? (i := 1099) (by decide +kernel), List.mem_of_getElem? (i := 1100) (by decide +kernel)⟩
theorem lw_p24 : lw_okq (⟨"OffFirstModel", "item", "()Z"⟩, 33) := ⟨⟨by decide +kernel, by decide +kernel⟩, List.mem_of_getElem? (i := 968) (by decide +kernel), List.mem_of_getElem? (i := 1103) (by decide +kernel), List.mem_of_getElem? (i := 1104) (by decide +kernel)⟩
theorem lw_p25 : lw_okq (⟨"OffFirstModel", "byteAt", "(I)I"⟩, 33) := ⟨⟨by decide +kernel, by decide +kernel⟩, List.mem_of_getElem? (i := 968) (by decide +kernel), List.mem_of_getElem? (i := 1107) (by decide +kernel), List.mem_of_getElem? (i := 1108) (by decide +kernel)⟩
theorem lw_p26 : lw_okq (⟨"OffFirstModel", "cellItem", "()Z"⟩, 33) := ⟨⟨by decide +kernel, by decide +kernel⟩, List.mem_of_getElem? (i := 968) (by decide +kernel), List.mem_of_getElem? (i := 1111) (by decide +kernel), List.mem_of_getElem? (i := 1112) (by decide +kernel)⟩
theorem lw_p27 : lw_okq (⟨"OffFirstModel", "figures", "(I)Z"⟩, 33) := ⟨⟨by decide +kernel, by decide +kernel⟩, List.mem_of_getElem? (i := 968) (by decide +kernel), List.mem_of_getElem? (i := 1115) (by decide +kernel), List.mem_of_getElem? (i := 1116) (by decide +kernel)⟩
theorem lw_p28 : lw_okq (⟨"OffFirstModel", "foodItem", "()Z"⟩, 33) := ⟨⟨by decide +kernel, by decide +kernel⟩, List.mem_of_getElem? (i := 968) (by decide +kernel), List.mem_of_getElem? (i := 1123) (by decide +kernel), List.mem_of_getElem? (i := 1124) (by decide +kernel)⟩
theorem lw_p29 : lw_okq (⟨"OffFirstModel", "isRoomy", "()Z"⟩, 33) := ⟨⟨by decide +kernel, by decide +kernel⟩, List.mem_of_getElem? (i := 968) (by decide +kernel), List.mem_of_getElem? (i := 1135) (by decide +kernel), List.mem_of_getElem? (i := 1136) (by decide +kernel)⟩
theorem lw_p30 : lw_okq (⟨"OffFirstModel", "isFood", "(I)Z"⟩, 33) := ⟨⟨by decide +kernel, by decide +kernel⟩, List.mem_of_getElem? (i := 968) (by decide +kernel), List.mem_of_getElem? (i := 1143) (by decide +kernel), List.mem_of_getElem? (i := 1144) (by decide +kernel)⟩
theorem lw_p31 : lw_okq (⟨"OffFirstModel", "limitOf", "(I)I"⟩, 33) := ⟨⟨by decide +kernel, by decide +kernel⟩, List.mem_of_getElem? (i := 968) (by decide +kernel), List.mem_of_getElem? (i := 1148) (by decide +kernel), List.mem_of_getElem? (i := 1149) (by decide +kernel)⟩
def lw_privs_2 : List (MethodName × Nat) := [(⟨"OffFirst$Planner", "eatenOn", "(III)I"⟩, 6), (⟨"OffFirst$Evenings", "isOlderOn", "(III)Z"⟩, 4), (⟨"OffFirst$Layer", "lookAtFoods", "(I)I"⟩, 7), (⟨"OffFirst$Layer", "tryFood", "(II)V"⟩, 7), (⟨"OffFirst$Layer", "settle", "(I)V"⟩, 7), (⟨"OffFirstModel", "noFridge", "(I)V"⟩, 33), (⟨"OffFirstModel", "layFridge", "()V"⟩, 33), (⟨"OffFirstModel", "readAll", "()I"⟩, 33), (⟨"OffFirstModel", "item", "()Z"⟩, 33), (⟨"OffFirstModel", "byteAt", "(I)I"⟩, 33), (⟨"OffFirstModel", "cellItem", "()Z"⟩, 33), (⟨"OffFirstModel", "figures", "(I)Z"⟩, 33), (⟨"OffFirstModel", "foodItem", "()Z"⟩, 33), (⟨"OffFirstModel", "isRoomy", "()Z"⟩, 33), (⟨"OffFirstModel", "isFood", "(I)Z"⟩, 33), (⟨"OffFirstModel", "limitOf", "(I)I"⟩, 33)]
theorem lw_r2 : ∀ q ∈ lw_privs_2, lw_okq q := List.forall_mem_cons.mpr ⟨lw_p16, List.forall_mem_cons.mpr ⟨lw_p17, List.forall_mem_cons.mpr ⟨lw_p18, List.forall_mem_cons.mpr ⟨lw_p19, List.forall_mem_cons.mpr ⟨lw_p20, List.forall_mem_cons.mpr ⟨lw_p21, List.forall_mem_cons.mpr ⟨lw_p22, List.forall_mem_cons.mpr ⟨lw_p23, List.forall_mem_cons.mpr ⟨lw_p24, List.forall_mem_cons.mpr ⟨lw_p25, List.forall_mem_cons.mpr ⟨lw_p26, List.forall_mem_cons.mpr ⟨lw_p27, List.forall_mem_cons.mpr ⟨lw_p28, List.forall_mem_cons.mpr ⟨lw_p29, List.forall_mem_cons.mpr ⟨lw_p30, List.forall_mem_cons.mpr ⟨lw_p31, fun _ h => absurd h List.not_mem_nil⟩⟩⟩⟩⟩⟩⟩⟩⟩⟩⟩⟩⟩⟩⟩⟩
theorem lw_p32 : lw_okq (⟨"OffFirstModel", "isOff", "(I)Z"⟩, 33) := ⟨⟨by decide +kernel, by decide +kernel⟩, List.mem_of_getElem? (i := 968) (by decide +kernel), List.mem_of_getElem? (i := 1152) (by decide +kernel), List.mem_of_getElem? (i := 1153) (by decide +kernel)⟩
theorem lw_p33 : lw_okq (⟨"OffFirstModel", "isCell", "(I)Z"⟩, 33) := ⟨⟨by decide +kernel, by decide +kernel⟩, List.mem_of_getElem? (i := 968) (by decide +kernel), List.mem_of_getElem? (i := 1160) (by decide +kernel), List.mem_of_getElem? (i := 1161) (by decide +kernel)⟩
theorem lw_p34 : lw_okq (⟨"OffFirstModel", "warmthOf", "(II)I"⟩, 33) := ⟨⟨by decide +kernel, by decide +kernel⟩, List.mem_of_getElem? (i := 968) (by decide +kernel), List.mem_of_getElem? (i := 1165) (by decide +kernel), List.mem_of_getElem? (i := 1166) (by decide +kernel)⟩
theorem lw_p35 : lw_okq (⟨"OffFirstModel", "goHour", "(I)V"⟩, 33) := ⟨⟨by decide +kernel, by decide +kernel⟩, List.mem_of_getElem? (i := 968) (by decide +kernel), List.mem_of_getElem? (i := 1178) (by decide +kernel), List.mem_of_getElem? (i := 1179) (by decide +kernel)⟩
theorem lw_p36 : lw_okq (⟨"OffFirstModel", "inCell", "(I)I"⟩, 33) := ⟨⟨by decide +kernel, by decide +kernel⟩, List.mem_of_getElem? (i := 968) (by decide +kernel), List.mem_of_getElem? (i := 1189) (by decide +kernel), List.mem_of_getElem? (i := 1190) (by decide +kernel)⟩
theorem lw_p37 : lw_okq (⟨"OffFirstModel", "take", "(II)I"⟩, 33) := ⟨⟨by decide +kernel, by decide +kernel⟩, List.mem_of_getElem? (i := 968) (by decide +kernel), List.mem_of_getElem? (i := 1201) (by decide +kernel), List.mem_of_getElem? (i := 1202) (by decide +kernel)⟩
theorem lw_p38 : lw_okq (⟨"OffFirstModel", "copy", "(II)V"⟩, 33) := ⟨⟨by decide +kernel, by decide +kernel⟩, List.mem_of_getElem? (i := 968) (by decide +kernel), List.mem_of_getElem? (i := 1221) (by decide +kernel), List.mem_of_getElem? (i := 1222) (by decide +kernel)⟩
theorem lw_p39 : lw_okq (⟨"OffFirstModel", "lostOf", "(I)I"⟩, 33) := ⟨⟨by decide +kernel, by decide +kernel⟩, List.mem_of_getElem? (i := 968) (by decide +kernel), List.mem_of_getElem? (i := 1225) (by decide +kernel), List.mem_of_getElem? (i := 1226) (by decide +kernel)⟩
theorem lw_p40 : lw_okq (⟨"OffFirstModel", "offCoin", "(I)I"⟩, 33) := ⟨⟨by decide +kernel, by decide +kernel⟩, List.mem_of_getElem? (i := 968) (by decide +kernel), List.mem_of_getElem? (i := 1229) (by decide +kernel), List.mem_of_getElem? (i := 1230) (by decide +kernel)⟩
theorem lw_p41 : lw_okq (⟨"OffFirstModel", "costOf", "(II)I"⟩, 33) := ⟨⟨by decide +kernel, by decide +kernel⟩, List.mem_of_getElem? (i := 968) (by decide +kernel), List.mem_of_getElem? (i := 1239) (by decide +kernel), List.mem_of_getElem? (i := 1240) (by decide +kernel)⟩
theorem lw_p42 : lw_okq (⟨"OffFirstModel", "goToEvening", "()V"⟩, 33) := ⟨⟨by decide +kernel, by decide +kernel⟩, List.mem_of_getElem? (i := 968) (by decide +kernel), List.mem_of_getElem? (i := 1243) (by decide +kernel), List.mem_of_getElem? (i := 1244) (by decide +kernel)⟩
theorem lw_p43 : lw_okq (⟨"OffFirstModel", "figure", "(IIII)I"⟩, 33) := ⟨⟨by decide +kernel, by decide +kernel⟩, List.mem_of_getElem? (i := 968) (by decide +kernel), List.mem_of_getElem? (i := 1247) (by decide +kernel), List.mem_of_getElem? (i := 1248) (by decide +kernel)⟩
theorem lw_p44 : lw_okq (⟨"OffFirstModel", "eatDish", "(I)Z"⟩, 33) := ⟨⟨by decide +kernel, by decide +kernel⟩, List.mem_of_getElem? (i := 968) (by decide +kernel), List.mem_of_getElem? (i := 1251) (by decide +kernel), List.mem_of_getElem? (i := 1252) (by decide +kernel)⟩
theorem lw_p45 : lw_okq (⟨"OffFirstModel", "oldestOf", "(I)I"⟩, 33) := ⟨⟨by decide +kernel, by decide +kernel⟩, List.mem_of_getElem? (i := 968) (by decide +kernel), List.mem_of_getElem? (i := 1255) (by decide +kernel), List.mem_of_getElem? (i := 1256) (by decide +kernel)⟩
theorem lw_p46 : lw_okq (⟨"OffFirstModel", "isOlder", "(II)Z"⟩, 33) := ⟨⟨by decide +kernel, by decide +kernel⟩, List.mem_of_getElem? (i := 968) (by decide +kernel), List.mem_of_getElem? (i := 1259) (by decide +kernel), List.mem_of_getElem? (i := 1260) (by decide +kernel)⟩
theorem lw_p47 : lw_okq (⟨"OffFirstModel", "hungryOf", "(I)I"⟩, 33) := ⟨⟨by decide +kernel, by decide +kernel⟩, List.mem_of_getElem? (i := 968) (by decide +kernel), List.mem_of_getElem? (i := 1263) (by decide +kernel), List.mem_of_getElem? (i := 1264) (by decide +kernel)⟩
def lw_privs_3 : List (MethodName × Nat) := [(⟨"OffFirstModel", "isOff", "(I)Z"⟩, 33), (⟨"OffFirstModel", "isCell", "(I)Z"⟩, 33), (⟨"OffFirstModel", "warmthOf", "(II)I"⟩, 33), (⟨"OffFirstModel", "goHour", "(I)V"⟩, 33), (⟨"OffFirstModel", "inCell", "(I)I"⟩, 33), (⟨"OffFirstModel", "take", "(II)I"⟩, 33), (⟨"OffFirstModel", "copy", "(II)V"⟩, 33), (⟨"OffFirstModel", "lostOf", "(I)I"⟩, 33), (⟨"OffFirstModel", "offCoin", "(I)I"⟩, 33), (⟨"OffFirstModel", "costOf", "(II)I"⟩, 33), (⟨"OffFirstModel", "goToEvening", "()V"⟩, 33), (⟨"OffFirstModel", "figure", "(IIII)I"⟩, 33), (⟨"OffFirstModel", "eatDish", "(I)Z"⟩, 33), (⟨"OffFirstModel", "oldestOf", "(I)I"⟩, 33), (⟨"OffFirstModel", "isOlder", "(II)Z"⟩, 33), (⟨"OffFirstModel", "hungryOf", "(I)I"⟩, 33)]
theorem lw_r3 : ∀ q ∈ lw_privs_3, lw_okq q := List.forall_mem_cons.mpr ⟨lw_p32, List.forall_mem_cons.mpr ⟨lw_p33, List.forall_mem_cons.mpr ⟨lw_p34, List.forall_mem_cons.mpr ⟨lw_p35, List.forall_mem_cons.mpr ⟨lw_p36, List.forall_mem_cons.mpr ⟨lw_p37, List.forall_mem_cons.mpr ⟨lw_p38, List.forall_mem_cons.mpr ⟨lw_p39, List.forall_mem_cons.mpr ⟨lw_p40, List.forall_mem_cons.mpr ⟨lw_p41, List.forall_mem_cons.mpr ⟨lw_p42, List.forall_mem_cons.mpr ⟨lw_p43, List.forall_mem_cons.mpr ⟨lw_p44, List.forall_mem_cons.mpr ⟨lw_p45, List.forall_mem_cons.mpr ⟨lw_p46, List.forall_mem_cons.mpr ⟨lw_p47, fun _ h => absurd h List.not_mem_nil⟩⟩⟩⟩⟩⟩⟩⟩⟩⟩⟩⟩⟩⟩⟩⟩
theorem lw_p48 : lw_okq (⟨"OffFirstModel", "thereMany", "()I"⟩, 33) := ⟨⟨by decide +kernel, by decide +kernel⟩, List.mem_of_getElem? (i := 968) (by decide +kernel), List.mem_of_getElem? (i := 1275) (by decide +kernel), List.mem_of_getElem? (i := 1276) (by decide +kernel)⟩
theorem lw_p49 : lw_okq (⟨"OffFirstModel", "layAs", "(II)Z"⟩, 33) := ⟨⟨by decide +kernel, by decide +kernel⟩, List.mem_of_getElem? (i := 968) (by decide +kernel), List.mem_of_getElem? (i := 1279) (by decide +kernel), List.mem_of_getElem? (i := 1280) (by decide +kernel)⟩
theorem lw_p50 : lw_okq (⟨"OffFirstModel", "expectOf", "(I)I"⟩, 33) := ⟨⟨by decide +kernel, by decide +kernel⟩, List.mem_of_getElem? (i := 968) (by decide +kernel), List.mem_of_getElem? (i := 1288) (by decide +kernel), List.mem_of_getElem? (i := 1289) (by decide +kernel)⟩
theorem lw_p51 : lw_okq (⟨"OffFirstModel", "errorsAt", "(I)I"⟩, 33) := ⟨⟨by decide +kernel, by decide +kernel⟩, List.mem_of_getElem? (i := 968) (by decide +kernel), List.mem_of_getElem? (i := 1305) (by decide +kernel), List.mem_of_getElem? (i := 1306) (by decide +kernel)⟩
theorem lw_p52 : lw_okq (⟨"OffFirstModel", "illOf", "(I)I"⟩, 33) := ⟨⟨by decide +kernel, by decide +kernel⟩, List.mem_of_getElem? (i := 968) (by decide +kernel), List.mem_of_getElem? (i := 1321) (by decide +kernel), List.mem_of_getElem? (i := 1322) (by decide +kernel)⟩
theorem lw_p53 : lw_okq (⟨"OffFirstModel", "fitsOf", "(I)I"⟩, 33) := ⟨⟨by decide +kernel, by decide +kernel⟩, List.mem_of_getElem? (i := 968) (by decide +kernel), List.mem_of_getElem? (i := 1339) (by decide +kernel), List.mem_of_getElem? (i := 1340) (by decide +kernel)⟩
theorem lw_p54 : lw_okq (⟨"OffFirstModel", "takenBy", "(I)I"⟩, 33) := ⟨⟨by decide +kernel, by decide +kernel⟩, List.mem_of_getElem? (i := 968) (by decide +kernel), List.mem_of_getElem? (i := 1351) (by decide +kernel), List.mem_of_getElem? (i := 1352) (by decide +kernel)⟩
def lw_privs_4 : List (MethodName × Nat) := [(⟨"OffFirstModel", "thereMany", "()I"⟩, 33), (⟨"OffFirstModel", "layAs", "(II)Z"⟩, 33), (⟨"OffFirstModel", "expectOf", "(I)I"⟩, 33), (⟨"OffFirstModel", "errorsAt", "(I)I"⟩, 33), (⟨"OffFirstModel", "illOf", "(I)I"⟩, 33), (⟨"OffFirstModel", "fitsOf", "(I)I"⟩, 33), (⟨"OffFirstModel", "takenBy", "(I)I"⟩, 33)]
theorem lw_r4 : ∀ q ∈ lw_privs_4, lw_okq q := List.forall_mem_cons.mpr ⟨lw_p48, List.forall_mem_cons.mpr ⟨lw_p49, List.forall_mem_cons.mpr ⟨lw_p50, List.forall_mem_cons.mpr ⟨lw_p51, List.forall_mem_cons.mpr ⟨lw_p52, List.forall_mem_cons.mpr ⟨lw_p53, List.forall_mem_cons.mpr ⟨lw_p54, fun _ h => absurd h List.not_mem_nil⟩⟩⟩⟩⟩⟩⟩
def lw_privs : List (MethodName × Nat) := lw_privs_1 ++ (lw_privs_2 ++ (lw_privs_3 ++ (lw_privs_4)))
def lw_tbl : List Cond := k2_sels lw_privs ++ tables_1
theorem lw_privs_ok : ∀ q ∈ lw_privs, lw_okq q := by
  show ∀ q ∈ lw_privs_1 ++ (lw_privs_2 ++ (lw_privs_3 ++ (lw_privs_4))), lw_okq q
  exact List.forall_mem_append.mpr ⟨lw_r1, List.forall_mem_append.mpr ⟨lw_r2, List.forall_mem_append.mpr ⟨lw_r3, lw_r4⟩⟩⟩
end
section
/-! ===== BEGIN words of one list among another's, by their places ===== -/
theorem goodIn_r {big : List Cond} (ws : List Cond) (ps : List Nat) (hp : ws = ps.filterMap (fun i => big[i]?)) (h : ws.all goodWord = true) : GoodIn big ws := by
  intro w hw
  have h1 := List.all_eq_true.mp h w hw
  rw [hp] at hw
  obtain ⟨i, -, hi⟩ := List.mem_filterMap.mp hw
  have hm : w ∈ big := by first | exact List.mem_of_getElem? hi | exact List.getElem?_mem hi
  exact ⟨hm, good_of_word h1⟩
theorem goodIn_app {big a b : List Cond} (ha : GoodIn big a) (hb : GoodIn big b) : GoodIn big (a ++ b) := fun w h => (List.mem_append.mp h).elim (ha w) (hb w)
theorem goodIn_ca {big a b : List Cond} {c : Cond} (ha : GoodIn big (c :: a)) (hb : GoodIn big b) : GoodIn big (c :: (a ++ b)) := fun w h => (List.mem_cons.mp h).elim (fun e => ha w (List.mem_cons.mpr (Or.inl e))) (fun h => (List.mem_append.mp h).elim (fun h => ha w (List.mem_cons.mpr (Or.inr h))) (hb w))
theorem goodIn_sub {big ws : List Cond} (hm : ∀ w ∈ ws, w ∈ big) (h : ws.all goodWord = true) : GoodIn big ws := fun w hw => ⟨hm w hw, good_of_word (List.all_eq_true.mp h w hw)⟩
/-! ===== END ===== -/

/-! ===== BEGIN printed: names, fields, word lists, decode rows ===== -/
def RX0 : String := "OffFirst$Cells"
def TX0 : u_T := fun k => match k with
  | 0 => ("OffFirst$Cells", "warm", "[I", true)
  | 1 => ("OffFirst$Cells", "more", "[I", true)
  | 2 => ("OffFirst$Cells", "room", "[I", true)
  | 3 => ("OffFirst$Cells", "number", "I", false)
  | _ => ("OffFirst$Cells", "openedHours", "I", false)
def tyX0 : Nat → FieldType := fun k => match k with
  | 0 => .array .int
  | 1 => .array .int
  | 2 => .array .int
  | 3 => .int
  | _ => .int
abbrev wsX00 : List Cond := u_ws RX0 TX0 5
theorem nmX0 : ∀ a, a < 5 → ∀ b, b < 5 → a ≠ b → (TX0 a).2.1 ≠ (TX0 b).2.1 := by decide +kernel
theorem tyX0_ok : ∀ k, k < 5 → parseFieldDescriptor (TX0 k).2.2.1 = some (tyX0 k) := by decide +kernel
abbrev cX0_init : ByteArray := prog_2_method_1_code
def yX0_init : MethodName := ⟨RX0, "<init>", "()V"⟩
abbrev cX0_clear : ByteArray := prog_2_method_2_code
def yX0_clear : MethodName := ⟨RX0, "clear", "()V"⟩
abbrev cX0_add : ByteArray := prog_2_method_3_code
def yX0_add : MethodName := ⟨RX0, "add", "(III)Z"⟩
abbrev cX0_openIn : ByteArray := prog_2_method_4_code
def yX0_openIn : MethodName := ⟨RX0, "openIn", "(I)V"⟩
abbrev cX0_has : ByteArray := prog_2_method_5_code
def yX0_has : MethodName := ⟨RX0, "has", "(I)Z"⟩
abbrev cX0_roomOf : ByteArray := prog_2_method_6_code
def yX0_roomOf : MethodName := ⟨RX0, "roomOf", "(I)I"⟩
abbrev cX0_isOpenedIn : ByteArray := prog_2_method_7_code
def yX0_isOpenedIn : MethodName := ⟨RX0, "isOpenedIn", "(I)Z"⟩
abbrev cX0_warmIn : ByteArray := prog_2_method_8_code
def yX0_warmIn : MethodName := ⟨RX0, "warmIn", "(II)I"⟩
abbrev cX0_warmthOver : ByteArray := prog_2_method_9_code
def yX0_warmthOver : MethodName := ⟨RX0, "warmthOver", "(III)I"⟩
abbrev cX0_warmthOverCut : ByteArray := prog_2_method_10_code
def yX0_warmthOverCut : MethodName := ⟨RX0, "warmthOverCut", "(IIZ)I"⟩
def RX1 : String := "OffFirst$Evenings"
def TX1 : u_T := fun k => match k with
  | 0 => ("OffFirst$Evenings", "fridge", "LOffFirst$Fridge;", true)
  | 1 => ("OffFirst$Evenings", "ages", "[I", true)
  | 2 => ("OffFirst$Evenings", "limits", "[I", true)
  | _ => ("OffFirst$Evenings", "offs", "[I", true)
def tyX1 : Nat → FieldType := fun k => match k with
  | 0 => .object "OffFirst$Fridge"
  | 1 => .array .int
  | 2 => .array .int
  | _ => .array .int
abbrev wsX10 : List Cond := u_ws RX1 TX1 4
theorem nmX1 : ∀ a, a < 4 → ∀ b, b < 4 → a ≠ b → (TX1 a).2.1 ≠ (TX1 b).2.1 := by decide +kernel
theorem tyX1_ok : ∀ k, k < 4 → parseFieldDescriptor (TX1 k).2.2.1 = some (tyX1 k) := by decide +kernel
abbrev cX1_init : ByteArray := prog_3_method_1_code
def yX1_init : MethodName := ⟨RX1, "<init>", "(LOffFirst$Fridge;)V"⟩
abbrev cX1_lookAhead : ByteArray := prog_3_method_2_code
def yX1_lookAhead : MethodName := ⟨RX1, "lookAhead", "(I)V"⟩
abbrev cX1_offOn : ByteArray := prog_3_method_3_code
def yX1_offOn : MethodName := ⟨RX1, "offOn", "(I)I"⟩
abbrev cX1_oldestOn : ByteArray := prog_3_method_4_code
def yX1_oldestOn : MethodName := ⟨RX1, "oldestOn", "(II)I"⟩
abbrev cX1_isOlderOn : ByteArray := prog_3_method_5_code
def yX1_isOlderOn : MethodName := ⟨RX1, "isOlderOn", "(III)Z"⟩
abbrev cX1_costOfHabit : ByteArray := prog_3_method_6_code
def yX1_costOfHabit : MethodName := ⟨RX1, "costOfHabit", "(III)I"⟩
abbrev cX1_isOneTaken : ByteArray := prog_3_method_7_code
def yX1_isOneTaken : MethodName := ⟨RX1, "isOneTaken", "(II)Z"⟩
abbrev cX1_highestOf : ByteArray := prog_3_method_8_code
def yX1_highestOf : MethodName := ⟨RX1, "highestOf", "(I)I"⟩
def RX2 : String := "OffFirst$Foods"
def TX2 : u_T := fun k => match k with
  | 0 => ("OffFirst$Foods", "kind", "[I", true)
  | 1 => ("OffFirst$Foods", "cell", "[I", true)
  | 2 => ("OffFirst$Foods", "coin", "[I", true)
  | 3 => ("OffFirst$Foods", "life", "[I", true)
  | 4 => ("OffFirst$Foods", "printed", "[I", true)
  | 5 => ("OffFirst$Foods", "sort", "[I", true)
  | 6 => ("OffFirst$Foods", "ofSort", "[I", true)
  | _ => ("OffFirst$Foods", "number", "I", false)
def tyX2 : Nat → FieldType := fun k => match k with
  | 0 => .array .int
  | 1 => .array .int
  | 2 => .array .int
  | 3 => .array .int
  | 4 => .array .int
  | 5 => .array .int
  | 6 => .array .int
  | _ => .int
abbrev wsX20 : List Cond := u_ws RX2 TX2 8
theorem nmX2 : ∀ a, a < 8 → ∀ b, b < 8 → a ≠ b → (TX2 a).2.1 ≠ (TX2 b).2.1 := by decide +kernel
theorem tyX2_ok : ∀ k, k < 8 → parseFieldDescriptor (TX2 k).2.2.1 = some (tyX2 k) := by decide +kernel
abbrev cX2_init : ByteArray := prog_4_method_1_code
def yX2_init : MethodName := ⟨RX2, "<init>", "()V"⟩
abbrev cX2_clear : ByteArray := prog_4_method_2_code
def yX2_clear : MethodName := ⟨RX2, "clear", "()V"⟩
abbrev cX2_add : ByteArray := prog_4_method_3_code
def yX2_add : MethodName := ⟨RX2, "add", "(IIIIII)Z"⟩
abbrev cX2_kindOf : ByteArray := prog_4_method_4_code
def yX2_kindOf : MethodName := ⟨RX2, "kindOf", "(I)I"⟩
abbrev cX2_cellOf : ByteArray := prog_4_method_5_code
def yX2_cellOf : MethodName := ⟨RX2, "cellOf", "(I)I"⟩
abbrev cX2_coinOf : ByteArray := prog_4_method_6_code
def yX2_coinOf : MethodName := ⟨RX2, "coinOf", "(I)I"⟩
abbrev cX2_printedOf : ByteArray := prog_4_method_7_code
def yX2_printedOf : MethodName := ⟨RX2, "printedOf", "(I)I"⟩
abbrev cX2_sortOf : ByteArray := prog_4_method_8_code
def yX2_sortOf : MethodName := ⟨RX2, "sortOf", "(I)I"⟩
abbrev cX2_limitAs : ByteArray := prog_4_method_9_code
def yX2_limitAs : MethodName := ⟨RX2, "limitAs", "(II)I"⟩
abbrev cX2_numberIn : ByteArray := prog_4_method_10_code
def yX2_numberIn : MethodName := ⟨RX2, "numberIn", "(I)I"⟩
abbrev cX2_coinOfAll : ByteArray := prog_4_method_11_code
def yX2_coinOfAll : MethodName := ⟨RX2, "coinOfAll", "(I)I"⟩
abbrev cX2_bitsOfSort : ByteArray := prog_4_method_12_code
def yX2_bitsOfSort : MethodName := ⟨RX2, "bitsOfSort", "(I)I"⟩
def RX3 : String := "OffFirst$Fridge"
def TX3 : u_T := fun k => match k with
  | 0 => ("OffFirst$Fridge", "laid", "LOffFirst$Told;", true)
  | _ => ("OffFirst$Fridge", "stock", "LOffFirst$Stock;", true)
def tyX3 : Nat → FieldType := fun k => match k with
  | 0 => .object "OffFirst$Told"
  | _ => .object "OffFirst$Stock"
abbrev wsX30 : List Cond := u_ws RX3 TX3 2
theorem nmX3 : ∀ a, a < 2 → ∀ b, b < 2 → a ≠ b → (TX3 a).2.1 ≠ (TX3 b).2.1 := by decide +kernel
theorem tyX3_ok : ∀ k, k < 2 → parseFieldDescriptor (TX3 k).2.2.1 = some (tyX3 k) := by decide +kernel
abbrev cX3_init : ByteArray := prog_5_method_1_code
def yX3_init : MethodName := ⟨RX3, "<init>", "(LOffFirst$Told;LOffFirst$Stock;)V"⟩
abbrev cX3_hasFood : ByteArray := prog_5_method_2_code
def yX3_hasFood : MethodName := ⟨RX3, "hasFood", "(I)Z"⟩
abbrev cX3_limitOf : ByteArray := prog_5_method_3_code
def yX3_limitOf : MethodName := ⟨RX3, "limitOf", "(I)I"⟩
abbrev cX3_isOff : ByteArray := prog_5_method_4_code
def yX3_isOff : MethodName := ⟨RX3, "isOff", "(I)Z"⟩
abbrev cX3_offAndThere : ByteArray := prog_5_method_5_code
def yX3_offAndThere : MethodName := ⟨RX3, "offAndThere", "()I"⟩
abbrev cX3_ageBehind : ByteArray := prog_5_method_6_code
def yX3_ageBehind : MethodName := ⟨RX3, "ageBehind", "(II)I"⟩
abbrev cX3_ageAs : ByteArray := prog_5_method_7_code
def yX3_ageAs : MethodName := ⟨RX3, "ageAs", "(IIII)I"⟩
abbrev cX3_coinLostAs : ByteArray := prog_5_method_8_code
def yX3_coinLostAs : MethodName := ⟨RX3, "coinLostAs", "(IIII)I"⟩
abbrev cX3_letHoursGoBy : ByteArray := prog_5_method_9_code
def yX3_letHoursGoBy : MethodName := ⟨RX3, "letHoursGoBy", "(I)V"⟩
abbrev cX3_hoursTillOff : ByteArray := prog_5_method_10_code
def yX3_hoursTillOff : MethodName := ⟨RX3, "hoursTillOff", "(II)I"⟩
abbrev cX3_lostBehind : ByteArray := prog_5_method_11_code
def yX3_lostBehind : MethodName := ⟨RX3, "lostBehind", "(I)I"⟩
abbrev cX3_lostIfFrozen : ByteArray := prog_5_method_12_code
def yX3_lostIfFrozen : MethodName := ⟨RX3, "lostIfFrozen", "(II)I"⟩
abbrev cX3_bestToFreeze : ByteArray := prog_5_method_13_code
def yX3_bestToFreeze : MethodName := ⟨RX3, "bestToFreeze", "(I)I"⟩
abbrev cX3_errorsByPrint : ByteArray := prog_5_method_14_code
def yX3_errorsByPrint : MethodName := ⟨RX3, "errorsByPrint", "(Z)I"⟩
abbrev cX3_errorsBySmell : ByteArray := prog_5_method_15_code
def yX3_errorsBySmell : MethodName := ⟨RX3, "errorsBySmell", "(I)I"⟩
abbrev cX3_bestLine : ByteArray := prog_5_method_16_code
def yX3_bestLine : MethodName := ⟨RX3, "bestLine", "()I"⟩
abbrev cX3_offBehindCut : ByteArray := prog_5_method_17_code
def yX3_offBehindCut : MethodName := ⟨RX3, "offBehindCut", "(IZ)I"⟩
abbrev cX3_weightOfIll : ByteArray := prog_5_method_18_code
def yX3_weightOfIll : MethodName := ⟨RX3, "weightOfIll", "(I)I"⟩
def RX4 : String := "OffFirst$Layer"
def TX4 : u_T := fun k => match k with
  | 0 => ("OffFirst$Layer", "fridge", "LOffFirst$Fridge;", true)
  | 1 => ("OffFirst$Layer", "lostIn", "[I", true)
  | 2 => ("OffFirst$Layer", "free", "[I", true)
  | 3 => ("OffFirst$Layer", "way", "[I", true)
  | 4 => ("OffFirst$Layer", "best", "[I", true)
  | 5 => ("OffFirst$Layer", "number", "I", false)
  | _ => ("OffFirst$Layer", "leastLost", "I", false)
def tyX4 : Nat → FieldType := fun k => match k with
  | 0 => .object "OffFirst$Fridge"
  | 1 => .array .int
  | 2 => .array .int
  | 3 => .array .int
  | 4 => .array .int
  | 5 => .int
  | _ => .int
abbrev wsX40 : List Cond := u_ws RX4 TX4 7
theorem nmX4 : ∀ a, a < 7 → ∀ b, b < 7 → a ≠ b → (TX4 a).2.1 ≠ (TX4 b).2.1 := by decide +kernel
theorem tyX4_ok : ∀ k, k < 7 → parseFieldDescriptor (TX4 k).2.2.1 = some (tyX4 k) := by decide +kernel
abbrev cX4_init : ByteArray := prog_6_method_1_code
def yX4_init : MethodName := ⟨RX4, "<init>", "(LOffFirst$Fridge;)V"⟩
abbrev cX4_findBest : ByteArray := prog_6_method_2_code
def yX4_findBest : MethodName := ⟨RX4, "findBest", "(II)V"⟩
abbrev cX4_lookAtFoods : ByteArray := prog_6_method_3_code
def yX4_lookAtFoods : MethodName := ⟨RX4, "lookAtFoods", "(I)I"⟩
abbrev cX4_cellFor : ByteArray := prog_6_method_4_code
def yX4_cellFor : MethodName := ⟨RX4, "cellFor", "(I)I"⟩
abbrev cX4_tryFood : ByteArray := prog_6_method_5_code
def yX4_tryFood : MethodName := ⟨RX4, "tryFood", "(II)V"⟩
abbrev cX4_settle : ByteArray := prog_6_method_6_code
def yX4_settle : MethodName := ⟨RX4, "settle", "(I)V"⟩
def RX5 : String := "OffFirst$Party"
def TX5 : u_T := fun k => match k with
  | 0 => ("OffFirst$Party", "guests", "[I", true)
  | 1 => ("OffFirst$Party", "weight", "[I", true)
  | 2 => ("OffFirst$Party", "number", "I", false)
  | 3 => ("OffFirst$Party", "single", "I", false)
  | _ => ("OffFirst$Party", "pair", "I", false)
def tyX5 : Nat → FieldType := fun k => match k with
  | 0 => .array .int
  | 1 => .array .int
  | 2 => .int
  | 3 => .int
  | _ => .int
abbrev wsX50 : List Cond := u_ws RX5 TX5 5
theorem nmX5 : ∀ a, a < 5 → ∀ b, b < 5 → a ≠ b → (TX5 a).2.1 ≠ (TX5 b).2.1 := by decide +kernel
theorem tyX5_ok : ∀ k, k < 5 → parseFieldDescriptor (TX5 k).2.2.1 = some (tyX5 k) := by decide +kernel
abbrev cX5_init : ByteArray := prog_7_method_1_code
def yX5_init : MethodName := ⟨RX5, "<init>", "()V"⟩
abbrev cX5_clear : ByteArray := prog_7_method_2_code
def yX5_clear : MethodName := ⟨RX5, "clear", "()V"⟩
abbrev cX5_add : ByteArray := prog_7_method_3_code
def yX5_add : MethodName := ⟨RX5, "add", "(II)Z"⟩
abbrev cX5_expectOf : ByteArray := prog_7_method_4_code
def yX5_expectOf : MethodName := ⟨RX5, "expectOf", "(I)I"⟩
abbrev cX5_bestPacks : ByteArray := prog_7_method_5_code
def yX5_bestPacks : MethodName := ⟨RX5, "bestPacks", "()I"⟩
def RX6 : String := "OffFirst$Planner"
def TX6 : u_T := fun k => match k with
  | 0 => ("OffFirst$Planner", "fridge", "LOffFirst$Fridge;", true)
  | 1 => ("OffFirst$Planner", "evenings", "LOffFirst$Evenings;", true)
  | 2 => ("OffFirst$Planner", "row", "[I", true)
  | 3 => ("OffFirst$Planner", "best", "[I", true)
  | 4 => ("OffFirst$Planner", "number", "I", false)
  | _ => ("OffFirst$Planner", "leastCost", "I", false)
def tyX6 : Nat → FieldType := fun k => match k with
  | 0 => .object "OffFirst$Fridge"
  | 1 => .object "OffFirst$Evenings"
  | 2 => .array .int
  | 3 => .array .int
  | 4 => .int
  | _ => .int
abbrev wsX60 : List Cond := u_ws RX6 TX6 6
theorem nmX6 : ∀ a, a < 6 → ∀ b, b < 6 → a ≠ b → (TX6 a).2.1 ≠ (TX6 b).2.1 := by decide +kernel
theorem tyX6_ok : ∀ k, k < 6 → parseFieldDescriptor (TX6 k).2.2.1 = some (tyX6 k) := by decide +kernel
abbrev cX6_init : ByteArray := prog_8_method_1_code
def yX6_init : MethodName := ⟨RX6, "<init>", "(LOffFirst$Fridge;LOffFirst$Evenings;)V"⟩
abbrev cX6_findCheapest : ByteArray := prog_8_method_2_code
def yX6_findCheapest : MethodName := ⟨RX6, "findCheapest", "(I)V"⟩
abbrev cX6_dishOn : ByteArray := prog_8_method_3_code
def yX6_dishOn : MethodName := ⟨RX6, "dishOn", "(I)I"⟩
abbrev cX6_tryEvening : ByteArray := prog_8_method_4_code
def yX6_tryEvening : MethodName := ⟨RX6, "tryEvening", "(III)V"⟩
abbrev cX6_eatenOn : ByteArray := prog_8_method_5_code
def yX6_eatenOn : MethodName := ⟨RX6, "eatenOn", "(III)I"⟩
abbrev cX6_settle : ByteArray := prog_8_method_6_code
def yX6_settle : MethodName := ⟨RX6, "settle", "(I)V"⟩
def RX7 : String := "OffFirst$Spans"
def TX7 : u_T := fun k => match k with
  | 0 => ("OffFirst$Spans", "warm", "[I", true)
  | 1 => ("OffFirst$Spans", "hours", "[I", true)
  | _ => ("OffFirst$Spans", "number", "I", false)
def tyX7 : Nat → FieldType := fun k => match k with
  | 0 => .array .int
  | 1 => .array .int
  | _ => .int
abbrev wsX70 : List Cond := u_ws RX7 TX7 3
theorem nmX7 : ∀ a, a < 3 → ∀ b, b < 3 → a ≠ b → (TX7 a).2.1 ≠ (TX7 b).2.1 := by decide +kernel
theorem tyX7_ok : ∀ k, k < 3 → parseFieldDescriptor (TX7 k).2.2.1 = some (tyX7 k) := by decide +kernel
abbrev cX7_init : ByteArray := prog_9_method_1_code
def yX7_init : MethodName := ⟨RX7, "<init>", "()V"⟩
abbrev cX7_add : ByteArray := prog_9_method_2_code
def yX7_add : MethodName := ⟨RX7, "add", "(II)Z"⟩
abbrev cX7_fittedBy : ByteArray := prog_9_method_3_code
def yX7_fittedBy : MethodName := ⟨RX7, "fittedBy", "(I)I"⟩
abbrev cX7_bestLaw : ByteArray := prog_9_method_4_code
def yX7_bestLaw : MethodName := ⟨RX7, "bestLaw", "()I"⟩
def RX8 : String := "OffFirst$Stock"
def TX8 : u_T := fun k => match k with
  | 0 => ("OffFirst$Stock", "kind", "[I", true)
  | 1 => ("OffFirst$Stock", "cell", "[I", true)
  | 2 => ("OffFirst$Stock", "age", "[I", true)
  | 3 => ("OffFirst$Stock", "fate", "[I", true)
  | 4 => ("OffFirst$Stock", "leftIn", "[I", true)
  | 5 => ("OffFirst$Stock", "number", "I", false)
  | _ => ("OffFirst$Stock", "hour", "I", false)
def tyX8 : Nat → FieldType := fun k => match k with
  | 0 => .array .int
  | 1 => .array .int
  | 2 => .array .int
  | 3 => .array .int
  | 4 => .array .int
  | 5 => .int
  | _ => .int
abbrev wsX80 : List Cond := u_ws RX8 TX8 7
theorem nmX8 : ∀ a, a < 7 → ∀ b, b < 7 → a ≠ b → (TX8 a).2.1 ≠ (TX8 b).2.1 := by decide +kernel
theorem tyX8_ok : ∀ k, k < 7 → parseFieldDescriptor (TX8 k).2.2.1 = some (tyX8 k) := by decide +kernel
abbrev cX8_init : ByteArray := prog_10_method_1_code
def yX8_init : MethodName := ⟨RX8, "<init>", "()V"⟩
abbrev cX8_start : ByteArray := prog_10_method_2_code
def yX8_start : MethodName := ⟨RX8, "start", "(LOffFirst$Foods;)V"⟩
abbrev cX8_copyFrom : ByteArray := prog_10_method_3_code
def yX8_copyFrom : MethodName := ⟨RX8, "copyFrom", "(LOffFirst$Stock;)V"⟩
abbrev cX8_kindOf : ByteArray := prog_10_method_4_code
def yX8_kindOf : MethodName := ⟨RX8, "kindOf", "(I)I"⟩
abbrev cX8_turnInto : ByteArray := prog_10_method_5_code
def yX8_turnInto : MethodName := ⟨RX8, "turnInto", "(II)V"⟩
abbrev cX8_cellOf : ByteArray := prog_10_method_6_code
def yX8_cellOf : MethodName := ⟨RX8, "cellOf", "(I)I"⟩
abbrev cX8_putInto : ByteArray := prog_10_method_7_code
def yX8_putInto : MethodName := ⟨RX8, "putInto", "(II)V"⟩
abbrev cX8_ageOf : ByteArray := prog_10_method_8_code
def yX8_ageOf : MethodName := ⟨RX8, "ageOf", "(I)I"⟩
abbrev cX8_ageTo : ByteArray := prog_10_method_9_code
def yX8_ageTo : MethodName := ⟨RX8, "ageTo", "(II)V"⟩
abbrev cX8_fateOf : ByteArray := prog_10_method_10_code
def yX8_fateOf : MethodName := ⟨RX8, "fateOf", "(I)I"⟩
abbrev cX8_takeOut : ByteArray := prog_10_method_11_code
def yX8_takeOut : MethodName := ⟨RX8, "takeOut", "(II)V"⟩
abbrev cX8_hoursSinceLeft : ByteArray := prog_10_method_12_code
def yX8_hoursSinceLeft : MethodName := ⟨RX8, "hoursSinceLeft", "(I)I"⟩
abbrev cX8_isThere : ByteArray := prog_10_method_13_code
def yX8_isThere : MethodName := ⟨RX8, "isThere", "(I)Z"⟩
abbrev cX8_bitsThere : ByteArray := prog_10_method_14_code
def yX8_bitsThere : MethodName := ⟨RX8, "bitsThere", "()I"⟩
abbrev cX8_numberThere : ByteArray := prog_10_method_15_code
def yX8_numberThere : MethodName := ⟨RX8, "numberThere", "()I"⟩
abbrev cX8_numberIn : ByteArray := prog_10_method_16_code
def yX8_numberIn : MethodName := ⟨RX8, "numberIn", "(I)I"⟩
def RX9 : String := "OffFirst$Text"
def TX9 : u_T := fun k => match k with
  | 0 => ("OffFirst$Text", "bytes", "[I", true)
  | 1 => ("OffFirst$Text", "length", "I", false)
  | 2 => ("OffFirst$Text", "letter", "I", false)
  | 3 => ("OffFirst$Text", "numbers", "[I", true)
  | _ => ("OffFirst$Text", "told", "I", false)
def tyX9 : Nat → FieldType := fun k => match k with
  | 0 => .array .int
  | 1 => .int
  | 2 => .int
  | 3 => .array .int
  | _ => .int
abbrev wsX90 : List Cond := u_ws RX9 TX9 5
theorem nmX9 : ∀ a, a < 5 → ∀ b, b < 5 → a ≠ b → (TX9 a).2.1 ≠ (TX9 b).2.1 := by decide +kernel
theorem tyX9_ok : ∀ k, k < 5 → parseFieldDescriptor (TX9 k).2.2.1 = some (tyX9 k) := by decide +kernel
abbrev cX9_init : ByteArray := prog_11_method_1_code
def yX9_init : MethodName := ⟨RX9, "<init>", "()V"⟩
abbrev cX9_append : ByteArray := prog_11_method_2_code
def yX9_append : MethodName := ⟨RX9, "append", "(IJ)Z"⟩
abbrev cX9_byteAt : ByteArray := prog_11_method_3_code
def yX9_byteAt : MethodName := ⟨RX9, "byteAt", "(I)I"⟩
abbrev cX9_readItem : ByteArray := prog_11_method_4_code
def yX9_readItem : MethodName := ⟨RX9, "readItem", "(I)I"⟩
abbrev cX9_readNumber : ByteArray := prog_11_method_5_code
def yX9_readNumber : MethodName := ⟨RX9, "readNumber", "(I)I"⟩
abbrev cX9_isFigure : ByteArray := prog_11_method_6_code
def yX9_isFigure : MethodName := ⟨RX9, "isFigure", "(I)Z"⟩
abbrev cX9_number : ByteArray := prog_11_method_7_code
def yX9_number : MethodName := ⟨RX9, "number", "(I)I"⟩
abbrev cX9_isNumberWithin : ByteArray := prog_11_method_8_code
def yX9_isNumberWithin : MethodName := ⟨RX9, "isNumberWithin", "(III)Z"⟩
def RX10 : String := "OffFirst$Told"
def TX10 : u_T := fun k => match k with
  | 0 => ("OffFirst$Told", "cells", "LOffFirst$Cells;", true)
  | 1 => ("OffFirst$Told", "foods", "LOffFirst$Foods;", true)
  | 2 => ("OffFirst$Told", "dishes", "[I", true)
  | 3 => ("OffFirst$Told", "dishNumber", "I", false)
  | 4 => ("OffFirst$Told", "eaters", "[I", true)
  | 5 => ("OffFirst$Told", "eaterNumber", "I", false)
  | 6 => ("OffFirst$Told", "party", "LOffFirst$Party;", true)
  | _ => ("OffFirst$Told", "slip", "I", false)
def tyX10 : Nat → FieldType := fun k => match k with
  | 0 => .object "OffFirst$Cells"
  | 1 => .object "OffFirst$Foods"
  | 2 => .array .int
  | 3 => .int
  | 4 => .array .int
  | 5 => .int
  | 6 => .object "OffFirst$Party"
  | _ => .int
abbrev wsX100 : List Cond := u_ws RX10 TX10 8
theorem nmX10 : ∀ a, a < 8 → ∀ b, b < 8 → a ≠ b → (TX10 a).2.1 ≠ (TX10 b).2.1 := by decide +kernel
theorem tyX10_ok : ∀ k, k < 8 → parseFieldDescriptor (TX10 k).2.2.1 = some (tyX10 k) := by decide +kernel
abbrev cX10_init : ByteArray := prog_12_method_1_code
def yX10_init : MethodName := ⟨RX10, "<init>", "()V"⟩
abbrev cX10_read : ByteArray := prog_12_method_2_code
def yX10_read : MethodName := ⟨RX10, "read", "(LOffFirst$Text;)I"⟩
abbrev cX10_clear : ByteArray := prog_12_method_3_code
def yX10_clear : MethodName := ⟨RX10, "clear", "()V"⟩
abbrev cX10_takeItem : ByteArray := prog_12_method_4_code
def yX10_takeItem : MethodName := ⟨RX10, "takeItem", "(LOffFirst$Text;)Z"⟩
abbrev cX10_takeCell : ByteArray := prog_12_method_5_code
def yX10_takeCell : MethodName := ⟨RX10, "takeCell", "(LOffFirst$Text;)Z"⟩
abbrev cX10_takeOpenedHour : ByteArray := prog_12_method_6_code
def yX10_takeOpenedHour : MethodName := ⟨RX10, "takeOpenedHour", "(LOffFirst$Text;)Z"⟩
abbrev cX10_takeFood : ByteArray := prog_12_method_7_code
def yX10_takeFood : MethodName := ⟨RX10, "takeFood", "(LOffFirst$Text;)Z"⟩
abbrev cX10_takeDish : ByteArray := prog_12_method_8_code
def yX10_takeDish : MethodName := ⟨RX10, "takeDish", "(LOffFirst$Text;)Z"⟩
abbrev cX10_takeEater : ByteArray := prog_12_method_9_code
def yX10_takeEater : MethodName := ⟨RX10, "takeEater", "(LOffFirst$Text;)Z"⟩
abbrev cX10_takeGuests : ByteArray := prog_12_method_10_code
def yX10_takeGuests : MethodName := ⟨RX10, "takeGuests", "(LOffFirst$Text;)Z"⟩
abbrev cX10_takePacks : ByteArray := prog_12_method_11_code
def yX10_takePacks : MethodName := ⟨RX10, "takePacks", "(LOffFirst$Text;)Z"⟩
abbrev cX10_takeSlip : ByteArray := prog_12_method_12_code
def yX10_takeSlip : MethodName := ⟨RX10, "takeSlip", "(LOffFirst$Text;)Z"⟩
abbrev cX10_canBeLaid : ByteArray := prog_12_method_13_code
def yX10_canBeLaid : MethodName := ⟨RX10, "canBeLaid", "()Z"⟩
abbrev cX10_sortsOfDish : ByteArray := prog_12_method_14_code
def yX10_sortsOfDish : MethodName := ⟨RX10, "sortsOfDish", "(I)I"⟩
abbrev cX10_hungryWith : ByteArray := prog_12_method_15_code
def yX10_hungryWith : MethodName := ⟨RX10, "hungryWith", "(I)I"⟩
def RX11 : String := "OffFirst"
def TX11 : u_T := fun k => match k with
  | 0 => ("OffFirst", "text", "LOffFirst$Text;", true)
  | 1 => ("OffFirst", "draft", "LOffFirst$Told;", true)
  | 2 => ("OffFirst", "laid", "LOffFirst$Told;", true)
  | 3 => ("OffFirst", "stock", "LOffFirst$Stock;", true)
  | 4 => ("OffFirst", "firstKept", "LOffFirst$Stock;", true)
  | 5 => ("OffFirst", "secondKept", "LOffFirst$Stock;", true)
  | 6 => ("OffFirst", "keptNumber", "I", false)
  | 7 => ("OffFirst", "fridge", "LOffFirst$Fridge;", true)
  | 8 => ("OffFirst", "evenings", "LOffFirst$Evenings;", true)
  | 9 => ("OffFirst", "planner", "LOffFirst$Planner;", true)
  | 10 => ("OffFirst", "layer", "LOffFirst$Layer;", true)
  | _ => ("OffFirst", "spans", "LOffFirst$Spans;", true)
def tyX11 : Nat → FieldType := fun k => match k with
  | 0 => .object "OffFirst$Text"
  | 1 => .object "OffFirst$Told"
  | 2 => .object "OffFirst$Told"
  | 3 => .object "OffFirst$Stock"
  | 4 => .object "OffFirst$Stock"
  | 5 => .object "OffFirst$Stock"
  | 6 => .int
  | 7 => .object "OffFirst$Fridge"
  | 8 => .object "OffFirst$Evenings"
  | 9 => .object "OffFirst$Planner"
  | 10 => .object "OffFirst$Layer"
  | _ => .object "OffFirst$Spans"
abbrev wsX110 : List Cond := u_ws RX11 TX11 12
theorem nmX11 : ∀ a, a < 12 → ∀ b, b < 12 → a ≠ b → (TX11 a).2.1 ≠ (TX11 b).2.1 := by decide +kernel
theorem tyX11_ok : ∀ k, k < 12 → parseFieldDescriptor (TX11 k).2.2.1 = some (tyX11 k) := by decide +kernel
abbrev cX11_init : ByteArray := prog_1_method_1_code
def yX11_init : MethodName := ⟨RX11, "<init>", "()V"⟩
abbrev cX11_write : ByteArray := prog_1_method_2_code
def yX11_write : MethodName := ⟨RX11, "write", "(IJ)I"⟩
abbrev cX11_wipe : ByteArray := prog_1_method_3_code
def yX11_wipe : MethodName := ⟨RX11, "wipe", "()I"⟩
abbrev cX11_fault : ByteArray := prog_1_method_4_code
def yX11_fault : MethodName := ⟨RX11, "fault", "()I"⟩
abbrev cX11_lay : ByteArray := prog_1_method_5_code
def yX11_lay : MethodName := ⟨RX11, "lay", "()I"⟩
abbrev cX11_food : ByteArray := prog_1_method_6_code
def yX11_food : MethodName := ⟨RX11, "food", "(II)I"⟩
abbrev cX11_warmth : ByteArray := prog_1_method_7_code
def yX11_warmth : MethodName := ⟨RX11, "warmth", "(II)I"⟩
abbrev cX11_hours : ByteArray := prog_1_method_8_code
def yX11_hours : MethodName := ⟨RX11, "hours", "(I)I"⟩
abbrev cX11_move : ByteArray := prog_1_method_9_code
def yX11_move : MethodName := ⟨RX11, "move", "(II)I"⟩
abbrev cX11_make : ByteArray := prog_1_method_10_code
def yX11_make : MethodName := ⟨RX11, "make", "(II)I"⟩
abbrev cX11_eat : ByteArray := prog_1_method_11_code
def yX11_eat : MethodName := ⟨RX11, "eat", "(I)I"⟩
abbrev cX11_throwOut : ByteArray := prog_1_method_12_code
def yX11_throwOut : MethodName := ⟨RX11, "throwOut", "(I)I"⟩
abbrev cX11_offIn : ByteArray := prog_1_method_13_code
def yX11_offIn : MethodName := ⟨RX11, "offIn", "(II)I"⟩
abbrev cX11_lost : ByteArray := prog_1_method_14_code
def yX11_lost : MethodName := ⟨RX11, "lost", "(I)I"⟩
abbrev cX11_plan : ByteArray := prog_1_method_15_code
def yX11_plan : MethodName := ⟨RX11, "plan", "(II)I"⟩
abbrev cX11_freeze : ByteArray := prog_1_method_16_code
def yX11_freeze : MethodName := ⟨RX11, "freeze", "(II)I"⟩
abbrev cX11_lie : ByteArray := prog_1_method_17_code
def yX11_lie : MethodName := ⟨RX11, "lie", "(III)I"⟩
abbrev cX11_expect : ByteArray := prog_1_method_18_code
def yX11_expect : MethodName := ⟨RX11, "expect", "(I)I"⟩
abbrev cX11_buy : ByteArray := prog_1_method_19_code
def yX11_buy : MethodName := ⟨RX11, "buy", "()I"⟩
abbrev cX11_print : ByteArray := prog_1_method_20_code
def yX11_print : MethodName := ⟨RX11, "print", "(I)I"⟩
abbrev cX11_smell : ByteArray := prog_1_method_21_code
def yX11_smell : MethodName := ⟨RX11, "smell", "(I)I"⟩
abbrev cX11_line : ByteArray := prog_1_method_22_code
def yX11_line : MethodName := ⟨RX11, "line", "()I"⟩
abbrev cX11_cut : ByteArray := prog_1_method_23_code
def yX11_cut : MethodName := ⟨RX11, "cut", "(IZ)I"⟩
abbrev cX11_ill : ByteArray := prog_1_method_24_code
def yX11_ill : MethodName := ⟨RX11, "ill", "(II)I"⟩
abbrev cX11_span : ByteArray := prog_1_method_25_code
def yX11_span : MethodName := ⟨RX11, "span", "(II)I"⟩
abbrev cX11_noSpans : ByteArray := prog_1_method_26_code
def yX11_noSpans : MethodName := ⟨RX11, "noSpans", "()I"⟩
abbrev cX11_law : ByteArray := prog_1_method_27_code
def yX11_law : MethodName := ⟨RX11, "law", "(I)I"⟩
abbrev cX11_habit : ByteArray := prog_1_method_28_code
def yX11_habit : MethodName := ⟨RX11, "habit", "(III)I"⟩
abbrev cX11_keep : ByteArray := prog_1_method_29_code
def yX11_keep : MethodName := ⟨RX11, "keep", "()I"⟩
abbrev cX11_back : ByteArray := prog_1_method_30_code
def yX11_back : MethodName := ⟨RX11, "back", "()I"⟩
abbrev cX11_count : ByteArray := prog_1_method_31_code
def yX11_count : MethodName := ⟨RX11, "count", "(I)I"⟩
abbrev cX11_takeAway : ByteArray := prog_1_method_32_code
def yX11_takeAway : MethodName := ⟨RX11, "takeAway", "(II)I"⟩
abbrev cX11_canBecome : ByteArray := prog_1_method_33_code
def yX11_canBecome : MethodName := ⟨RX11, "canBecome", "(II)Z"⟩
abbrev cX11_isWithin : ByteArray := prog_1_method_34_code
def yX11_isWithin : MethodName := ⟨RX11, "isWithin", "(III)Z"⟩
abbrev cX11_at : ByteArray := prog_1_method_35_code
def yX11_at : MethodName := ⟨RX11, "at", "([II)I"⟩
abbrev cX11_put : ByteArray := prog_1_method_36_code
def yX11_put : MethodName := ⟨RX11, "put", "([III)V"⟩
abbrev cX11_hasBit : ByteArray := prog_1_method_37_code
def yX11_hasBit : MethodName := ⟨RX11, "hasBit", "(II)Z"⟩
abbrev cX11_greatestDivisor : ByteArray := prog_1_method_38_code
def yX11_greatestDivisor : MethodName := ⟨RX11, "greatestDivisor", "(II)I"⟩
abbrev cX11_ageing : ByteArray := prog_1_method_39_code
def yX11_ageing : MethodName := ⟨RX11, "ageing", "(III)I"⟩
def RX12 : String := "OffFirstModel"
def TX12 : u_T := fun k => match k with
  | 0 => ("OffFirstModel", "length", "I", false)
  | 1 => ("OffFirstModel", "text", "[I", true)
  | 2 => ("OffFirstModel", "cellMany", "[I", true)
  | 3 => ("OffFirstModel", "warm", "[I", true)
  | 4 => ("OffFirstModel", "more", "[I", true)
  | 5 => ("OffFirstModel", "room", "[I", true)
  | 6 => ("OffFirstModel", "opens", "[I", true)
  | 7 => ("OffFirstModel", "foodMany", "[I", true)
  | 8 => ("OffFirstModel", "toldKind", "[I", true)
  | 9 => ("OffFirstModel", "toldCell", "[I", true)
  | 10 => ("OffFirstModel", "worths", "[I", true)
  | 11 => ("OffFirstModel", "lives", "[I", true)
  | 12 => ("OffFirstModel", "prints", "[I", true)
  | 13 => ("OffFirstModel", "sorts", "[I", true)
  | 14 => ("OffFirstModel", "dishMany", "[I", true)
  | 15 => ("OffFirstModel", "dishes", "[I", true)
  | 16 => ("OffFirstModel", "eaterMany", "[I", true)
  | 17 => ("OffFirstModel", "eaters", "[I", true)
  | 18 => ("OffFirstModel", "guestMany", "[I", true)
  | 19 => ("OffFirstModel", "guests", "[I", true)
  | 20 => ("OffFirstModel", "chances", "[I", true)
  | 21 => ("OffFirstModel", "prices", "[I", true)
  | 22 => ("OffFirstModel", "kinds", "[I", true)
  | 23 => ("OffFirstModel", "cells", "[I", true)
  | 24 => ("OffFirstModel", "ages", "[I", true)
  | 25 => ("OffFirstModel", "states", "[I", true)
  | 26 => ("OffFirstModel", "whens", "[I", true)
  | 27 => ("OffFirstModel", "hour", "[I", true)
  | 28 => ("OffFirstModel", "keptMany", "I", false)
  | 29 => ("OffFirstModel", "spanMany", "I", false)
  | 30 => ("OffFirstModel", "spans", "[I", true)
  | 31 => ("OffFirstModel", "place", "I", false)
  | _ => ("OffFirstModel", "told", "[I", true)
def tyX12 : Nat → FieldType := fun k => match k with
  | 0 => .int
  | 1 => .array .int
  | 2 => .array .int
  | 3 => .array .int
  | 4 => .array .int
  | 5 => .array .int
  | 6 => .array .int
  | 7 => .array .int
  | 8 => .array .int
  | 9 => .array .int
  | 10 => .array .int
  | 11 => .array .int
  | 12 => .array .int
  | 13 => .array .int
  | 14 => .array .int
  | 15 => .array .int
  | 16 => .array .int
  | 17 => .array .int
  | 18 => .array .int
  | 19 => .array .int
  | 20 => .array .int
  | 21 => .array .int
  | 22 => .array .int
  | 23 => .array .int
  | 24 => .array .int
  | 25 => .array .int
  | 26 => .array .int
  | 27 => .array .int
  | 28 => .int
  | 29 => .int
  | 30 => .array .int
  | 31 => .int
  | _ => .array .int
abbrev wsX120 : List Cond := u_ws RX12 TX12 33
theorem nmX12 : ∀ a, a < 33 → ∀ b, b < 33 → a ≠ b → (TX12 a).2.1 ≠ (TX12 b).2.1 := by decide +kernel
theorem tyX12_ok : ∀ k, k < 33 → parseFieldDescriptor (TX12 k).2.2.1 = some (tyX12 k) := by decide +kernel
abbrev cX12_init : ByteArray := prog_14_method_1_code
def yX12_init : MethodName := ⟨RX12, "<init>", "()V"⟩
abbrev cX12_in : ByteArray := prog_14_method_2_code
def yX12_in : MethodName := ⟨RX12, "in", "(JJJ)Z"⟩
abbrev cX12_has : ByteArray := prog_14_method_3_code
def yX12_has : MethodName := ⟨RX12, "has", "(II)Z"⟩
abbrev cX12_noFridge : ByteArray := prog_14_method_4_code
def yX12_noFridge : MethodName := ⟨RX12, "noFridge", "(I)V"⟩
abbrev cX12_write : ByteArray := prog_14_method_5_code
def yX12_write : MethodName := ⟨RX12, "write", "(IJ)I"⟩
abbrev cX12_wipe : ByteArray := prog_14_method_6_code
def yX12_wipe : MethodName := ⟨RX12, "wipe", "()I"⟩
abbrev cX12_byteAt : ByteArray := prog_14_method_7_code
def yX12_byteAt : MethodName := ⟨RX12, "byteAt", "(I)I"⟩
abbrev cX12_figures : ByteArray := prog_14_method_8_code
def yX12_figures : MethodName := ⟨RX12, "figures", "(I)Z"⟩
abbrev cX12_cellItem : ByteArray := prog_14_method_9_code
def yX12_cellItem : MethodName := ⟨RX12, "cellItem", "()Z"⟩
abbrev cX12_foodItem : ByteArray := prog_14_method_10_code
def yX12_foodItem : MethodName := ⟨RX12, "foodItem", "()Z"⟩
abbrev cX12_item : ByteArray := prog_14_method_11_code
def yX12_item : MethodName := ⟨RX12, "item", "()Z"⟩
abbrev cX12_readAll : ByteArray := prog_14_method_12_code
def yX12_readAll : MethodName := ⟨RX12, "readAll", "()I"⟩
abbrev cX12_fault : ByteArray := prog_14_method_13_code
def yX12_fault : MethodName := ⟨RX12, "fault", "()I"⟩
abbrev cX12_isRoomy : ByteArray := prog_14_method_14_code
def yX12_isRoomy : MethodName := ⟨RX12, "isRoomy", "()Z"⟩
abbrev cX12_layFridge : ByteArray := prog_14_method_15_code
def yX12_layFridge : MethodName := ⟨RX12, "layFridge", "()V"⟩
abbrev cX12_lay : ByteArray := prog_14_method_16_code
def yX12_lay : MethodName := ⟨RX12, "lay", "()I"⟩
abbrev cX12_isFood : ByteArray := prog_14_method_17_code
def yX12_isFood : MethodName := ⟨RX12, "isFood", "(I)Z"⟩
abbrev cX12_isCell : ByteArray := prog_14_method_18_code
def yX12_isCell : MethodName := ⟨RX12, "isCell", "(I)Z"⟩
abbrev cX12_warmthOf : ByteArray := prog_14_method_19_code
def yX12_warmthOf : MethodName := ⟨RX12, "warmthOf", "(II)I"⟩
abbrev cX12_limitOf : ByteArray := prog_14_method_20_code
def yX12_limitOf : MethodName := ⟨RX12, "limitOf", "(I)I"⟩
abbrev cX12_isOff : ByteArray := prog_14_method_21_code
def yX12_isOff : MethodName := ⟨RX12, "isOff", "(I)Z"⟩
abbrev cX12_agesBy : ByteArray := prog_14_method_22_code
def yX12_agesBy : MethodName := ⟨RX12, "agesBy", "(II)I"⟩
abbrev cX12_copy : ByteArray := prog_14_method_23_code
def yX12_copy : MethodName := ⟨RX12, "copy", "(II)V"⟩
abbrev cX12_goHour : ByteArray := prog_14_method_24_code
def yX12_goHour : MethodName := ⟨RX12, "goHour", "(I)V"⟩
abbrev cX12_offCoin : ByteArray := prog_14_method_25_code
def yX12_offCoin : MethodName := ⟨RX12, "offCoin", "(I)I"⟩
abbrev cX12_food : ByteArray := prog_14_method_26_code
def yX12_food : MethodName := ⟨RX12, "food", "(II)I"⟩
abbrev cX12_warmth : ByteArray := prog_14_method_27_code
def yX12_warmth : MethodName := ⟨RX12, "warmth", "(II)I"⟩
abbrev cX12_hours : ByteArray := prog_14_method_28_code
def yX12_hours : MethodName := ⟨RX12, "hours", "(I)I"⟩
abbrev cX12_inCell : ByteArray := prog_14_method_29_code
def yX12_inCell : MethodName := ⟨RX12, "inCell", "(I)I"⟩
abbrev cX12_move : ByteArray := prog_14_method_30_code
def yX12_move : MethodName := ⟨RX12, "move", "(II)I"⟩
abbrev cX12_make : ByteArray := prog_14_method_31_code
def yX12_make : MethodName := ⟨RX12, "make", "(II)I"⟩
abbrev cX12_take : ByteArray := prog_14_method_32_code
def yX12_take : MethodName := ⟨RX12, "take", "(II)I"⟩
abbrev cX12_eat : ByteArray := prog_14_method_33_code
def yX12_eat : MethodName := ⟨RX12, "eat", "(I)I"⟩
abbrev cX12_throwOut : ByteArray := prog_14_method_34_code
def yX12_throwOut : MethodName := ⟨RX12, "throwOut", "(I)I"⟩
abbrev cX12_offIn : ByteArray := prog_14_method_35_code
def yX12_offIn : MethodName := ⟨RX12, "offIn", "(II)I"⟩
abbrev cX12_isLater : ByteArray := prog_14_method_36_code
def yX12_isLater : MethodName := ⟨RX12, "isLater", "(I)Z"⟩
abbrev cX12_lostOf : ByteArray := prog_14_method_37_code
def yX12_lostOf : MethodName := ⟨RX12, "lostOf", "(I)I"⟩
abbrev cX12_lost : ByteArray := prog_14_method_38_code
def yX12_lost : MethodName := ⟨RX12, "lost", "(I)I"⟩
abbrev cX12_isOlder : ByteArray := prog_14_method_39_code
def yX12_isOlder : MethodName := ⟨RX12, "isOlder", "(II)Z"⟩
abbrev cX12_oldestOf : ByteArray := prog_14_method_40_code
def yX12_oldestOf : MethodName := ⟨RX12, "oldestOf", "(I)I"⟩
abbrev cX12_eatDish : ByteArray := prog_14_method_41_code
def yX12_eatDish : MethodName := ⟨RX12, "eatDish", "(I)Z"⟩
abbrev cX12_hungryOf : ByteArray := prog_14_method_42_code
def yX12_hungryOf : MethodName := ⟨RX12, "hungryOf", "(I)I"⟩
abbrev cX12_goToEvening : ByteArray := prog_14_method_43_code
def yX12_goToEvening : MethodName := ⟨RX12, "goToEvening", "()V"⟩
abbrev cX12_figure : ByteArray := prog_14_method_44_code
def yX12_figure : MethodName := ⟨RX12, "figure", "(IIII)I"⟩
abbrev cX12_costOf : ByteArray := prog_14_method_45_code
def yX12_costOf : MethodName := ⟨RX12, "costOf", "(II)I"⟩
abbrev cX12_plan : ByteArray := prog_14_method_46_code
def yX12_plan : MethodName := ⟨RX12, "plan", "(II)I"⟩
abbrev cX12_freeze : ByteArray := prog_14_method_47_code
def yX12_freeze : MethodName := ⟨RX12, "freeze", "(II)I"⟩
abbrev cX12_layAs : ByteArray := prog_14_method_48_code
def yX12_layAs : MethodName := ⟨RX12, "layAs", "(II)Z"⟩
abbrev cX12_thereMany : ByteArray := prog_14_method_49_code
def yX12_thereMany : MethodName := ⟨RX12, "thereMany", "()I"⟩
abbrev cX12_lie : ByteArray := prog_14_method_50_code
def yX12_lie : MethodName := ⟨RX12, "lie", "(III)I"⟩
abbrev cX12_expectOf : ByteArray := prog_14_method_51_code
def yX12_expectOf : MethodName := ⟨RX12, "expectOf", "(I)I"⟩
abbrev cX12_expect : ByteArray := prog_14_method_52_code
def yX12_expect : MethodName := ⟨RX12, "expect", "(I)I"⟩
abbrev cX12_buy : ByteArray := prog_14_method_53_code
def yX12_buy : MethodName := ⟨RX12, "buy", "()I"⟩
abbrev cX12_print : ByteArray := prog_14_method_54_code
def yX12_print : MethodName := ⟨RX12, "print", "(I)I"⟩
abbrev cX12_errorsAt : ByteArray := prog_14_method_55_code
def yX12_errorsAt : MethodName := ⟨RX12, "errorsAt", "(I)I"⟩
abbrev cX12_smell : ByteArray := prog_14_method_56_code
def yX12_smell : MethodName := ⟨RX12, "smell", "(I)I"⟩
abbrev cX12_line : ByteArray := prog_14_method_57_code
def yX12_line : MethodName := ⟨RX12, "line", "()I"⟩
abbrev cX12_cut : ByteArray := prog_14_method_58_code
def yX12_cut : MethodName := ⟨RX12, "cut", "(IZ)I"⟩
abbrev cX12_illOf : ByteArray := prog_14_method_59_code
def yX12_illOf : MethodName := ⟨RX12, "illOf", "(I)I"⟩
abbrev cX12_ill : ByteArray := prog_14_method_60_code
def yX12_ill : MethodName := ⟨RX12, "ill", "(II)I"⟩
abbrev cX12_span : ByteArray := prog_14_method_61_code
def yX12_span : MethodName := ⟨RX12, "span", "(II)I"⟩
abbrev cX12_noSpans : ByteArray := prog_14_method_62_code
def yX12_noSpans : MethodName := ⟨RX12, "noSpans", "()I"⟩
abbrev cX12_fitsOf : ByteArray := prog_14_method_63_code
def yX12_fitsOf : MethodName := ⟨RX12, "fitsOf", "(I)I"⟩
abbrev cX12_law : ByteArray := prog_14_method_64_code
def yX12_law : MethodName := ⟨RX12, "law", "(I)I"⟩
abbrev cX12_takenBy : ByteArray := prog_14_method_65_code
def yX12_takenBy : MethodName := ⟨RX12, "takenBy", "(I)I"⟩
abbrev cX12_habit : ByteArray := prog_14_method_66_code
def yX12_habit : MethodName := ⟨RX12, "habit", "(III)I"⟩
abbrev cX12_keep : ByteArray := prog_14_method_67_code
def yX12_keep : MethodName := ⟨RX12, "keep", "()I"⟩
abbrev cX12_back : ByteArray := prog_14_method_68_code
def yX12_back : MethodName := ⟨RX12, "back", "()I"⟩
abbrev cX12_count : ByteArray := prog_14_method_69_code
def yX12_count : MethodName := ⟨RX12, "count", "(I)I"⟩
def RJ6 : String := "java/lang/Integer"
def TJ6 : u_T := fun k => match k with
  | _ => ("", "", "", false)
def tyJ6 : Nat → FieldType := fun k => match k with
  | _ => .int
abbrev wsJ60 : List Cond := u_ws RJ6 TJ6 0
theorem nmJ6 : ∀ a, a < 0 → ∀ b, b < 0 → a ≠ b → (TJ6 a).2.1 ≠ (TJ6 b).2.1 := by decide +kernel
theorem tyJ6_ok : ∀ k, k < 0 → parseFieldDescriptor (TJ6 k).2.2.1 = some (tyJ6 k) := by decide +kernel
abbrev cJ6_bitCount_0f7a4 : ByteArray := prog_15_method_49_code
def yJ6_bitCount_0f7a4 : MethodName := ⟨RJ6, "bitCount", "(I)I"⟩
def RJ9 : String := "java/lang/Math"
def TJ9 : u_T := fun k => match k with
  | _ => ("", "", "", false)
def tyJ9 : Nat → FieldType := fun k => match k with
  | _ => .int
abbrev wsJ90 : List Cond := u_ws RJ9 TJ9 0
theorem nmJ9 : ∀ a, a < 0 → ∀ b, b < 0 → a ≠ b → (TJ9 a).2.1 ≠ (TJ9 b).2.1 := by decide +kernel
theorem tyJ9_ok : ∀ k, k < 0 → parseFieldDescriptor (TJ9 k).2.2.1 = some (tyJ9 k) := by decide +kernel
abbrev cJ9_max_7cf53 : ByteArray := prog_16_method_65_code
def yJ9_max_7cf53 : MethodName := ⟨RJ9, "max", "(II)I"⟩
abbrev cJ9_min_7cf53 : ByteArray := prog_16_method_69_code
def yJ9_min_7cf53 : MethodName := ⟨RJ9, "min", "(II)I"⟩
def RL : String := "OffFirstLaw"
abbrev cL_law : ByteArray := code
def yL_law : MethodName := ⟨RL, "law", "([I)Z"⟩
def wsL_law_r1 : List Cond := [Cond.classLink RL 7 RX11, Cond.instantiable RX11 12, Cond.initialized RX11, Cond.classLink RL 10 RX12, Cond.instantiable RX12 33, Cond.initialized RX12, Cond.constantLong RL 13 (4294967295), Cond.methodLink RL 9 yX11_init, Cond.instanceMethod yX11_init, Cond.code yX11_init cX11_init 1 none, Cond.methodLink RX11 1 objectInit, Cond.instanceMethod objectInit, Cond.code objectInit ⟨#[0xb1]⟩ 1 none, Cond.classLink RX11 7 RX9, Cond.instantiable RX9 5, Cond.initialized RX9, Cond.fieldLink RX11 10 "OffFirst" "text" "LOffFirst$Text;", Cond.classLink RX11 16 RX10, Cond.instantiable RX10 8, Cond.initialized RX10, Cond.fieldLink RX11 19 "OffFirst" "draft" "LOffFirst$Told;", Cond.fieldLink RX11 23 "OffFirst" "laid" "LOffFirst$Told;", Cond.classLink RX11 26 RX8, Cond.instantiable RX8 7]
def wsL_law_r2 : List Cond := [Cond.initialized RX8, Cond.fieldLink RX11 29 "OffFirst" "stock" "LOffFirst$Stock;", Cond.fieldLink RX11 33 "OffFirst" "firstKept" "LOffFirst$Stock;", Cond.fieldLink RX11 36 "OffFirst" "secondKept" "LOffFirst$Stock;", Cond.classLink RX11 39 RX3, Cond.instantiable RX3 2, Cond.initialized RX3, Cond.fieldLink RX11 44 "OffFirst" "fridge" "LOffFirst$Fridge;", Cond.classLink RX11 48 RX1, Cond.instantiable RX1 4, Cond.initialized RX1, Cond.fieldLink RX11 53 "OffFirst" "evenings" "LOffFirst$Evenings;", Cond.classLink RX11 57 RX6, Cond.instantiable RX6 6, Cond.initialized RX6, Cond.fieldLink RX11 62 "OffFirst" "planner" "LOffFirst$Planner;", Cond.classLink RX11 66 RX4, Cond.instantiable RX4 7, Cond.initialized RX4, Cond.fieldLink RX11 69 "OffFirst" "layer" "LOffFirst$Layer;", Cond.classLink RX11 73 RX7, Cond.instantiable RX7 3, Cond.initialized RX7, Cond.fieldLink RX11 76 "OffFirst" "spans" "LOffFirst$Spans;"]
def wsL_law_r3 : List Cond := [Cond.instanceMethod yX9_init, Cond.code yX9_init cX9_init 1 none, Cond.methodLink RX9 3 objectInit, Cond.arrayClass .int, Cond.fieldLink RX9 9 "OffFirst$Text" "bytes" "[I", Cond.fieldLink RX9 15 "OffFirst$Text" "numbers" "[I", Cond.instanceMethod yX10_init, Cond.code yX10_init cX10_init 1 none, Cond.methodLink RX10 3 objectInit, Cond.classLink RX10 9 RX0, Cond.instantiable RX0 5, Cond.initialized RX0, Cond.fieldLink RX10 12 "OffFirst$Told" "cells" "LOffFirst$Cells;", Cond.classLink RX10 18 RX2, Cond.instantiable RX2 8, Cond.initialized RX2, Cond.fieldLink RX10 21 "OffFirst$Told" "foods" "LOffFirst$Foods;", Cond.fieldLink RX10 25 "OffFirst$Told" "dishes" "[I", Cond.fieldLink RX10 29 "OffFirst$Told" "eaters" "[I", Cond.classLink RX10 32 RX5, Cond.instantiable RX5 5, Cond.initialized RX5, Cond.fieldLink RX10 35 "OffFirst$Told" "party" "LOffFirst$Party;", Cond.fieldLink RX10 39 "OffFirst$Told" "slip" "I"]
def wsL_law_r4 : List Cond := [Cond.instanceMethod yX0_init, Cond.code yX0_init cX0_init 1 none, Cond.methodLink RX0 3 objectInit, Cond.fieldLink RX0 9 "OffFirst$Cells" "warm" "[I", Cond.fieldLink RX0 15 "OffFirst$Cells" "more" "[I", Cond.fieldLink RX0 18 "OffFirst$Cells" "room" "[I", Cond.instanceMethod yX2_init, Cond.code yX2_init cX2_init 1 none, Cond.methodLink RX2 3 objectInit, Cond.fieldLink RX2 9 "OffFirst$Foods" "kind" "[I", Cond.fieldLink RX2 15 "OffFirst$Foods" "cell" "[I", Cond.fieldLink RX2 18 "OffFirst$Foods" "coin" "[I", Cond.fieldLink RX2 21 "OffFirst$Foods" "life" "[I", Cond.fieldLink RX2 24 "OffFirst$Foods" "printed" "[I", Cond.fieldLink RX2 27 "OffFirst$Foods" "sort" "[I", Cond.fieldLink RX2 30 "OffFirst$Foods" "ofSort" "[I", Cond.instanceMethod yX5_init, Cond.code yX5_init cX5_init 1 none, Cond.methodLink RX5 3 objectInit, Cond.fieldLink RX5 9 "OffFirst$Party" "guests" "[I", Cond.fieldLink RX5 15 "OffFirst$Party" "weight" "[I", Cond.fieldLink RX5 18 "OffFirst$Party" "single" "I", Cond.fieldLink RX5 22 "OffFirst$Party" "pair" "I", Cond.instanceMethod yX8_init]
def wsL_law_r5 : List Cond := [Cond.code yX8_init cX8_init 1 none, Cond.methodLink RX8 3 objectInit, Cond.fieldLink RX8 9 "OffFirst$Stock" "kind" "[I", Cond.fieldLink RX8 15 "OffFirst$Stock" "cell" "[I", Cond.fieldLink RX8 18 "OffFirst$Stock" "age" "[I", Cond.fieldLink RX8 21 "OffFirst$Stock" "fate" "[I", Cond.fieldLink RX8 24 "OffFirst$Stock" "leftIn" "[I", Cond.methodLink RX11 41 yX3_init, Cond.instanceMethod yX3_init, Cond.code yX3_init cX3_init 3 none, Cond.methodLink RX3 3 objectInit, Cond.fieldLink RX3 9 "OffFirst$Fridge" "laid" "LOffFirst$Told;", Cond.fieldLink RX3 15 "OffFirst$Fridge" "stock" "LOffFirst$Stock;", Cond.methodLink RX11 50 yX1_init, Cond.instanceMethod yX1_init, Cond.code yX1_init cX1_init 2 none, Cond.methodLink RX1 3 objectInit, Cond.fieldLink RX1 9 "OffFirst$Evenings" "ages" "[I", Cond.fieldLink RX1 15 "OffFirst$Evenings" "limits" "[I", Cond.fieldLink RX1 18 "OffFirst$Evenings" "offs" "[I", Cond.fieldLink RX1 21 "OffFirst$Evenings" "fridge" "LOffFirst$Fridge;", Cond.methodLink RX11 59 yX6_init, Cond.instanceMethod yX6_init, Cond.code yX6_init cX6_init 3 none]
def wsL_law_r6 : List Cond := [Cond.methodLink RX6 3 objectInit, Cond.fieldLink RX6 9 "OffFirst$Planner" "row" "[I", Cond.fieldLink RX6 15 "OffFirst$Planner" "best" "[I", Cond.fieldLink RX6 18 "OffFirst$Planner" "fridge" "LOffFirst$Fridge;", Cond.fieldLink RX6 22 "OffFirst$Planner" "evenings" "LOffFirst$Evenings;", Cond.methodLink RX11 68 yX4_init, Cond.instanceMethod yX4_init, Cond.code yX4_init cX4_init 2 none, Cond.methodLink RX4 3 objectInit, Cond.fieldLink RX4 9 "OffFirst$Layer" "lostIn" "[I", Cond.fieldLink RX4 15 "OffFirst$Layer" "free" "[I", Cond.fieldLink RX4 18 "OffFirst$Layer" "way" "[I", Cond.fieldLink RX4 21 "OffFirst$Layer" "best" "[I", Cond.fieldLink RX4 24 "OffFirst$Layer" "fridge" "LOffFirst$Fridge;", Cond.instanceMethod yX7_init, Cond.code yX7_init cX7_init 1 none, Cond.methodLink RX7 3 objectInit, Cond.fieldLink RX7 9 "OffFirst$Spans" "warm" "[I", Cond.fieldLink RX7 15 "OffFirst$Spans" "hours" "[I", Cond.methodLink RX11 84 yX0_add, Cond.instanceMethod yX0_add, Cond.selects RX0 yX0_add yX0_add, Cond.code yX0_add cX0_add 4 (some .boolean), Cond.fieldLink RX0 21 "OffFirst$Cells" "number" "I"]
def wsL_law_r7 : List Cond := [Cond.static yX11_put, Cond.code yX11_put cX11_put 3 none, Cond.methodLink RX11 94 yX2_add, Cond.instanceMethod yX2_add, Cond.selects RX2 yX2_add yX2_add, Cond.code yX2_add cX2_add 7 (some .boolean), Cond.fieldLink RX2 33 "OffFirst$Foods" "number" "I", Cond.static yX11_at, Cond.code yX11_at cX11_at 2 (some .int), Cond.methodLink RX11 99 yX8_start, Cond.instanceMethod yX8_start, Cond.selects RX8 yX8_start yX8_start, Cond.code yX8_start cX8_start 3 none, Cond.fieldLink RX8 33 "OffFirst$Stock" "number" "I", Cond.fieldLink RX8 34 "OffFirst$Stock" "hour" "I", Cond.methodLink RX8 37 yX2_kindOf, Cond.instanceMethod yX2_kindOf, Cond.selects RX2 yX2_kindOf yX2_kindOf, Cond.code yX2_kindOf cX2_kindOf 2 (some .int), Cond.methodLink RX8 45 yX2_cellOf, Cond.instanceMethod yX2_cellOf, Cond.selects RX2 yX2_cellOf yX2_cellOf, Cond.code yX2_cellOf cX2_cellOf 2 (some .int), Cond.methodLink RL 12 yX12_init]
def wsL_law_r8 : List Cond := [Cond.instanceMethod yX12_init, Cond.code yX12_init cX12_init 1 none, Cond.methodLink RX12 1 objectInit, Cond.fieldLink RX12 7 "OffFirstModel" "text" "[I", Cond.fieldLink RX12 13 "OffFirstModel" "cellMany" "[I", Cond.fieldLink RX12 16 "OffFirstModel" "warm" "[I", Cond.fieldLink RX12 19 "OffFirstModel" "more" "[I", Cond.fieldLink RX12 22 "OffFirstModel" "room" "[I", Cond.fieldLink RX12 25 "OffFirstModel" "opens" "[I", Cond.fieldLink RX12 28 "OffFirstModel" "foodMany" "[I", Cond.fieldLink RX12 31 "OffFirstModel" "toldKind" "[I", Cond.fieldLink RX12 34 "OffFirstModel" "toldCell" "[I", Cond.fieldLink RX12 37 "OffFirstModel" "worths" "[I", Cond.fieldLink RX12 40 "OffFirstModel" "lives" "[I", Cond.fieldLink RX12 43 "OffFirstModel" "prints" "[I", Cond.fieldLink RX12 46 "OffFirstModel" "sorts" "[I", Cond.fieldLink RX12 49 "OffFirstModel" "dishMany" "[I", Cond.fieldLink RX12 52 "OffFirstModel" "dishes" "[I", Cond.fieldLink RX12 55 "OffFirstModel" "eaterMany" "[I", Cond.fieldLink RX12 58 "OffFirstModel" "eaters" "[I", Cond.fieldLink RX12 61 "OffFirstModel" "guestMany" "[I", Cond.fieldLink RX12 64 "OffFirstModel" "guests" "[I", Cond.fieldLink RX12 67 "OffFirstModel" "chances" "[I", Cond.fieldLink RX12 70 "OffFirstModel" "prices" "[I"]
def wsL_law_r9 : List Cond := [Cond.fieldLink RX12 73 "OffFirstModel" "kinds" "[I", Cond.fieldLink RX12 76 "OffFirstModel" "cells" "[I", Cond.fieldLink RX12 79 "OffFirstModel" "ages" "[I", Cond.fieldLink RX12 82 "OffFirstModel" "states" "[I", Cond.fieldLink RX12 85 "OffFirstModel" "whens" "[I", Cond.fieldLink RX12 88 "OffFirstModel" "hour" "[I", Cond.fieldLink RX12 91 "OffFirstModel" "spans" "[I", Cond.fieldLink RX12 94 "OffFirstModel" "told" "[I", Cond.methodLink RX12 97 yX12_noFridge, Cond.instanceMethod yX12_noFridge, Cond.selects RX12 yX12_noFridge yX12_noFridge, Cond.code yX12_noFridge cX12_noFridge 2 none, Cond.methodLink RX12 101 yX12_layFridge, Cond.instanceMethod yX12_layFridge, Cond.selects RX12 yX12_layFridge yX12_layFridge, Cond.code yX12_layFridge cX12_layFridge 2 none, Cond.fieldLink RX12 157 "OffFirstModel" "keptMany" "I", Cond.fieldLink RX12 160 "OffFirstModel" "spanMany" "I", Cond.methodLink RL 15 yX11_write, Cond.instanceMethod yX11_write, Cond.selects RX11 yX11_write yX11_write, Cond.code yX11_write cX11_write 4 (some .int), Cond.methodLink RX11 103 yX11_isWithin, Cond.static yX11_isWithin]
def wsL_law_r10 : List Cond := [Cond.code yX11_isWithin cX11_isWithin 3 (some .boolean), Cond.methodLink RX11 106 yX9_append, Cond.instanceMethod yX9_append, Cond.selects RX9 yX9_append yX9_append, Cond.code yX9_append cX9_append 5 (some .boolean), Cond.fieldLink RX9 18 "OffFirst$Text" "length" "I", Cond.constantLong RX9 22 (255), Cond.methodLink RL 19 yX12_write, Cond.instanceMethod yX12_write, Cond.selects RX12 yX12_write yX12_write, Cond.code yX12_write cX12_write 5 (some .int), Cond.constantLong RX12 104 (8), Cond.fieldLink RX12 110 "OffFirstModel" "length" "I", Cond.constantLong RX12 114 (255), Cond.methodLink RX12 106 yX12_in, Cond.static yX12_in, Cond.code yX12_in cX12_in 6 (some .boolean), Cond.methodLink RL 20 yX11_wipe, Cond.instanceMethod yX11_wipe, Cond.selects RX11 yX11_wipe yX11_wipe, Cond.code yX11_wipe cX11_wipe 2 (some .int), Cond.methodLink RL 24 yX12_wipe, Cond.instanceMethod yX12_wipe, Cond.selects RX12 yX12_wipe yX12_wipe]
def wsL_law_r11 : List Cond := [Cond.code yX12_wipe cX12_wipe 2 (some .int), Cond.methodLink RL 25 yX11_fault, Cond.instanceMethod yX11_fault, Cond.selects RX11 yX11_fault yX11_fault, Cond.code yX11_fault cX11_fault 1 (some .int), Cond.methodLink RX11 114 yX10_read, Cond.instanceMethod yX10_read, Cond.selects RX10 yX10_read yX10_read, Cond.code yX10_read cX10_read 5 (some .int), Cond.methodLink RX10 43 yX10_clear, Cond.instanceMethod yX10_clear, Cond.selects RX10 yX10_clear yX10_clear, Cond.code yX10_clear cX10_clear 1 none, Cond.fieldLink RX10 61 "OffFirst$Told" "dishNumber" "I", Cond.fieldLink RX10 64 "OffFirst$Told" "eaterNumber" "I", Cond.methodLink RX10 59 yX0_clear, Cond.instanceMethod yX0_clear, Cond.selects RX0 yX0_clear yX0_clear, Cond.code yX0_clear cX0_clear 1 none, Cond.fieldLink RX0 25 "OffFirst$Cells" "openedHours" "I", Cond.methodLink RX10 60 yX2_clear, Cond.instanceMethod yX2_clear, Cond.selects RX2 yX2_clear yX2_clear, Cond.code yX2_clear cX2_clear 2 none]
def wsL_law_r12 : List Cond := [Cond.methodLink RX10 67 yX5_clear, Cond.instanceMethod yX5_clear, Cond.selects RX5 yX5_clear yX5_clear, Cond.code yX5_clear cX5_clear 1 none, Cond.fieldLink RX5 25 "OffFirst$Party" "number" "I", Cond.methodLink RX10 51 yX9_readItem, Cond.instanceMethod yX9_readItem, Cond.selects RX9 yX9_readItem yX9_readItem, Cond.code yX9_readItem cX9_readItem 6 (some .int), Cond.fieldLink RX9 36 "OffFirst$Text" "letter" "I", Cond.fieldLink RX9 39 "OffFirst$Text" "told" "I", Cond.methodLink RX9 32 yX9_byteAt, Cond.instanceMethod yX9_byteAt, Cond.selects RX9 yX9_byteAt yX9_byteAt, Cond.code yX9_byteAt cX9_byteAt 2 (some .int), Cond.methodLink RX9 42 yX9_readNumber, Cond.instanceMethod yX9_readNumber, Cond.selects RX9 yX9_readNumber yX9_readNumber, Cond.code yX9_readNumber cX9_readNumber 5 (some .int), Cond.methodLink RX9 45 yX9_isFigure, Cond.static yX9_isFigure, Cond.code yX9_isFigure cX9_isFigure 1 (some .boolean), Cond.methodLink RX10 55 yX10_takeItem, Cond.instanceMethod yX10_takeItem]
def wsL_law_r13 : List Cond := [Cond.selects RX10 yX10_takeItem yX10_takeItem, Cond.code yX10_takeItem cX10_takeItem 2 (some .boolean), Cond.methodLink RX10 71 yX10_takeCell, Cond.instanceMethod yX10_takeCell, Cond.selects RX10 yX10_takeCell yX10_takeCell, Cond.code yX10_takeCell cX10_takeCell 2 (some .boolean), Cond.methodLink RX10 98 yX9_isNumberWithin, Cond.instanceMethod yX9_isNumberWithin, Cond.selects RX9 yX9_isNumberWithin yX9_isNumberWithin, Cond.code yX9_isNumberWithin cX9_isNumberWithin 4 (some .boolean), Cond.methodLink RX9 49 yX9_number, Cond.instanceMethod yX9_number, Cond.selects RX9 yX9_number yX9_number, Cond.code yX9_number cX9_number 2 (some .int), Cond.methodLink RX10 102 yX9_number, Cond.methodLink RX10 105 yX0_add, Cond.methodLink RX10 74 yX10_takeOpenedHour, Cond.instanceMethod yX10_takeOpenedHour, Cond.selects RX10 yX10_takeOpenedHour yX10_takeOpenedHour, Cond.code yX10_takeOpenedHour cX10_takeOpenedHour 2 (some .boolean), Cond.methodLink RX10 108 yX0_openIn, Cond.instanceMethod yX0_openIn, Cond.selects RX0 yX0_openIn yX0_openIn, Cond.code yX0_openIn cX0_openIn 2 none]
def wsL_law_r14 : List Cond := [Cond.methodLink RX10 77 yX10_takeFood, Cond.instanceMethod yX10_takeFood, Cond.selects RX10 yX10_takeFood yX10_takeFood, Cond.code yX10_takeFood cX10_takeFood 2 (some .boolean), Cond.methodLink RX10 112 yX0_has, Cond.instanceMethod yX0_has, Cond.selects RX0 yX0_has yX0_has, Cond.code yX0_has cX0_has 2 (some .boolean), Cond.methodLink RX10 116 yX2_add, Cond.methodLink RX10 80 yX10_takeDish, Cond.instanceMethod yX10_takeDish, Cond.selects RX10 yX10_takeDish yX10_takeDish, Cond.code yX10_takeDish cX10_takeDish 2 (some .boolean), Cond.methodLink RX10 83 yX10_takeEater, Cond.instanceMethod yX10_takeEater, Cond.selects RX10 yX10_takeEater yX10_takeEater, Cond.code yX10_takeEater cX10_takeEater 2 (some .boolean), Cond.methodLink RX10 86 yX10_takeGuests, Cond.instanceMethod yX10_takeGuests, Cond.selects RX10 yX10_takeGuests yX10_takeGuests, Cond.code yX10_takeGuests cX10_takeGuests 2 (some .boolean), Cond.methodLink RX10 123 yX5_add, Cond.instanceMethod yX5_add, Cond.selects RX5 yX5_add yX5_add]
def wsL_law_r15 : List Cond := [Cond.code yX5_add cX5_add 3 (some .boolean), Cond.methodLink RX10 89 yX10_takePacks, Cond.instanceMethod yX10_takePacks, Cond.selects RX10 yX10_takePacks yX10_takePacks, Cond.code yX10_takePacks cX10_takePacks 2 (some .boolean), Cond.methodLink RX10 92 yX10_takeSlip, Cond.instanceMethod yX10_takeSlip, Cond.selects RX10 yX10_takeSlip yX10_takeSlip, Cond.code yX10_takeSlip cX10_takeSlip 2 (some .boolean), Cond.methodLink RL 28 yX12_fault, Cond.instanceMethod yX12_fault, Cond.selects RX12 yX12_fault yX12_fault, Cond.code yX12_fault cX12_fault 1 (some .int), Cond.methodLink RX12 153 yX12_readAll, Cond.instanceMethod yX12_readAll, Cond.selects RX12 yX12_readAll yX12_readAll, Cond.code yX12_readAll cX12_readAll 2 (some .int), Cond.fieldLink RX12 116 "OffFirstModel" "place" "I", Cond.methodLink RX12 150 yX12_item, Cond.instanceMethod yX12_item, Cond.selects RX12 yX12_item yX12_item, Cond.code yX12_item cX12_item 2 (some .boolean), Cond.constantLong RX12 144 (15), Cond.constantLong RX12 146 (99)]
def wsL_law_r16 : List Cond := [Cond.constantLong RX12 148 (198), Cond.methodLink RX12 119 yX12_byteAt, Cond.instanceMethod yX12_byteAt, Cond.selects RX12 yX12_byteAt yX12_byteAt, Cond.code yX12_byteAt cX12_byteAt 2 (some .int), Cond.methodLink RX12 137 yX12_cellItem, Cond.instanceMethod yX12_cellItem, Cond.selects RX12 yX12_cellItem yX12_cellItem, Cond.code yX12_cellItem cX12_cellItem 2 (some .boolean), Cond.constantLong RX12 133 (10), Cond.methodLink RX12 129 yX12_figures, Cond.instanceMethod yX12_figures, Cond.selects RX12 yX12_figures yX12_figures, Cond.code yX12_figures cX12_figures 5 (some .boolean), Cond.constantLong RX12 123 (48), Cond.constantLong RX12 125 (57), Cond.constantLong RX12 127 (3), Cond.methodLink RX12 141 yX12_foodItem, Cond.instanceMethod yX12_foodItem, Cond.selects RX12 yX12_foodItem yX12_foodItem, Cond.code yX12_foodItem cX12_foodItem 2 (some .boolean), Cond.constantLong RX12 135 (240), Cond.methodLink RL 29 yX11_lay, Cond.instanceMethod yX11_lay]
def wsL_law_r17 : List Cond := [Cond.selects RX11 yX11_lay yX11_lay, Cond.code yX11_lay cX11_lay 1 (some .int), Cond.fieldLink RX11 125 "OffFirst" "keptNumber" "I", Cond.methodLink RX11 118 yX10_canBeLaid, Cond.instanceMethod yX10_canBeLaid, Cond.selects RX10 yX10_canBeLaid yX10_canBeLaid, Cond.code yX10_canBeLaid cX10_canBeLaid 2 (some .boolean), Cond.methodLink RX10 134 yX2_numberIn, Cond.instanceMethod yX2_numberIn, Cond.selects RX2 yX2_numberIn yX2_numberIn, Cond.code yX2_numberIn cX2_numberIn 4 (some .int), Cond.methodLink RX10 137 yX0_roomOf, Cond.instanceMethod yX0_roomOf, Cond.selects RX0 yX0_roomOf yX0_roomOf, Cond.code yX0_roomOf cX0_roomOf 2 (some .int), Cond.methodLink RL 32 yX12_lay, Cond.instanceMethod yX12_lay, Cond.selects RX12 yX12_lay yX12_lay, Cond.code yX12_lay cX12_lay 2 (some .int), Cond.methodLink RX12 163 yX12_isRoomy, Cond.instanceMethod yX12_isRoomy, Cond.selects RX12 yX12_isRoomy yX12_isRoomy, Cond.code yX12_isRoomy cX12_isRoomy 5 (some .boolean), Cond.methodLink RL 33 yX11_food]
def wsL_law_r18 : List Cond := [Cond.instanceMethod yX11_food, Cond.selects RX11 yX11_food yX11_food, Cond.code yX11_food cX11_food 3 (some .int), Cond.methodLink RX11 129 yX3_hasFood, Cond.instanceMethod yX3_hasFood, Cond.selects RX3 yX3_hasFood yX3_hasFood, Cond.code yX3_hasFood cX3_hasFood 2 (some .boolean), Cond.methodLink RX11 133 yX8_kindOf, Cond.instanceMethod yX8_kindOf, Cond.selects RX8 yX8_kindOf yX8_kindOf, Cond.code yX8_kindOf cX8_kindOf 2 (some .int), Cond.methodLink RX11 137 yX8_cellOf, Cond.instanceMethod yX8_cellOf, Cond.selects RX8 yX8_cellOf yX8_cellOf, Cond.code yX8_cellOf cX8_cellOf 2 (some .int), Cond.methodLink RX11 140 yX8_ageOf, Cond.instanceMethod yX8_ageOf, Cond.selects RX8 yX8_ageOf yX8_ageOf, Cond.code yX8_ageOf cX8_ageOf 2 (some .int), Cond.methodLink RX11 143 yX3_limitOf, Cond.instanceMethod yX3_limitOf, Cond.selects RX3 yX3_limitOf yX3_limitOf, Cond.code yX3_limitOf cX3_limitOf 2 (some .int), Cond.methodLink RX3 31 yX8_kindOf]
def wsL_law_r19 : List Cond := [Cond.methodLink RX3 37 yX2_limitAs, Cond.instanceMethod yX2_limitAs, Cond.selects RX2 yX2_limitAs yX2_limitAs, Cond.code yX2_limitAs cX2_limitAs 3 (some .int), Cond.methodLink RX11 146 yX8_fateOf, Cond.instanceMethod yX8_fateOf, Cond.selects RX8 yX8_fateOf yX8_fateOf, Cond.code yX8_fateOf cX8_fateOf 2 (some .int), Cond.methodLink RX11 149 yX3_isOff, Cond.instanceMethod yX3_isOff, Cond.selects RX3 yX3_isOff yX3_isOff, Cond.code yX3_isOff cX3_isOff 2 (some .boolean), Cond.methodLink RX3 41 yX8_ageOf, Cond.methodLink RX3 44 yX3_limitOf, Cond.methodLink RX11 152 yX2_sortOf, Cond.instanceMethod yX2_sortOf, Cond.selects RX2 yX2_sortOf yX2_sortOf, Cond.code yX2_sortOf cX2_sortOf 2 (some .int), Cond.methodLink RL 37 yX12_food, Cond.instanceMethod yX12_food, Cond.selects RX12 yX12_food yX12_food, Cond.code yX12_food cX12_food 3 (some .int), Cond.constantLong RX12 186 (6), Cond.methodLink RX12 183 yX12_isFood]
def wsL_law_r20 : List Cond := [Cond.instanceMethod yX12_isFood, Cond.selects RX12 yX12_isFood yX12_isFood, Cond.code yX12_isFood cX12_isFood 2 (some .boolean), Cond.methodLink RX12 170 yX12_limitOf, Cond.instanceMethod yX12_limitOf, Cond.selects RX12 yX12_limitOf yX12_limitOf, Cond.code yX12_limitOf cX12_limitOf 2 (some .int), Cond.methodLink RX12 180 yX12_isOff, Cond.instanceMethod yX12_isOff, Cond.selects RX12 yX12_isOff yX12_isOff, Cond.code yX12_isOff cX12_isOff 2 (some .boolean), Cond.methodLink RL 38 yX11_warmth, Cond.instanceMethod yX11_warmth, Cond.selects RX11 yX11_warmth yX11_warmth, Cond.code yX11_warmth cX11_warmth 3 (some .int), Cond.constant RX11 158 (99999), Cond.methodLink RX11 155 yX0_has, Cond.methodLink RX11 159 yX0_warmIn, Cond.instanceMethod yX0_warmIn, Cond.selects RX0 yX0_warmIn yX0_warmIn, Cond.code yX0_warmIn cX0_warmIn 3 (some .int), Cond.methodLink RX0 36 yX0_isOpenedIn, Cond.instanceMethod yX0_isOpenedIn, Cond.selects RX0 yX0_isOpenedIn yX0_isOpenedIn]
def wsL_law_r21 : List Cond := [Cond.code yX0_isOpenedIn cX0_isOpenedIn 2 (some .boolean), Cond.methodLink RL 41 yX12_warmth, Cond.instanceMethod yX12_warmth, Cond.selects RX12 yX12_warmth yX12_warmth, Cond.code yX12_warmth cX12_warmth 3 (some .int), Cond.constantLong RX12 191 (99999), Cond.methodLink RX12 188 yX12_isCell, Cond.instanceMethod yX12_isCell, Cond.selects RX12 yX12_isCell yX12_isCell, Cond.code yX12_isCell cX12_isCell 2 (some .boolean), Cond.methodLink RX12 173 yX12_warmthOf, Cond.instanceMethod yX12_warmthOf, Cond.selects RX12 yX12_warmthOf yX12_warmthOf, Cond.code yX12_warmthOf cX12_warmthOf 3 (some .int), Cond.methodLink RX12 166 yX12_has, Cond.static yX12_has, Cond.code yX12_has cX12_has 2 (some .boolean), Cond.methodLink RL 42 yX11_hours, Cond.instanceMethod yX11_hours, Cond.selects RX11 yX11_hours yX11_hours, Cond.code yX11_hours cX11_hours 2 (some .int), Cond.methodLink RX11 166 yX3_letHoursGoBy, Cond.instanceMethod yX3_letHoursGoBy, Cond.selects RX3 yX3_letHoursGoBy yX3_letHoursGoBy]
def wsL_law_r22 : List Cond := [Cond.code yX3_letHoursGoBy cX3_letHoursGoBy 3 none, Cond.methodLink RX3 47 yX8_isThere, Cond.instanceMethod yX8_isThere, Cond.selects RX8 yX8_isThere yX8_isThere, Cond.code yX8_isThere cX8_isThere 2 (some .boolean), Cond.methodLink RX3 80 yX3_ageBehind, Cond.instanceMethod yX3_ageBehind, Cond.selects RX3 yX3_ageBehind yX3_ageBehind, Cond.code yX3_ageBehind cX3_ageBehind 3 (some .int), Cond.methodLink RX3 54 yX8_cellOf, Cond.methodLink RX3 57 yX3_ageAs, Cond.instanceMethod yX3_ageAs, Cond.selects RX3 yX3_ageAs yX3_ageAs, Cond.code yX3_ageAs cX3_ageAs 5 (some .int), Cond.methodLink RX3 68 yX0_warmthOver, Cond.instanceMethod yX0_warmthOver, Cond.selects RX0 yX0_warmthOver yX0_warmthOver, Cond.code yX0_warmthOver cX0_warmthOver 6 (some .int), Cond.methodLink RX0 40 yJ6_bitCount_0f7a4, Cond.static yJ6_bitCount_0f7a4, Cond.initialized RJ6, Cond.code yJ6_bitCount_0f7a4 cJ6_bitCount_0f7a4 1 (some .int), Cond.constant RJ6 265 (1431655765), Cond.constant RJ6 266 (858993459)]
def wsL_law_r23 : List Cond := [Cond.constant RJ6 267 (252645135), Cond.static yX11_ageing, Cond.code yX11_ageing cX11_ageing 4 (some .int), Cond.methodLink RX3 83 yX8_ageTo, Cond.instanceMethod yX8_ageTo, Cond.selects RX8 yX8_ageTo yX8_ageTo, Cond.code yX8_ageTo cX8_ageTo 3 none, Cond.methodLink RX11 170 yX3_offAndThere, Cond.instanceMethod yX3_offAndThere, Cond.selects RX3 yX3_offAndThere yX3_offAndThere, Cond.code yX3_offAndThere cX3_offAndThere 3 (some .int), Cond.methodLink RX3 51 yX3_isOff, Cond.methodLink RX11 174 yJ6_bitCount_0f7a4, Cond.methodLink RL 46 yX12_hours, Cond.instanceMethod yX12_hours, Cond.selects RX12 yX12_hours yX12_hours, Cond.code yX12_hours cX12_hours 4 (some .int), Cond.constantLong RX12 193 (999), Cond.constant RX12 195 (99999), Cond.methodLink RX12 196 yX12_goHour, Cond.instanceMethod yX12_goHour, Cond.selects RX12 yX12_goHour yX12_goHour, Cond.code yX12_goHour cX12_goHour 4 none, Cond.methodLink RX12 177 yX12_agesBy]
def wsL_law_r24 : List Cond := [Cond.static yX12_agesBy, Cond.code yX12_agesBy cX12_agesBy 2 (some .int), Cond.methodLink RL 47 yX11_move, Cond.instanceMethod yX11_move, Cond.selects RX11 yX11_move yX11_move, Cond.code yX11_move cX11_move 3 (some .int), Cond.methodLink RX11 179 yX8_isThere, Cond.methodLink RX11 182 yX8_numberIn, Cond.instanceMethod yX8_numberIn, Cond.selects RX8 yX8_numberIn yX8_numberIn, Cond.code yX8_numberIn cX8_numberIn 4 (some .int), Cond.methodLink RX8 52 yX8_isThere, Cond.methodLink RX11 185 yX0_roomOf, Cond.methodLink RX11 188 yX8_putInto, Cond.instanceMethod yX8_putInto, Cond.selects RX8 yX8_putInto yX8_putInto, Cond.code yX8_putInto cX8_putInto 3 none, Cond.methodLink RL 50 yX12_move, Cond.instanceMethod yX12_move, Cond.selects RX12 yX12_move yX12_move, Cond.code yX12_move cX12_move 3 (some .int), Cond.methodLink RX12 199 yX12_inCell, Cond.instanceMethod yX12_inCell, Cond.selects RX12 yX12_inCell yX12_inCell]
def wsL_law_r25 : List Cond := [Cond.code yX12_inCell cX12_inCell 4 (some .int), Cond.methodLink RL 51 yX11_make, Cond.instanceMethod yX11_make, Cond.selects RX11 yX11_make yX11_make, Cond.code yX11_make cX11_make 4 (some .int), Cond.methodLink RX11 192 yX11_canBecome, Cond.static yX11_canBecome, Cond.code yX11_canBecome cX11_canBecome 2 (some .boolean), Cond.methodLink RX11 196 yX8_turnInto, Cond.instanceMethod yX8_turnInto, Cond.selects RX8 yX8_turnInto yX8_turnInto, Cond.code yX8_turnInto cX8_turnInto 3 none, Cond.methodLink RL 54 yX12_make, Cond.instanceMethod yX12_make, Cond.selects RX12 yX12_make yX12_make, Cond.code yX12_make cX12_make 5 (some .int), Cond.methodLink RL 55 yX11_eat, Cond.instanceMethod yX11_eat, Cond.selects RX11 yX11_eat yX11_eat, Cond.code yX11_eat cX11_eat 2 (some .int), Cond.methodLink RX11 199 yX11_takeAway, Cond.instanceMethod yX11_takeAway, Cond.selects RX11 yX11_takeAway yX11_takeAway, Cond.code yX11_takeAway cX11_takeAway 3 (some .int)]
def wsL_law_r26 : List Cond := [Cond.methodLink RX11 291 yX8_takeOut, Cond.instanceMethod yX8_takeOut, Cond.selects RX8 yX8_takeOut yX8_takeOut, Cond.code yX8_takeOut cX8_takeOut 3 none, Cond.methodLink RL 58 yX12_eat, Cond.instanceMethod yX12_eat, Cond.selects RX12 yX12_eat yX12_eat, Cond.code yX12_eat cX12_eat 2 (some .int), Cond.methodLink RX12 202 yX12_take, Cond.instanceMethod yX12_take, Cond.selects RX12 yX12_take yX12_take, Cond.code yX12_take cX12_take 3 (some .int), Cond.methodLink RL 59 yX11_throwOut, Cond.instanceMethod yX11_throwOut, Cond.selects RX11 yX11_throwOut yX11_throwOut, Cond.code yX11_throwOut cX11_throwOut 2 (some .int), Cond.methodLink RL 62 yX12_throwOut, Cond.instanceMethod yX12_throwOut, Cond.selects RX12 yX12_throwOut yX12_throwOut, Cond.code yX12_throwOut cX12_throwOut 2 (some .int), Cond.methodLink RL 63 yX11_offIn, Cond.instanceMethod yX11_offIn, Cond.selects RX11 yX11_offIn yX11_offIn, Cond.code yX11_offIn cX11_offIn 3 (some .int)]
def wsL_law_r27 : List Cond := [Cond.methodLink RX11 202 yX3_hoursTillOff, Cond.instanceMethod yX3_hoursTillOff, Cond.selects RX3 yX3_hoursTillOff yX3_hoursTillOff, Cond.code yX3_hoursTillOff cX3_hoursTillOff 9 (some .int), Cond.methodLink RX3 87 yX0_warmIn, Cond.methodLink RL 66 yX12_offIn, Cond.instanceMethod yX12_offIn, Cond.selects RX12 yX12_offIn yX12_offIn, Cond.code yX12_offIn cX12_offIn 6 (some .int), Cond.methodLink RL 67 yX11_lost, Cond.instanceMethod yX11_lost, Cond.selects RX11 yX11_lost yX11_lost, Cond.code yX11_lost cX11_lost 2 (some .int), Cond.methodLink RX11 205 yX3_lostBehind, Cond.instanceMethod yX3_lostBehind, Cond.selects RX3 yX3_lostBehind yX3_lostBehind, Cond.code yX3_lostBehind cX3_lostBehind 4 (some .int), Cond.methodLink RX3 90 yX3_coinLostAs, Cond.instanceMethod yX3_coinLostAs, Cond.selects RX3 yX3_coinLostAs yX3_coinLostAs, Cond.code yX3_coinLostAs cX3_coinLostAs 5 (some .int), Cond.methodLink RX3 77 yX2_coinOf, Cond.instanceMethod yX2_coinOf, Cond.selects RX2 yX2_coinOf yX2_coinOf]
def wsL_law_r28 : List Cond := [Cond.code yX2_coinOf cX2_coinOf 2 (some .int), Cond.methodLink RL 70 yX12_lost, Cond.instanceMethod yX12_lost, Cond.selects RX12 yX12_lost yX12_lost, Cond.code yX12_lost cX12_lost 2 (some .int), Cond.methodLink RX12 210 yX12_isLater, Cond.static yX12_isLater, Cond.code yX12_isLater cX12_isLater 1 (some .boolean), Cond.constantLong RX12 205 (500), Cond.methodLink RX12 213 yX12_copy, Cond.instanceMethod yX12_copy, Cond.selects RX12 yX12_copy yX12_copy, Cond.code yX12_copy cX12_copy 4 none, Cond.methodLink RX12 217 yX12_lostOf, Cond.instanceMethod yX12_lostOf, Cond.selects RX12 yX12_lostOf yX12_lostOf, Cond.code yX12_lostOf cX12_lostOf 3 (some .int), Cond.methodLink RX12 207 yX12_offCoin, Cond.instanceMethod yX12_offCoin, Cond.selects RX12 yX12_offCoin yX12_offCoin, Cond.code yX12_offCoin cX12_offCoin 4 (some .int), Cond.methodLink RL 71 yX11_plan, Cond.instanceMethod yX11_plan, Cond.selects RX11 yX11_plan yX11_plan]
def wsL_law_r29 : List Cond := [Cond.code yX11_plan cX11_plan 3 (some .int), Cond.methodLink RX11 208 yX6_findCheapest, Cond.instanceMethod yX6_findCheapest, Cond.selects RX6 yX6_findCheapest yX6_findCheapest, Cond.code yX6_findCheapest cX6_findCheapest 2 none, Cond.fieldLink RX6 26 "OffFirst$Planner" "number" "I", Cond.constant RX6 30 (1000000000), Cond.fieldLink RX6 31 "OffFirst$Planner" "leastCost" "I", Cond.methodLink RX6 34 yX1_lookAhead, Cond.instanceMethod yX1_lookAhead, Cond.selects RX1 yX1_lookAhead yX1_lookAhead, Cond.code yX1_lookAhead cX1_lookAhead 7 none, Cond.methodLink RX1 52 yX3_limitOf, Cond.methodLink RX1 60 yX3_ageBehind, Cond.methodLink RX6 46 yX8_bitsThere, Cond.instanceMethod yX8_bitsThere, Cond.selects RX8 yX8_bitsThere yX8_bitsThere, Cond.code yX8_bitsThere cX8_bitsThere 3 (some .int), Cond.methodLink RX6 52 yX6_tryEvening, Cond.instanceMethod yX6_tryEvening, Cond.selects RX6 yX6_tryEvening yX6_tryEvening, Cond.code yX6_tryEvening cX6_tryEvening 7 none, Cond.methodLink RX6 70 yX1_offOn, Cond.instanceMethod yX1_offOn]
def wsL_law_r30 : List Cond := [Cond.selects RX1 yX1_offOn yX1_offOn, Cond.code yX1_offOn cX1_offOn 2 (some .int), Cond.methodLink RX6 74 yX2_coinOfAll, Cond.instanceMethod yX2_coinOfAll, Cond.selects RX2 yX2_coinOfAll yX2_coinOfAll, Cond.code yX2_coinOfAll cX2_coinOfAll 4 (some .int), Cond.static yX11_hasBit, Cond.code yX11_hasBit cX11_hasBit 2 (some .boolean), Cond.methodLink RX6 79 yX6_settle, Cond.instanceMethod yX6_settle, Cond.selects RX6 yX6_settle yX6_settle, Cond.code yX6_settle cX6_settle 3 none, Cond.methodLink RX6 86 yX10_hungryWith, Cond.instanceMethod yX10_hungryWith, Cond.selects RX10 yX10_hungryWith yX10_hungryWith, Cond.code yX10_hungryWith cX10_hungryWith 4 (some .int), Cond.methodLink RX6 92 yX10_sortsOfDish, Cond.instanceMethod yX10_sortsOfDish, Cond.selects RX10 yX10_sortsOfDish yX10_sortsOfDish, Cond.code yX10_sortsOfDish cX10_sortsOfDish 2 (some .int), Cond.methodLink RX6 95 yX6_eatenOn, Cond.instanceMethod yX6_eatenOn, Cond.selects RX6 yX6_eatenOn yX6_eatenOn, Cond.code yX6_eatenOn cX6_eatenOn 8 (some .int)]
def wsL_law_r31 : List Cond := [Cond.methodLink RX6 103 yX2_bitsOfSort, Cond.instanceMethod yX2_bitsOfSort, Cond.selects RX2 yX2_bitsOfSort yX2_bitsOfSort, Cond.code yX2_bitsOfSort cX2_bitsOfSort 2 (some .int), Cond.methodLink RX6 106 yX1_oldestOn, Cond.instanceMethod yX1_oldestOn, Cond.selects RX1 yX1_oldestOn yX1_oldestOn, Cond.code yX1_oldestOn cX1_oldestOn 5 (some .int), Cond.methodLink RX1 72 yX1_isOlderOn, Cond.instanceMethod yX1_isOlderOn, Cond.selects RX1 yX1_isOlderOn yX1_isOlderOn, Cond.code yX1_isOlderOn cX1_isOlderOn 8 (some .boolean), Cond.methodLink RX11 214 yX6_dishOn, Cond.instanceMethod yX6_dishOn, Cond.selects RX6 yX6_dishOn yX6_dishOn, Cond.code yX6_dishOn cX6_dishOn 2 (some .int), Cond.methodLink RL 74 yX12_plan, Cond.instanceMethod yX12_plan, Cond.selects RX12 yX12_plan yX12_plan, Cond.code yX12_plan cX12_plan 8 (some .int), Cond.constantLong RX12 239 (4), Cond.constantLong RX12 241 (-1), Cond.methodLink RX12 243 yX12_costOf, Cond.instanceMethod yX12_costOf]
def wsL_law_r32 : List Cond := [Cond.selects RX12 yX12_costOf yX12_costOf, Cond.code yX12_costOf cX12_costOf 7 (some .int), Cond.methodLink RX12 226 yX12_goToEvening, Cond.instanceMethod yX12_goToEvening, Cond.selects RX12 yX12_goToEvening yX12_goToEvening, Cond.code yX12_goToEvening cX12_goToEvening 1 none, Cond.methodLink RX12 229 yX12_figure, Cond.instanceMethod yX12_figure, Cond.selects RX12 yX12_figure yX12_figure, Cond.code yX12_figure cX12_figure 7 (some .int), Cond.methodLink RX12 233 yX12_eatDish, Cond.instanceMethod yX12_eatDish, Cond.selects RX12 yX12_eatDish yX12_eatDish, Cond.code yX12_eatDish cX12_eatDish 4 (some .boolean), Cond.methodLink RX12 223 yX12_oldestOf, Cond.instanceMethod yX12_oldestOf, Cond.selects RX12 yX12_oldestOf yX12_oldestOf, Cond.code yX12_oldestOf cX12_oldestOf 5 (some .int), Cond.methodLink RX12 220 yX12_isOlder, Cond.instanceMethod yX12_isOlder, Cond.selects RX12 yX12_isOlder yX12_isOlder, Cond.code yX12_isOlder cX12_isOlder 3 (some .boolean), Cond.methodLink RX12 236 yX12_hungryOf, Cond.instanceMethod yX12_hungryOf]
def wsL_law_r33 : List Cond := [Cond.selects RX12 yX12_hungryOf yX12_hungryOf, Cond.code yX12_hungryOf cX12_hungryOf 4 (some .int), Cond.methodLink RL 75 yX11_freeze, Cond.instanceMethod yX11_freeze, Cond.selects RX11 yX11_freeze yX11_freeze, Cond.code yX11_freeze cX11_freeze 4 (some .int), Cond.methodLink RX11 217 yX3_bestToFreeze, Cond.instanceMethod yX3_bestToFreeze, Cond.selects RX3 yX3_bestToFreeze yX3_bestToFreeze, Cond.code yX3_bestToFreeze cX3_bestToFreeze 6 (some .int), Cond.methodLink RX3 93 yX3_lostBehind, Cond.methodLink RX3 96 yX3_lostIfFrozen, Cond.instanceMethod yX3_lostIfFrozen, Cond.selects RX3 yX3_lostIfFrozen yX3_lostIfFrozen, Cond.code yX3_lostIfFrozen cX3_lostIfFrozen 5 (some .int), Cond.methodLink RX11 220 yX3_lostIfFrozen, Cond.methodLink RL 78 yX12_freeze, Cond.instanceMethod yX12_freeze, Cond.selects RX12 yX12_freeze yX12_freeze, Cond.code yX12_freeze cX12_freeze 7 (some .int), Cond.methodLink RL 79 yX11_lie, Cond.instanceMethod yX11_lie, Cond.selects RX11 yX11_lie yX11_lie, Cond.code yX11_lie cX11_lie 4 (some .int)]
def wsL_law_r34 : List Cond := [Cond.methodLink RX11 223 yX8_numberThere, Cond.instanceMethod yX8_numberThere, Cond.selects RX8 yX8_numberThere yX8_numberThere, Cond.code yX8_numberThere cX8_numberThere 1 (some .int), Cond.methodLink RX8 56 yX8_bitsThere, Cond.methodLink RX8 60 yJ6_bitCount_0f7a4, Cond.methodLink RX11 226 yX4_findBest, Cond.instanceMethod yX4_findBest, Cond.selects RX4 yX4_findBest yX4_findBest, Cond.code yX4_findBest cX4_findBest 4 none, Cond.fieldLink RX4 28 "OffFirst$Layer" "number" "I", Cond.constant RX4 32 (1000000000), Cond.fieldLink RX4 33 "OffFirst$Layer" "leastLost" "I", Cond.methodLink RX4 51 yX0_roomOf, Cond.methodLink RX4 59 yX8_numberIn, Cond.methodLink RX4 68 yX4_lookAtFoods, Cond.instanceMethod yX4_lookAtFoods, Cond.selects RX4 yX4_lookAtFoods yX4_lookAtFoods, Cond.code yX4_lookAtFoods cX4_lookAtFoods 8 (some .int), Cond.methodLink RX4 82 yX8_isThere, Cond.methodLink RX4 86 yX8_kindOf, Cond.methodLink RX4 89 yX8_cellOf, Cond.methodLink RX4 92 yX3_coinLostAs, Cond.methodLink RX4 71 yX4_tryFood]
def wsL_law_r35 : List Cond := [Cond.instanceMethod yX4_tryFood, Cond.selects RX4 yX4_tryFood yX4_tryFood, Cond.code yX4_tryFood cX4_tryFood 5 none, Cond.methodLink RX4 100 yX4_settle, Cond.instanceMethod yX4_settle, Cond.selects RX4 yX4_settle yX4_settle, Cond.code yX4_settle cX4_settle 3 none, Cond.methodLink RX11 232 yX4_cellFor, Cond.instanceMethod yX4_cellFor, Cond.selects RX4 yX4_cellFor yX4_cellFor, Cond.code yX4_cellFor cX4_cellFor 2 (some .int), Cond.methodLink RL 83 yX12_lie, Cond.instanceMethod yX12_lie, Cond.selects RX12 yX12_lie yX12_lie, Cond.code yX12_lie cX12_lie 9 (some .int), Cond.methodLink RX12 246 yX12_thereMany, Cond.instanceMethod yX12_thereMany, Cond.selects RX12 yX12_thereMany yX12_thereMany, Cond.code yX12_thereMany cX12_thereMany 3 (some .int), Cond.methodLink RX12 249 yX12_layAs, Cond.instanceMethod yX12_layAs, Cond.selects RX12 yX12_layAs yX12_layAs, Cond.code yX12_layAs cX12_layAs 8 (some .boolean), Cond.methodLink RL 84 yX11_expect]
def wsL_law_r36 : List Cond := [Cond.instanceMethod yX11_expect, Cond.selects RX11 yX11_expect yX11_expect, Cond.code yX11_expect cX11_expect 2 (some .int), Cond.methodLink RX11 242 yX5_expectOf, Cond.instanceMethod yX5_expectOf, Cond.selects RX5 yX5_expectOf yX5_expectOf, Cond.code yX5_expectOf cX5_expectOf 6 (some .int), Cond.methodLink RX5 32 Lib.Math.min.name, Cond.static Lib.Math.min.name, Cond.initialized "java/lang/Math", Cond.code Lib.Math.min.name Lib.Math.min.code 2 (some .int), Cond.methodLink RX5 42 Lib.Math.max.name, Cond.static Lib.Math.max.name, Cond.code Lib.Math.max.name Lib.Math.max.code 2 (some .int), Cond.methodLink RL 87 yX12_expect, Cond.instanceMethod yX12_expect, Cond.selects RX12 yX12_expect yX12_expect, Cond.code yX12_expect cX12_expect 2 (some .int), Cond.constantLong RX12 252 (9), Cond.methodLink RX12 254 yX12_expectOf, Cond.instanceMethod yX12_expectOf, Cond.selects RX12 yX12_expectOf yX12_expectOf, Cond.code yX12_expectOf cX12_expectOf 8 (some .int), Cond.methodLink RL 88 yX11_buy]
def wsL_law_r37 : List Cond := [Cond.instanceMethod yX11_buy, Cond.selects RX11 yX11_buy yX11_buy, Cond.code yX11_buy cX11_buy 1 (some .int), Cond.methodLink RX11 245 yX5_bestPacks, Cond.instanceMethod yX5_bestPacks, Cond.selects RX5 yX5_bestPacks yX5_bestPacks, Cond.code yX5_bestPacks cX5_bestPacks 3 (some .int), Cond.methodLink RX5 45 yX5_expectOf, Cond.methodLink RL 91 yX12_buy, Cond.instanceMethod yX12_buy, Cond.selects RX12 yX12_buy yX12_buy, Cond.code yX12_buy cX12_buy 3 (some .int), Cond.methodLink RL 92 yX11_print, Cond.instanceMethod yX11_print, Cond.selects RX11 yX11_print yX11_print, Cond.code yX11_print cX11_print 2 (some .int), Cond.methodLink RX11 248 yX3_errorsByPrint, Cond.instanceMethod yX3_errorsByPrint, Cond.selects RX3 yX3_errorsByPrint yX3_errorsByPrint, Cond.code yX3_errorsByPrint cX3_errorsByPrint 6 (some .int), Cond.methodLink RX3 99 yX2_printedOf, Cond.instanceMethod yX2_printedOf, Cond.selects RX2 yX2_printedOf yX2_printedOf, Cond.code yX2_printedOf cX2_printedOf 2 (some .int)]
def wsL_law_r38 : List Cond := [Cond.methodLink RL 95 yX12_print, Cond.instanceMethod yX12_print, Cond.selects RX12 yX12_print yX12_print, Cond.code yX12_print cX12_print 5 (some .int), Cond.methodLink RL 96 yX11_smell, Cond.instanceMethod yX11_smell, Cond.selects RX11 yX11_smell yX11_smell, Cond.code yX11_smell cX11_smell 2 (some .int), Cond.methodLink RX11 252 yX3_errorsBySmell, Cond.instanceMethod yX3_errorsBySmell, Cond.selects RX3 yX3_errorsBySmell yX3_errorsBySmell, Cond.code yX3_errorsBySmell cX3_errorsBySmell 5 (some .int), Cond.methodLink RL 99 yX12_smell, Cond.instanceMethod yX12_smell, Cond.selects RX12 yX12_smell yX12_smell, Cond.code yX12_smell cX12_smell 2 (some .int), Cond.constantLong RX12 257 (20), Cond.methodLink RX12 259 yX12_errorsAt, Cond.instanceMethod yX12_errorsAt, Cond.selects RX12 yX12_errorsAt yX12_errorsAt, Cond.code yX12_errorsAt cX12_errorsAt 5 (some .int), Cond.methodLink RL 100 yX11_line, Cond.instanceMethod yX11_line, Cond.selects RX11 yX11_line yX11_line]
def wsL_law_r39 : List Cond := [Cond.code yX11_line cX11_line 1 (some .int), Cond.methodLink RX11 255 yX3_bestLine, Cond.instanceMethod yX3_bestLine, Cond.selects RX3 yX3_bestLine yX3_bestLine, Cond.code yX3_bestLine cX3_bestLine 3 (some .int), Cond.methodLink RX3 105 yX3_errorsBySmell, Cond.methodLink RL 103 yX12_line, Cond.instanceMethod yX12_line, Cond.selects RX12 yX12_line yX12_line, Cond.code yX12_line cX12_line 3 (some .int), Cond.methodLink RL 104 yX11_cut, Cond.instanceMethod yX11_cut, Cond.selects RX11 yX11_cut yX11_cut, Cond.code yX11_cut cX11_cut 3 (some .int), Cond.methodLink RX11 258 yX3_offBehindCut, Cond.instanceMethod yX3_offBehindCut, Cond.selects RX3 yX3_offBehindCut yX3_offBehindCut, Cond.code yX3_offBehindCut cX3_offBehindCut 7 (some .int), Cond.methodLink RX3 108 yX0_warmthOverCut, Cond.instanceMethod yX0_warmthOverCut, Cond.selects RX0 yX0_warmthOverCut yX0_warmthOverCut, Cond.code yX0_warmthOverCut cX0_warmthOverCut 5 (some .int), Cond.methodLink RL 108 yX12_cut, Cond.instanceMethod yX12_cut]
def wsL_law_r40 : List Cond := [Cond.selects RX12 yX12_cut yX12_cut, Cond.code yX12_cut cX12_cut 7 (some .int), Cond.methodLink RL 109 yX11_ill, Cond.instanceMethod yX11_ill, Cond.selects RX11 yX11_ill yX11_ill, Cond.code yX11_ill cX11_ill 6 (some .int), Cond.methodLink RX11 262 yX3_weightOfIll, Cond.instanceMethod yX3_weightOfIll, Cond.selects RX3 yX3_weightOfIll yX3_weightOfIll, Cond.code yX3_weightOfIll cX3_weightOfIll 5 (some .int), Cond.methodLink RX3 112 yX8_hoursSinceLeft, Cond.instanceMethod yX8_hoursSinceLeft, Cond.selects RX8 yX8_hoursSinceLeft yX8_hoursSinceLeft, Cond.code yX8_hoursSinceLeft cX8_hoursSinceLeft 2 (some .int), Cond.methodLink RX3 115 yX8_fateOf, Cond.methodLink RX11 265 yX11_greatestDivisor, Cond.static yX11_greatestDivisor, Cond.code yX11_greatestDivisor cX11_greatestDivisor 6 (some .int), Cond.methodLink RL 112 yX12_ill, Cond.instanceMethod yX12_ill, Cond.selects RX12 yX12_ill yX12_ill, Cond.code yX12_ill cX12_ill 7 (some .int), Cond.methodLink RX12 264 yX12_illOf, Cond.instanceMethod yX12_illOf]
def wsL_law_r41 : List Cond := [Cond.selects RX12 yX12_illOf yX12_illOf, Cond.code yX12_illOf cX12_illOf 4 (some .int), Cond.constantLong RX12 262 (72), Cond.methodLink RL 113 yX11_span, Cond.instanceMethod yX11_span, Cond.selects RX11 yX11_span yX11_span, Cond.code yX11_span cX11_span 3 (some .int), Cond.methodLink RX11 268 yX7_add, Cond.instanceMethod yX7_add, Cond.selects RX7 yX7_add yX7_add, Cond.code yX7_add cX7_add 3 (some .boolean), Cond.fieldLink RX7 18 "OffFirst$Spans" "number" "I", Cond.methodLink RL 116 yX12_span, Cond.instanceMethod yX12_span, Cond.selects RX12 yX12_span yX12_span, Cond.code yX12_span cX12_span 3 (some .int), Cond.constantLong RX12 267 (300), Cond.methodLink RL 117 yX11_noSpans, Cond.instanceMethod yX11_noSpans, Cond.selects RX11 yX11_noSpans yX11_noSpans, Cond.code yX11_noSpans cX11_noSpans 2 (some .int), Cond.methodLink RL 120 yX12_noSpans, Cond.instanceMethod yX12_noSpans, Cond.selects RX12 yX12_noSpans yX12_noSpans]
def wsL_law_r42 : List Cond := [Cond.code yX12_noSpans cX12_noSpans 2 (some .int), Cond.methodLink RL 121 yX11_law, Cond.instanceMethod yX11_law, Cond.selects RX11 yX11_law yX11_law, Cond.code yX11_law cX11_law 3 (some .int), Cond.methodLink RX11 270 yX7_bestLaw, Cond.instanceMethod yX7_bestLaw, Cond.selects RX7 yX7_bestLaw yX7_bestLaw, Cond.code yX7_bestLaw cX7_bestLaw 3 (some .int), Cond.methodLink RX7 30 yX7_fittedBy, Cond.instanceMethod yX7_fittedBy, Cond.selects RX7 yX7_fittedBy yX7_fittedBy, Cond.code yX7_fittedBy cX7_fittedBy 6 (some .int), Cond.methodLink RX11 273 yX7_fittedBy, Cond.methodLink RL 124 yX12_law, Cond.instanceMethod yX12_law, Cond.selects RX12 yX12_law yX12_law, Cond.code yX12_law cX12_law 4 (some .int), Cond.methodLink RX12 269 yX12_fitsOf, Cond.instanceMethod yX12_fitsOf, Cond.selects RX12 yX12_fitsOf yX12_fitsOf, Cond.code yX12_fitsOf cX12_fitsOf 6 (some .int), Cond.methodLink RL 125 yX11_habit, Cond.instanceMethod yX11_habit]
def wsL_law_r43 : List Cond := [Cond.selects RX11 yX11_habit yX11_habit, Cond.code yX11_habit cX11_habit 4 (some .int), Cond.methodLink RX11 276 yX1_costOfHabit, Cond.instanceMethod yX1_costOfHabit, Cond.selects RX1 yX1_costOfHabit yX1_costOfHabit, Cond.code yX1_costOfHabit cX1_costOfHabit 8 (some .int), Cond.methodLink RX1 76 yX1_lookAhead, Cond.methodLink RX1 80 yX8_bitsThere, Cond.methodLink RX1 84 yX1_isOneTaken, Cond.static yX1_isOneTaken, Cond.code yX1_isOneTaken cX1_isOneTaken 4 (some .boolean), Cond.constantLong RX1 99 (7919), Cond.constantLong RX1 101 (6151), Cond.constantLong RX1 103 (65521), Cond.constantLong RX1 105 (3), Cond.methodLink RX1 87 yX1_highestOf, Cond.static yX1_highestOf, Cond.code yX1_highestOf cX1_highestOf 2 (some .int), Cond.methodLink RX1 90 yX1_oldestOn, Cond.methodLink RX1 93 yX1_offOn, Cond.methodLink RX1 96 yX2_coinOfAll, Cond.methodLink RL 128 yX12_habit, Cond.instanceMethod yX12_habit, Cond.selects RX12 yX12_habit yX12_habit]
def wsL_law_r44 : List Cond := [Cond.code yX12_habit cX12_habit 9 (some .int), Cond.constantLong RX12 272 (9999), Cond.constantLong RX12 274 (7919), Cond.constantLong RX12 276 (6151), Cond.constantLong RX12 278 (65521), Cond.methodLink RX12 280 yX12_takenBy, Cond.instanceMethod yX12_takenBy, Cond.selects RX12 yX12_takenBy yX12_takenBy, Cond.code yX12_takenBy cX12_takenBy 4 (some .int), Cond.methodLink RL 129 yX11_keep, Cond.instanceMethod yX11_keep, Cond.selects RX11 yX11_keep yX11_keep, Cond.code yX11_keep cX11_keep 1 (some .int), Cond.methodLink RX11 280 yX8_copyFrom, Cond.instanceMethod yX8_copyFrom, Cond.selects RX8 yX8_copyFrom yX8_copyFrom, Cond.code yX8_copyFrom cX8_copyFrom 3 none, Cond.methodLink RL 132 yX12_keep, Cond.instanceMethod yX12_keep, Cond.selects RX12 yX12_keep yX12_keep, Cond.code yX12_keep cX12_keep 1 (some .int), Cond.methodLink RL 133 yX11_back, Cond.instanceMethod yX11_back, Cond.selects RX11 yX11_back yX11_back]
def wsL_law_r45 : List Cond := [Cond.code yX11_back cX11_back 1 (some .int), Cond.methodLink RL 136 yX12_back, Cond.instanceMethod yX12_back, Cond.selects RX12 yX12_back yX12_back, Cond.code yX12_back cX12_back 1 (some .int), Cond.methodLink RL 137 yX11_count, Cond.instanceMethod yX11_count, Cond.selects RX11 yX11_count yX11_count, Cond.code yX11_count cX11_count 2 (some .int), Cond.methodLink RL 140 yX12_count, Cond.instanceMethod yX12_count, Cond.selects RX12 yX12_count yX12_count, Cond.code yX12_count cX12_count 2 (some .int)]
def wsL_law : List Cond := (wsL_law_r1 ++ (wsL_law_r2 ++ (wsL_law_r3 ++ (wsL_law_r4 ++ (wsL_law_r5 ++ (wsL_law_r6 ++ (wsL_law_r7 ++ (wsL_law_r8 ++ (wsL_law_r9 ++ (wsL_law_r10 ++ (wsL_law_r11 ++ (wsL_law_r12 ++ (wsL_law_r13 ++ (wsL_law_r14 ++ (wsL_law_r15 ++ (wsL_law_r16 ++ (wsL_law_r17 ++ (wsL_law_r18 ++ (wsL_law_r19 ++ (wsL_law_r20 ++ (wsL_law_r21 ++ (wsL_law_r22 ++ (wsL_law_r23 ++ (wsL_law_r24 ++ (wsL_law_r25 ++ (wsL_law_r26 ++ (wsL_law_r27 ++ (wsL_law_r28 ++ (wsL_law_r29 ++ (wsL_law_r30 ++ (wsL_law_r31 ++ (wsL_law_r32 ++ (wsL_law_r33 ++ (wsL_law_r34 ++ (wsL_law_r35 ++ (wsL_law_r36 ++ (wsL_law_r37 ++ (wsL_law_r38 ++ (wsL_law_r39 ++ (wsL_law_r40 ++ (wsL_law_r41 ++ (wsL_law_r42 ++ (wsL_law_r43 ++ (wsL_law_r44 ++ wsL_law_r45)))))))))))))))))))))))))))))))))))))))))))) ++ wsX110 ++ wsX120 ++ wsX90 ++ wsX100 ++ wsX80 ++ wsX30 ++ wsX10 ++ wsX60 ++ wsX40 ++ wsX70 ++ wsX00 ++ wsX20 ++ wsX50 ++ ([] : List Cond)
theorem inlX0 : ∀ w ∈ wsX00, w ∈ wsL_law := fun _ h => List.mem_append_left _ (List.mem_append_left _ (List.mem_append_left _ (List.mem_append_right _ h)))
theorem inlX1 : ∀ w ∈ wsX10, w ∈ wsL_law := fun _ h => List.mem_append_left _ (List.mem_append_left _ (List.mem_append_left _ (List.mem_append_left _ (List.mem_append_left _ (List.mem_append_left _ (List.mem_append_left _ (List.mem_append_right _ h)))))))
theorem inlX2 : ∀ w ∈ wsX20, w ∈ wsL_law := fun _ h => List.mem_append_left _ (List.mem_append_left _ (List.mem_append_right _ h))
theorem inlX3 : ∀ w ∈ wsX30, w ∈ wsL_law := fun _ h => List.mem_append_left _ (List.mem_append_left _ (List.mem_append_left _ (List.mem_append_left _ (List.mem_append_left _ (List.mem_append_left _ (List.mem_append_left _ (List.mem_append_left _ (List.mem_append_right _ h))))))))
theorem inlX4 : ∀ w ∈ wsX40, w ∈ wsL_law := fun _ h => List.mem_append_left _ (List.mem_append_left _ (List.mem_append_left _ (List.mem_append_left _ (List.mem_append_left _ (List.mem_append_right _ h)))))
theorem inlX5 : ∀ w ∈ wsX50, w ∈ wsL_law := fun _ h => List.mem_append_left _ (List.mem_append_right _ h)
theorem inlX6 : ∀ w ∈ wsX60, w ∈ wsL_law := fun _ h => List.mem_append_left _ (List.mem_append_left _ (List.mem_append_left _ (List.mem_append_left _ (List.mem_append_left _ (List.mem_append_left _ (List.mem_append_right _ h))))))
theorem inlX7 : ∀ w ∈ wsX70, w ∈ wsL_law := fun _ h => List.mem_append_left _ (List.mem_append_left _ (List.mem_append_left _ (List.mem_append_left _ (List.mem_append_right _ h))))
theorem inlX8 : ∀ w ∈ wsX80, w ∈ wsL_law := fun _ h => List.mem_append_left _ (List.mem_append_left _ (List.mem_append_left _ (List.mem_append_left _ (List.mem_append_left _ (List.mem_append_left _ (List.mem_append_left _ (List.mem_append_left _ (List.mem_append_left _ (List.mem_append_right _ h)))))))))
theorem inlX9 : ∀ w ∈ wsX90, w ∈ wsL_law := fun _ h => List.mem_append_left _ (List.mem_append_left _ (List.mem_append_left _ (List.mem_append_left _ (List.mem_append_left _ (List.mem_append_left _ (List.mem_append_left _ (List.mem_append_left _ (List.mem_append_left _ (List.mem_append_left _ (List.mem_append_left _ (List.mem_append_right _ h)))))))))))
theorem inlX10 : ∀ w ∈ wsX100, w ∈ wsL_law := fun _ h => List.mem_append_left _ (List.mem_append_left _ (List.mem_append_left _ (List.mem_append_left _ (List.mem_append_left _ (List.mem_append_left _ (List.mem_append_left _ (List.mem_append_left _ (List.mem_append_left _ (List.mem_append_left _ (List.mem_append_right _ h))))))))))
theorem inlX11 : ∀ w ∈ wsX110, w ∈ wsL_law := fun _ h => List.mem_append_left _ (List.mem_append_left _ (List.mem_append_left _ (List.mem_append_left _ (List.mem_append_left _ (List.mem_append_left _ (List.mem_append_left _ (List.mem_append_left _ (List.mem_append_left _ (List.mem_append_left _ (List.mem_append_left _ (List.mem_append_left _ (List.mem_append_left _ (List.mem_append_right _ h)))))))))))))
theorem inlX12 : ∀ w ∈ wsX120, w ∈ wsL_law := fun _ h => List.mem_append_left _ (List.mem_append_left _ (List.mem_append_left _ (List.mem_append_left _ (List.mem_append_left _ (List.mem_append_left _ (List.mem_append_left _ (List.mem_append_left _ (List.mem_append_left _ (List.mem_append_left _ (List.mem_append_left _ (List.mem_append_left _ (List.mem_append_right _ h))))))))))))
abbrev vwCl : List vw_C := [(RX0, TX0, 5), (RX1, TX1, 4), (RX2, TX2, 8), (RX3, TX3, 2), (RX4, TX4, 7), (RX5, TX5, 5), (RX6, TX6, 6), (RX7, TX7, 3), (RX8, TX8, 7), (RX9, TX9, 5), (RX10, TX10, 8), (RX11, TX11, 12), (RX12, TX12, 33)]
end
section
theorem dX0_init_0 : decode cX0_init 0 = .ok (.aload_n 0, 1) := by decide +kernel
theorem dX0_init_1 : decode cX0_init 1 = .ok (.invokespecial 3, 3) := by decide +kernel
theorem dX0_init_4 : decode cX0_init 4 = .ok (.aload_n 0, 1) := by decide +kernel
theorem dX0_init_5 : decode cX0_init 5 = .ok (.bipush 6, 2) := by decide +kernel
theorem dX0_init_7 : decode cX0_init 7 = .ok (.newarray .int, 2) := by decide +kernel
theorem dX0_init_9 : decode cX0_init 9 = .ok (.putfield 9, 3) := by decide +kernel
theorem dX0_init_12 : decode cX0_init 12 = .ok (.aload_n 0, 1) := by decide +kernel
theorem dX0_init_13 : decode cX0_init 13 = .ok (.bipush 6, 2) := by decide +kernel
theorem dX0_init_15 : decode cX0_init 15 = .ok (.newarray .int, 2) := by decide +kernel
theorem dX0_init_17 : decode cX0_init 17 = .ok (.putfield 15, 3) := by decide +kernel
theorem dX0_init_20 : decode cX0_init 20 = .ok (.aload_n 0, 1) := by decide +kernel
theorem dX0_init_21 : decode cX0_init 21 = .ok (.bipush 6, 2) := by decide +kernel
theorem dX0_init_23 : decode cX0_init 23 = .ok (.newarray .int, 2) := by decide +kernel
theorem dX0_init_25 : decode cX0_init 25 = .ok (.putfield 18, 3) := by decide +kernel
theorem dX0_init_28 : decode cX0_init 28 = .ok (.return_, 1) := by decide +kernel
theorem dX0_clear_0 : decode cX0_clear 0 = .ok (.aload_n 0, 1) := by decide +kernel
theorem dX0_clear_1 : decode cX0_clear 1 = .ok (.iconst 0, 1) := by decide +kernel
theorem dX0_clear_2 : decode cX0_clear 2 = .ok (.putfield 21, 3) := by decide +kernel
theorem dX0_clear_5 : decode cX0_clear 5 = .ok (.aload_n 0, 1) := by decide +kernel
theorem dX0_clear_6 : decode cX0_clear 6 = .ok (.iconst 0, 1) := by decide +kernel
theorem dX0_clear_7 : decode cX0_clear 7 = .ok (.putfield 25, 3) := by decide +kernel
theorem dX0_clear_10 : decode cX0_clear 10 = .ok (.return_, 1) := by decide +kernel
theorem dX0_add_0 : decode cX0_add 0 = .ok (.aload_n 0, 1) := by decide +kernel
theorem dX0_add_1 : decode cX0_add 1 = .ok (.getfield 21, 3) := by decide +kernel
theorem dX0_add_4 : decode cX0_add 4 = .ok (.bipush 6, 2) := by decide +kernel
theorem dX0_add_6 : decode cX0_add 6 = .ok (.if_icmp .lt 5, 3) := by decide +kernel
theorem dX0_add_9 : decode cX0_add 9 = .ok (.iconst 0, 1) := by decide +kernel
theorem dX0_add_10 : decode cX0_add 10 = .ok (.ireturn, 1) := by decide +kernel
theorem dX0_add_11 : decode cX0_add 11 = .ok (.aload_n 0, 1) := by decide +kernel
theorem dX0_add_12 : decode cX0_add 12 = .ok (.getfield 9, 3) := by decide +kernel
theorem dX0_add_15 : decode cX0_add 15 = .ok (.aload_n 0, 1) := by decide +kernel
theorem dX0_add_16 : decode cX0_add 16 = .ok (.getfield 21, 3) := by decide +kernel
theorem dX0_add_19 : decode cX0_add 19 = .ok (.iload_n 1, 1) := by decide +kernel
theorem dX0_add_20 : decode cX0_add 20 = .ok (.invokestatic 28, 3) := by decide +kernel
theorem dX0_add_23 : decode cX0_add 23 = .ok (.aload_n 0, 1) := by decide +kernel
theorem dX0_add_24 : decode cX0_add 24 = .ok (.getfield 15, 3) := by decide +kernel
theorem dX0_add_27 : decode cX0_add 27 = .ok (.aload_n 0, 1) := by decide +kernel
theorem dX0_add_28 : decode cX0_add 28 = .ok (.getfield 21, 3) := by decide +kernel
theorem dX0_add_31 : decode cX0_add 31 = .ok (.iload_n 2, 1) := by decide +kernel
theorem dX0_add_32 : decode cX0_add 32 = .ok (.invokestatic 28, 3) := by decide +kernel
theorem dX0_add_35 : decode cX0_add 35 = .ok (.aload_n 0, 1) := by decide +kernel
theorem dX0_add_36 : decode cX0_add 36 = .ok (.getfield 18, 3) := by decide +kernel
theorem dX0_add_39 : decode cX0_add 39 = .ok (.aload_n 0, 1) := by decide +kernel
theorem dX0_add_40 : decode cX0_add 40 = .ok (.getfield 21, 3) := by decide +kernel
theorem dX0_add_43 : decode cX0_add 43 = .ok (.iload_n 3, 1) := by decide +kernel
theorem dX0_add_44 : decode cX0_add 44 = .ok (.invokestatic 28, 3) := by decide +kernel
theorem dX0_add_47 : decode cX0_add 47 = .ok (.aload_n 0, 1) := by decide +kernel
theorem dX0_add_48 : decode cX0_add 48 = .ok (.dup, 1) := by decide +kernel
theorem dX0_add_49 : decode cX0_add 49 = .ok (.getfield 21, 3) := by decide +kernel
theorem dX0_add_52 : decode cX0_add 52 = .ok (.iconst 1, 1) := by decide +kernel
theorem dX0_add_53 : decode cX0_add 53 = .ok (.iadd, 1) := by decide +kernel
theorem dX0_add_54 : decode cX0_add 54 = .ok (.putfield 21, 3) := by decide +kernel
theorem dX0_add_57 : decode cX0_add 57 = .ok (.iconst 1, 1) := by decide +kernel
theorem dX0_add_58 : decode cX0_add 58 = .ok (.ireturn, 1) := by decide +kernel
theorem dX0_openIn_0 : decode cX0_openIn 0 = .ok (.aload_n 0, 1) := by decide +kernel
theorem dX0_openIn_1 : decode cX0_openIn 1 = .ok (.dup, 1) := by decide +kernel
theorem dX0_openIn_2 : decode cX0_openIn 2 = .ok (.getfield 25, 3) := by decide +kernel
theorem dX0_openIn_5 : decode cX0_openIn 5 = .ok (.iconst 1, 1) := by decide +kernel
theorem dX0_openIn_6 : decode cX0_openIn 6 = .ok (.iload_n 1, 1) := by decide +kernel
theorem dX0_openIn_7 : decode cX0_openIn 7 = .ok (.ishl, 1) := by decide +kernel
theorem dX0_openIn_8 : decode cX0_openIn 8 = .ok (.ior, 1) := by decide +kernel
theorem dX0_openIn_9 : decode cX0_openIn 9 = .ok (.putfield 25, 3) := by decide +kernel
theorem dX0_openIn_12 : decode cX0_openIn 12 = .ok (.return_, 1) := by decide +kernel
theorem dX0_has_0 : decode cX0_has 0 = .ok (.iload_n 1, 1) := by decide +kernel
theorem dX0_has_1 : decode cX0_has 1 = .ok (.ifCond .lt 15, 3) := by decide +kernel
theorem dX0_has_4 : decode cX0_has 4 = .ok (.iload_n 1, 1) := by decide +kernel
theorem dX0_has_5 : decode cX0_has 5 = .ok (.aload_n 0, 1) := by decide +kernel
theorem dX0_has_6 : decode cX0_has 6 = .ok (.getfield 21, 3) := by decide +kernel
theorem dX0_has_9 : decode cX0_has 9 = .ok (.if_icmp .ge 7, 3) := by decide +kernel
theorem dX0_has_12 : decode cX0_has 12 = .ok (.iconst 1, 1) := by decide +kernel
theorem dX0_has_13 : decode cX0_has 13 = .ok (.goto 4, 3) := by decide +kernel
theorem dX0_has_16 : decode cX0_has 16 = .ok (.iconst 0, 1) := by decide +kernel
theorem dX0_has_17 : decode cX0_has 17 = .ok (.ireturn, 1) := by decide +kernel
theorem dX0_roomOf_0 : decode cX0_roomOf 0 = .ok (.aload_n 0, 1) := by decide +kernel
theorem dX0_roomOf_1 : decode cX0_roomOf 1 = .ok (.getfield 18, 3) := by decide +kernel
theorem dX0_roomOf_4 : decode cX0_roomOf 4 = .ok (.iload_n 1, 1) := by decide +kernel
theorem dX0_roomOf_5 : decode cX0_roomOf 5 = .ok (.invokestatic 32, 3) := by decide +kernel
theorem dX0_roomOf_8 : decode cX0_roomOf 8 = .ok (.ireturn, 1) := by decide +kernel
theorem dX0_isOpenedIn_0 : decode cX0_isOpenedIn 0 = .ok (.aload_n 0, 1) := by decide +kernel
theorem dX0_isOpenedIn_1 : decode cX0_isOpenedIn 1 = .ok (.getfield 25, 3) := by decide +kernel
theorem dX0_isOpenedIn_4 : decode cX0_isOpenedIn 4 = .ok (.iload_n 1, 1) := by decide +kernel
theorem dX0_isOpenedIn_5 : decode cX0_isOpenedIn 5 = .ok (.bipush 24, 2) := by decide +kernel
theorem dX0_isOpenedIn_7 : decode cX0_isOpenedIn 7 = .ok (.irem, 1) := by decide +kernel
theorem dX0_isOpenedIn_8 : decode cX0_isOpenedIn 8 = .ok (.ishr, 1) := by decide +kernel
theorem dX0_isOpenedIn_9 : decode cX0_isOpenedIn 9 = .ok (.iconst 1, 1) := by decide +kernel
theorem dX0_isOpenedIn_10 : decode cX0_isOpenedIn 10 = .ok (.iand, 1) := by decide +kernel
theorem dX0_isOpenedIn_11 : decode cX0_isOpenedIn 11 = .ok (.iconst 1, 1) := by decide +kernel
theorem dX0_isOpenedIn_12 : decode cX0_isOpenedIn 12 = .ok (.if_icmp .ne 7, 3) := by decide +kernel
theorem dX0_isOpenedIn_15 : decode cX0_isOpenedIn 15 = .ok (.iconst 1, 1) := by decide +kernel
theorem dX0_isOpenedIn_16 : decode cX0_isOpenedIn 16 = .ok (.goto 4, 3) := by decide +kernel
theorem dX0_isOpenedIn_19 : decode cX0_isOpenedIn 19 = .ok (.iconst 0, 1) := by decide +kernel
theorem dX0_isOpenedIn_20 : decode cX0_isOpenedIn 20 = .ok (.ireturn, 1) := by decide +kernel
theorem dX0_warmIn_0 : decode cX0_warmIn 0 = .ok (.aload_n 0, 1) := by decide +kernel
theorem dX0_warmIn_1 : decode cX0_warmIn 1 = .ok (.iload_n 2, 1) := by decide +kernel
theorem dX0_warmIn_2 : decode cX0_warmIn 2 = .ok (.invokevirtual 36, 3) := by decide +kernel
theorem dX0_warmIn_5 : decode cX0_warmIn 5 = .ok (.ifCond .eq 23, 3) := by decide +kernel
theorem dX0_warmIn_8 : decode cX0_warmIn 8 = .ok (.aload_n 0, 1) := by decide +kernel
theorem dX0_warmIn_9 : decode cX0_warmIn 9 = .ok (.getfield 9, 3) := by decide +kernel
theorem dX0_warmIn_12 : decode cX0_warmIn 12 = .ok (.iload_n 1, 1) := by decide +kernel
theorem dX0_warmIn_13 : decode cX0_warmIn 13 = .ok (.invokestatic 32, 3) := by decide +kernel
theorem dX0_warmIn_16 : decode cX0_warmIn 16 = .ok (.aload_n 0, 1) := by decide +kernel
theorem dX0_warmIn_17 : decode cX0_warmIn 17 = .ok (.getfield 15, 3) := by decide +kernel
theorem dX0_warmIn_20 : decode cX0_warmIn 20 = .ok (.iload_n 1, 1) := by decide +kernel
theorem dX0_warmIn_21 : decode cX0_warmIn 21 = .ok (.invokestatic 32, 3) := by decide +kernel
theorem dX0_warmIn_24 : decode cX0_warmIn 24 = .ok (.iadd, 1) := by decide +kernel
theorem dX0_warmIn_25 : decode cX0_warmIn 25 = .ok (.goto 11, 3) := by decide +kernel
theorem dX0_warmIn_28 : decode cX0_warmIn 28 = .ok (.aload_n 0, 1) := by decide +kernel
theorem dX0_warmIn_29 : decode cX0_warmIn 29 = .ok (.getfield 9, 3) := by decide +kernel
theorem dX0_warmIn_32 : decode cX0_warmIn 32 = .ok (.iload_n 1, 1) := by decide +kernel
theorem dX0_warmIn_33 : decode cX0_warmIn 33 = .ok (.invokestatic 32, 3) := by decide +kernel
theorem dX0_warmIn_36 : decode cX0_warmIn 36 = .ok (.ireturn, 1) := by decide +kernel
theorem dX0_warmthOver_0 : decode cX0_warmthOver 0 = .ok (.iload_n 3, 1) := by decide +kernel
theorem dX0_warmthOver_1 : decode cX0_warmthOver 1 = .ok (.bipush 24, 2) := by decide +kernel
theorem dX0_warmthOver_3 : decode cX0_warmthOver 3 = .ok (.idiv, 1) := by decide +kernel
theorem dX0_warmthOver_4 : decode cX0_warmthOver 4 = .ok (.aload_n 0, 1) := by decide +kernel
theorem dX0_warmthOver_5 : decode cX0_warmthOver 5 = .ok (.getfield 25, 3) := by decide +kernel
theorem dX0_warmthOver_8 : decode cX0_warmthOver 8 = .ok (.invokestatic 40, 3) := by decide +kernel
theorem dX0_warmthOver_11 : decode cX0_warmthOver 11 = .ok (.imul, 1) := by decide +kernel
theorem dX0_warmthOver_12 : decode cX0_warmthOver 12 = .ok (.istore 4, 2) := by decide +kernel
theorem dX0_warmthOver_14 : decode cX0_warmthOver 14 = .ok (.iconst 0, 1) := by decide +kernel
theorem dX0_warmthOver_15 : decode cX0_warmthOver 15 = .ok (.istore 5, 2) := by decide +kernel
theorem dX0_warmthOver_17 : decode cX0_warmthOver 17 = .ok (.iload 5, 2) := by decide +kernel
theorem dX0_warmthOver_19 : decode cX0_warmthOver 19 = .ok (.iload_n 3, 1) := by decide +kernel
theorem dX0_warmthOver_20 : decode cX0_warmthOver 20 = .ok (.bipush 24, 2) := by decide +kernel
theorem dX0_warmthOver_22 : decode cX0_warmthOver 22 = .ok (.irem, 1) := by decide +kernel
theorem dX0_warmthOver_23 : decode cX0_warmthOver 23 = .ok (.if_icmp .ge 23, 3) := by decide +kernel
theorem dX0_warmthOver_26 : decode cX0_warmthOver 26 = .ok (.aload_n 0, 1) := by decide +kernel
theorem dX0_warmthOver_27 : decode cX0_warmthOver 27 = .ok (.iload_n 2, 1) := by decide +kernel
theorem dX0_warmthOver_28 : decode cX0_warmthOver 28 = .ok (.iload 5, 2) := by decide +kernel
theorem dX0_warmthOver_30 : decode cX0_warmthOver 30 = .ok (.iadd, 1) := by decide +kernel
theorem dX0_warmthOver_31 : decode cX0_warmthOver 31 = .ok (.invokevirtual 36, 3) := by decide +kernel
theorem dX0_warmthOver_34 : decode cX0_warmthOver 34 = .ok (.ifCond .eq 6, 3) := by decide +kernel
theorem dX0_warmthOver_37 : decode cX0_warmthOver 37 = .ok (.iinc 4 1, 3) := by decide +kernel
theorem dX0_warmthOver_40 : decode cX0_warmthOver 40 = .ok (.iinc 5 1, 3) := by decide +kernel
theorem dX0_warmthOver_43 : decode cX0_warmthOver 43 = .ok (.goto (-26), 3) := by decide +kernel
theorem dX0_warmthOver_46 : decode cX0_warmthOver 46 = .ok (.iload_n 3, 1) := by decide +kernel
theorem dX0_warmthOver_47 : decode cX0_warmthOver 47 = .ok (.aload_n 0, 1) := by decide +kernel
theorem dX0_warmthOver_48 : decode cX0_warmthOver 48 = .ok (.getfield 9, 3) := by decide +kernel
theorem dX0_warmthOver_51 : decode cX0_warmthOver 51 = .ok (.iload_n 1, 1) := by decide +kernel
theorem dX0_warmthOver_52 : decode cX0_warmthOver 52 = .ok (.invokestatic 32, 3) := by decide +kernel
theorem dX0_warmthOver_55 : decode cX0_warmthOver 55 = .ok (.imul, 1) := by decide +kernel
theorem dX0_warmthOver_56 : decode cX0_warmthOver 56 = .ok (.iload 4, 2) := by decide +kernel
theorem dX0_warmthOver_58 : decode cX0_warmthOver 58 = .ok (.aload_n 0, 1) := by decide +kernel
theorem dX0_warmthOver_59 : decode cX0_warmthOver 59 = .ok (.getfield 15, 3) := by decide +kernel
theorem dX0_warmthOver_62 : decode cX0_warmthOver 62 = .ok (.iload_n 1, 1) := by decide +kernel
theorem dX0_warmthOver_63 : decode cX0_warmthOver 63 = .ok (.invokestatic 32, 3) := by decide +kernel
theorem dX0_warmthOver_66 : decode cX0_warmthOver 66 = .ok (.imul, 1) := by decide +kernel
theorem dX0_warmthOver_67 : decode cX0_warmthOver 67 = .ok (.iadd, 1) := by decide +kernel
theorem dX0_warmthOver_68 : decode cX0_warmthOver 68 = .ok (.ireturn, 1) := by decide +kernel
theorem dX0_warmthOverCut_0 : decode cX0_warmthOverCut 0 = .ok (.iconst 3, 1) := by decide +kernel
theorem dX0_warmthOverCut_1 : decode cX0_warmthOverCut 1 = .ok (.iload_n 2, 1) := by decide +kernel
theorem dX0_warmthOverCut_2 : decode cX0_warmthOverCut 2 = .ok (.imul, 1) := by decide +kernel
theorem dX0_warmthOverCut_3 : decode cX0_warmthOverCut 3 = .ok (.iload_n 2, 1) := by decide +kernel
theorem dX0_warmthOverCut_4 : decode cX0_warmthOverCut 4 = .ok (.iconst 1, 1) := by decide +kernel
theorem dX0_warmthOverCut_5 : decode cX0_warmthOverCut 5 = .ok (.iadd, 1) := by decide +kernel
theorem dX0_warmthOverCut_6 : decode cX0_warmthOverCut 6 = .ok (.imul, 1) := by decide +kernel
theorem dX0_warmthOverCut_7 : decode cX0_warmthOverCut 7 = .ok (.iconst 2, 1) := by decide +kernel
theorem dX0_warmthOverCut_8 : decode cX0_warmthOverCut 8 = .ok (.idiv, 1) := by decide +kernel
theorem dX0_warmthOverCut_9 : decode cX0_warmthOverCut 9 = .ok (.istore 4, 2) := by decide +kernel
theorem dX0_warmthOverCut_11 : decode cX0_warmthOverCut 11 = .ok (.iload_n 2, 1) := by decide +kernel
theorem dX0_warmthOverCut_12 : decode cX0_warmthOverCut 12 = .ok (.aload_n 0, 1) := by decide +kernel
theorem dX0_warmthOverCut_13 : decode cX0_warmthOverCut 13 = .ok (.getfield 9, 3) := by decide +kernel
theorem dX0_warmthOverCut_16 : decode cX0_warmthOverCut 16 = .ok (.iload_n 1, 1) := by decide +kernel
theorem dX0_warmthOverCut_17 : decode cX0_warmthOverCut 17 = .ok (.invokestatic 32, 3) := by decide +kernel
theorem dX0_warmthOverCut_20 : decode cX0_warmthOverCut 20 = .ok (.imul, 1) := by decide +kernel
theorem dX0_warmthOverCut_21 : decode cX0_warmthOverCut 21 = .ok (.iload 4, 2) := by decide +kernel
theorem dX0_warmthOverCut_23 : decode cX0_warmthOverCut 23 = .ok (.iadd, 1) := by decide +kernel
theorem dX0_warmthOverCut_24 : decode cX0_warmthOverCut 24 = .ok (.iload_n 3, 1) := by decide +kernel
theorem dX0_warmthOverCut_25 : decode cX0_warmthOverCut 25 = .ok (.ifCond .eq 14, 3) := by decide +kernel
theorem dX0_warmthOverCut_28 : decode cX0_warmthOverCut 28 = .ok (.aload_n 0, 1) := by decide +kernel
theorem dX0_warmthOverCut_29 : decode cX0_warmthOverCut 29 = .ok (.getfield 15, 3) := by decide +kernel
theorem dX0_warmthOverCut_32 : decode cX0_warmthOverCut 32 = .ok (.iload_n 1, 1) := by decide +kernel
theorem dX0_warmthOverCut_33 : decode cX0_warmthOverCut 33 = .ok (.invokestatic 32, 3) := by decide +kernel
theorem dX0_warmthOverCut_36 : decode cX0_warmthOverCut 36 = .ok (.goto 4, 3) := by decide +kernel
theorem dX0_warmthOverCut_39 : decode cX0_warmthOverCut 39 = .ok (.iconst 0, 1) := by decide +kernel
theorem dX0_warmthOverCut_40 : decode cX0_warmthOverCut 40 = .ok (.iadd, 1) := by decide +kernel
theorem dX0_warmthOverCut_41 : decode cX0_warmthOverCut 41 = .ok (.ireturn, 1) := by decide +kernel
theorem dX1_init_0 : decode cX1_init 0 = .ok (.aload_n 0, 1) := by decide +kernel
theorem dX1_init_1 : decode cX1_init 1 = .ok (.invokespecial 3, 3) := by decide +kernel
theorem dX1_init_4 : decode cX1_init 4 = .ok (.aload_n 0, 1) := by decide +kernel
theorem dX1_init_5 : decode cX1_init 5 = .ok (.sipush 200, 3) := by decide +kernel
theorem dX1_init_8 : decode cX1_init 8 = .ok (.newarray .int, 2) := by decide +kernel
theorem dX1_init_10 : decode cX1_init 10 = .ok (.putfield 9, 3) := by decide +kernel
theorem dX1_init_13 : decode cX1_init 13 = .ok (.aload_n 0, 1) := by decide +kernel
theorem dX1_init_14 : decode cX1_init 14 = .ok (.bipush 10, 2) := by decide +kernel
theorem dX1_init_16 : decode cX1_init 16 = .ok (.newarray .int, 2) := by decide +kernel
theorem dX1_init_18 : decode cX1_init 18 = .ok (.putfield 15, 3) := by decide +kernel
theorem dX1_init_21 : decode cX1_init 21 = .ok (.aload_n 0, 1) := by decide +kernel
theorem dX1_init_22 : decode cX1_init 22 = .ok (.bipush 20, 2) := by decide +kernel
theorem dX1_init_24 : decode cX1_init 24 = .ok (.newarray .int, 2) := by decide +kernel
theorem dX1_init_26 : decode cX1_init 26 = .ok (.putfield 18, 3) := by decide +kernel
theorem dX1_init_29 : decode cX1_init 29 = .ok (.aload_n 0, 1) := by decide +kernel
theorem dX1_init_30 : decode cX1_init 30 = .ok (.aload_n 1, 1) := by decide +kernel
theorem dX1_init_31 : decode cX1_init 31 = .ok (.putfield 21, 3) := by decide +kernel
theorem dX1_init_34 : decode cX1_init 34 = .ok (.return_, 1) := by decide +kernel
theorem dX1_lookAhead_0 : decode cX1_lookAhead 0 = .ok (.bipush 42, 2) := by decide +kernel
theorem dX1_lookAhead_2 : decode cX1_lookAhead 2 = .ok (.aload_n 0, 1) := by decide +kernel
theorem dX1_lookAhead_3 : decode cX1_lookAhead 3 = .ok (.getfield 21, 3) := by decide +kernel
theorem dX1_lookAhead_6 : decode cX1_lookAhead 6 = .ok (.getfield 25, 3) := by decide +kernel
theorem dX1_lookAhead_9 : decode cX1_lookAhead 9 = .ok (.getfield 31, 3) := by decide +kernel
theorem dX1_lookAhead_12 : decode cX1_lookAhead 12 = .ok (.bipush 24, 2) := by decide +kernel
theorem dX1_lookAhead_14 : decode cX1_lookAhead 14 = .ok (.irem, 1) := by decide +kernel
theorem dX1_lookAhead_15 : decode cX1_lookAhead 15 = .ok (.isub, 1) := by decide +kernel
theorem dX1_lookAhead_16 : decode cX1_lookAhead 16 = .ok (.bipush 24, 2) := by decide +kernel
theorem dX1_lookAhead_18 : decode cX1_lookAhead 18 = .ok (.irem, 1) := by decide +kernel
theorem dX1_lookAhead_19 : decode cX1_lookAhead 19 = .ok (.istore_n 2, 1) := by decide +kernel
theorem dX1_lookAhead_20 : decode cX1_lookAhead 20 = .ok (.iconst 0, 1) := by decide +kernel
theorem dX1_lookAhead_21 : decode cX1_lookAhead 21 = .ok (.istore_n 3, 1) := by decide +kernel
theorem dX1_lookAhead_22 : decode cX1_lookAhead 22 = .ok (.iload_n 3, 1) := by decide +kernel
theorem dX1_lookAhead_23 : decode cX1_lookAhead 23 = .ok (.aload_n 0, 1) := by decide +kernel
theorem dX1_lookAhead_24 : decode cX1_lookAhead 24 = .ok (.getfield 21, 3) := by decide +kernel
theorem dX1_lookAhead_27 : decode cX1_lookAhead 27 = .ok (.getfield 37, 3) := by decide +kernel
theorem dX1_lookAhead_30 : decode cX1_lookAhead 30 = .ok (.getfield 41, 3) := by decide +kernel
theorem dX1_lookAhead_33 : decode cX1_lookAhead 33 = .ok (.getfield 47, 3) := by decide +kernel
theorem dX1_lookAhead_36 : decode cX1_lookAhead 36 = .ok (.if_icmp .ge 25, 3) := by decide +kernel
theorem dX1_lookAhead_39 : decode cX1_lookAhead 39 = .ok (.aload_n 0, 1) := by decide +kernel
theorem dX1_lookAhead_40 : decode cX1_lookAhead 40 = .ok (.getfield 15, 3) := by decide +kernel
theorem dX1_lookAhead_43 : decode cX1_lookAhead 43 = .ok (.iload_n 3, 1) := by decide +kernel
theorem dX1_lookAhead_44 : decode cX1_lookAhead 44 = .ok (.aload_n 0, 1) := by decide +kernel
theorem dX1_lookAhead_45 : decode cX1_lookAhead 45 = .ok (.getfield 21, 3) := by decide +kernel
theorem dX1_lookAhead_48 : decode cX1_lookAhead 48 = .ok (.iload_n 3, 1) := by decide +kernel
theorem dX1_lookAhead_49 : decode cX1_lookAhead 49 = .ok (.invokevirtual 52, 3) := by decide +kernel
theorem dX1_lookAhead_52 : decode cX1_lookAhead 52 = .ok (.invokestatic 56, 3) := by decide +kernel
theorem dX1_lookAhead_55 : decode cX1_lookAhead 55 = .ok (.iinc 3 1, 3) := by decide +kernel
theorem dX1_lookAhead_58 : decode cX1_lookAhead 58 = .ok (.goto (-36), 3) := by decide +kernel
theorem dX1_lookAhead_61 : decode cX1_lookAhead 61 = .ok (.iconst 0, 1) := by decide +kernel
theorem dX1_lookAhead_62 : decode cX1_lookAhead 62 = .ok (.istore_n 3, 1) := by decide +kernel
theorem dX1_lookAhead_63 : decode cX1_lookAhead 63 = .ok (.iload_n 3, 1) := by decide +kernel
theorem dX1_lookAhead_64 : decode cX1_lookAhead 64 = .ok (.iload_n 1, 1) := by decide +kernel
theorem dX1_lookAhead_65 : decode cX1_lookAhead 65 = .ok (.if_icmp .ge 105, 3) := by decide +kernel
theorem dX1_lookAhead_68 : decode cX1_lookAhead 68 = .ok (.iconst 0, 1) := by decide +kernel
theorem dX1_lookAhead_69 : decode cX1_lookAhead 69 = .ok (.istore 4, 2) := by decide +kernel
theorem dX1_lookAhead_71 : decode cX1_lookAhead 71 = .ok (.iconst 0, 1) := by decide +kernel
theorem dX1_lookAhead_72 : decode cX1_lookAhead 72 = .ok (.istore 5, 2) := by decide +kernel
theorem dX1_lookAhead_74 : decode cX1_lookAhead 74 = .ok (.iload 5, 2) := by decide +kernel
theorem dX1_lookAhead_76 : decode cX1_lookAhead 76 = .ok (.aload_n 0, 1) := by decide +kernel
theorem dX1_lookAhead_77 : decode cX1_lookAhead 77 = .ok (.getfield 21, 3) := by decide +kernel
theorem dX1_lookAhead_80 : decode cX1_lookAhead 80 = .ok (.getfield 37, 3) := by decide +kernel
theorem dX1_lookAhead_83 : decode cX1_lookAhead 83 = .ok (.getfield 41, 3) := by decide +kernel
theorem dX1_lookAhead_86 : decode cX1_lookAhead 86 = .ok (.getfield 47, 3) := by decide +kernel
theorem dX1_lookAhead_89 : decode cX1_lookAhead 89 = .ok (.if_icmp .ge 65, 3) := by decide +kernel
theorem dX1_lookAhead_92 : decode cX1_lookAhead 92 = .ok (.aload_n 0, 1) := by decide +kernel
theorem dX1_lookAhead_93 : decode cX1_lookAhead 93 = .ok (.getfield 21, 3) := by decide +kernel
theorem dX1_lookAhead_96 : decode cX1_lookAhead 96 = .ok (.iload 5, 2) := by decide +kernel
theorem dX1_lookAhead_98 : decode cX1_lookAhead 98 = .ok (.iload_n 2, 1) := by decide +kernel
theorem dX1_lookAhead_99 : decode cX1_lookAhead 99 = .ok (.iload_n 3, 1) := by decide +kernel
theorem dX1_lookAhead_100 : decode cX1_lookAhead 100 = .ok (.bipush 24, 2) := by decide +kernel
theorem dX1_lookAhead_102 : decode cX1_lookAhead 102 = .ok (.imul, 1) := by decide +kernel
theorem dX1_lookAhead_103 : decode cX1_lookAhead 103 = .ok (.iadd, 1) := by decide +kernel
theorem dX1_lookAhead_104 : decode cX1_lookAhead 104 = .ok (.invokevirtual 60, 3) := by decide +kernel
theorem dX1_lookAhead_107 : decode cX1_lookAhead 107 = .ok (.istore 6, 2) := by decide +kernel
theorem dX1_lookAhead_109 : decode cX1_lookAhead 109 = .ok (.aload_n 0, 1) := by decide +kernel
theorem dX1_lookAhead_110 : decode cX1_lookAhead 110 = .ok (.getfield 9, 3) := by decide +kernel
theorem dX1_lookAhead_113 : decode cX1_lookAhead 113 = .ok (.iload_n 3, 1) := by decide +kernel
theorem dX1_lookAhead_114 : decode cX1_lookAhead 114 = .ok (.bipush 10, 2) := by decide +kernel
theorem dX1_lookAhead_116 : decode cX1_lookAhead 116 = .ok (.imul, 1) := by decide +kernel
theorem dX1_lookAhead_117 : decode cX1_lookAhead 117 = .ok (.iload 5, 2) := by decide +kernel
theorem dX1_lookAhead_119 : decode cX1_lookAhead 119 = .ok (.iadd, 1) := by decide +kernel
theorem dX1_lookAhead_120 : decode cX1_lookAhead 120 = .ok (.iload 6, 2) := by decide +kernel
theorem dX1_lookAhead_122 : decode cX1_lookAhead 122 = .ok (.invokestatic 56, 3) := by decide +kernel
theorem dX1_lookAhead_125 : decode cX1_lookAhead 125 = .ok (.iload 6, 2) := by decide +kernel
theorem dX1_lookAhead_127 : decode cX1_lookAhead 127 = .ok (.aload_n 0, 1) := by decide +kernel
theorem dX1_lookAhead_128 : decode cX1_lookAhead 128 = .ok (.getfield 15, 3) := by decide +kernel
theorem dX1_lookAhead_131 : decode cX1_lookAhead 131 = .ok (.iload 5, 2) := by decide +kernel
theorem dX1_lookAhead_133 : decode cX1_lookAhead 133 = .ok (.invokestatic 64, 3) := by decide +kernel
theorem dX1_lookAhead_136 : decode cX1_lookAhead 136 = .ok (.if_icmp .lt 12, 3) := by decide +kernel
theorem dX1_lookAhead_139 : decode cX1_lookAhead 139 = .ok (.iload 4, 2) := by decide +kernel
theorem dX1_lookAhead_141 : decode cX1_lookAhead 141 = .ok (.iconst 1, 1) := by decide +kernel
theorem dX1_lookAhead_142 : decode cX1_lookAhead 142 = .ok (.iload 5, 2) := by decide +kernel
theorem dX1_lookAhead_144 : decode cX1_lookAhead 144 = .ok (.ishl, 1) := by decide +kernel
theorem dX1_lookAhead_145 : decode cX1_lookAhead 145 = .ok (.ior, 1) := by decide +kernel
theorem dX1_lookAhead_146 : decode cX1_lookAhead 146 = .ok (.istore 4, 2) := by decide +kernel
theorem dX1_lookAhead_148 : decode cX1_lookAhead 148 = .ok (.iinc 5 1, 3) := by decide +kernel
theorem dX1_lookAhead_151 : decode cX1_lookAhead 151 = .ok (.goto (-77), 3) := by decide +kernel
theorem dX1_lookAhead_154 : decode cX1_lookAhead 154 = .ok (.aload_n 0, 1) := by decide +kernel
theorem dX1_lookAhead_155 : decode cX1_lookAhead 155 = .ok (.getfield 18, 3) := by decide +kernel
theorem dX1_lookAhead_158 : decode cX1_lookAhead 158 = .ok (.iload_n 3, 1) := by decide +kernel
theorem dX1_lookAhead_159 : decode cX1_lookAhead 159 = .ok (.iload 4, 2) := by decide +kernel
theorem dX1_lookAhead_161 : decode cX1_lookAhead 161 = .ok (.invokestatic 56, 3) := by decide +kernel
theorem dX1_lookAhead_164 : decode cX1_lookAhead 164 = .ok (.iinc 3 1, 3) := by decide +kernel
theorem dX1_lookAhead_167 : decode cX1_lookAhead 167 = .ok (.goto (-104), 3) := by decide +kernel
theorem dX1_lookAhead_170 : decode cX1_lookAhead 170 = .ok (.return_, 1) := by decide +kernel
theorem dX1_offOn_0 : decode cX1_offOn 0 = .ok (.aload_n 0, 1) := by decide +kernel
theorem dX1_offOn_1 : decode cX1_offOn 1 = .ok (.getfield 18, 3) := by decide +kernel
theorem dX1_offOn_4 : decode cX1_offOn 4 = .ok (.iload_n 1, 1) := by decide +kernel
theorem dX1_offOn_5 : decode cX1_offOn 5 = .ok (.invokestatic 64, 3) := by decide +kernel
theorem dX1_offOn_8 : decode cX1_offOn 8 = .ok (.ireturn, 1) := by decide +kernel
theorem dX1_oldestOn_0 : decode cX1_oldestOn 0 = .ok (.bipush (-4), 2) := by decide +kernel
theorem dX1_oldestOn_2 : decode cX1_oldestOn 2 = .ok (.istore_n 3, 1) := by decide +kernel
theorem dX1_oldestOn_3 : decode cX1_oldestOn 3 = .ok (.iconst 0, 1) := by decide +kernel
theorem dX1_oldestOn_4 : decode cX1_oldestOn 4 = .ok (.istore 4, 2) := by decide +kernel
theorem dX1_oldestOn_6 : decode cX1_oldestOn 6 = .ok (.iload 4, 2) := by decide +kernel
theorem dX1_oldestOn_8 : decode cX1_oldestOn 8 = .ok (.aload_n 0, 1) := by decide +kernel
theorem dX1_oldestOn_9 : decode cX1_oldestOn 9 = .ok (.getfield 21, 3) := by decide +kernel
theorem dX1_oldestOn_12 : decode cX1_oldestOn 12 = .ok (.getfield 37, 3) := by decide +kernel
theorem dX1_oldestOn_15 : decode cX1_oldestOn 15 = .ok (.getfield 41, 3) := by decide +kernel
theorem dX1_oldestOn_18 : decode cX1_oldestOn 18 = .ok (.getfield 47, 3) := by decide +kernel
theorem dX1_oldestOn_21 : decode cX1_oldestOn 21 = .ok (.if_icmp .ge 36, 3) := by decide +kernel
theorem dX1_oldestOn_24 : decode cX1_oldestOn 24 = .ok (.iload_n 2, 1) := by decide +kernel
theorem dX1_oldestOn_25 : decode cX1_oldestOn 25 = .ok (.iload 4, 2) := by decide +kernel
theorem dX1_oldestOn_27 : decode cX1_oldestOn 27 = .ok (.invokestatic 68, 3) := by decide +kernel
theorem dX1_oldestOn_30 : decode cX1_oldestOn 30 = .ok (.ifCond .eq 21, 3) := by decide +kernel
theorem dX1_oldestOn_33 : decode cX1_oldestOn 33 = .ok (.iload_n 3, 1) := by decide +kernel
theorem dX1_oldestOn_34 : decode cX1_oldestOn 34 = .ok (.ifCond .lt 14, 3) := by decide +kernel
theorem dX1_oldestOn_37 : decode cX1_oldestOn 37 = .ok (.aload_n 0, 1) := by decide +kernel
theorem dX1_oldestOn_38 : decode cX1_oldestOn 38 = .ok (.iload_n 1, 1) := by decide +kernel
theorem dX1_oldestOn_39 : decode cX1_oldestOn 39 = .ok (.iload 4, 2) := by decide +kernel
theorem dX1_oldestOn_41 : decode cX1_oldestOn 41 = .ok (.iload_n 3, 1) := by decide +kernel
theorem dX1_oldestOn_42 : decode cX1_oldestOn 42 = .ok (.invokevirtual 72, 3) := by decide +kernel
theorem dX1_oldestOn_45 : decode cX1_oldestOn 45 = .ok (.ifCond .eq 6, 3) := by decide +kernel
theorem dX1_oldestOn_48 : decode cX1_oldestOn 48 = .ok (.iload 4, 2) := by decide +kernel
theorem dX1_oldestOn_50 : decode cX1_oldestOn 50 = .ok (.istore_n 3, 1) := by decide +kernel
theorem dX1_oldestOn_51 : decode cX1_oldestOn 51 = .ok (.iinc 4 1, 3) := by decide +kernel
theorem dX1_oldestOn_54 : decode cX1_oldestOn 54 = .ok (.goto (-48), 3) := by decide +kernel
theorem dX1_oldestOn_57 : decode cX1_oldestOn 57 = .ok (.iload_n 3, 1) := by decide +kernel
theorem dX1_oldestOn_58 : decode cX1_oldestOn 58 = .ok (.ifCond .ge 7, 3) := by decide +kernel
theorem dX1_oldestOn_61 : decode cX1_oldestOn 61 = .ok (.iconst 0, 1) := by decide +kernel
theorem dX1_oldestOn_62 : decode cX1_oldestOn 62 = .ok (.goto 6, 3) := by decide +kernel
theorem dX1_oldestOn_65 : decode cX1_oldestOn 65 = .ok (.iconst 1, 1) := by decide +kernel
theorem dX1_oldestOn_66 : decode cX1_oldestOn 66 = .ok (.iload_n 3, 1) := by decide +kernel
theorem dX1_oldestOn_67 : decode cX1_oldestOn 67 = .ok (.ishl, 1) := by decide +kernel
theorem dX1_oldestOn_68 : decode cX1_oldestOn 68 = .ok (.ireturn, 1) := by decide +kernel
theorem dX1_isOlderOn_0 : decode cX1_isOlderOn 0 = .ok (.aload_n 0, 1) := by decide +kernel
theorem dX1_isOlderOn_1 : decode cX1_isOlderOn 1 = .ok (.getfield 9, 3) := by decide +kernel
theorem dX1_isOlderOn_4 : decode cX1_isOlderOn 4 = .ok (.iload_n 1, 1) := by decide +kernel
theorem dX1_isOlderOn_5 : decode cX1_isOlderOn 5 = .ok (.bipush 10, 2) := by decide +kernel
theorem dX1_isOlderOn_7 : decode cX1_isOlderOn 7 = .ok (.imul, 1) := by decide +kernel
theorem dX1_isOlderOn_8 : decode cX1_isOlderOn 8 = .ok (.iload_n 2, 1) := by decide +kernel
theorem dX1_isOlderOn_9 : decode cX1_isOlderOn 9 = .ok (.iadd, 1) := by decide +kernel
theorem dX1_isOlderOn_10 : decode cX1_isOlderOn 10 = .ok (.invokestatic 64, 3) := by decide +kernel
theorem dX1_isOlderOn_13 : decode cX1_isOlderOn 13 = .ok (.i2l, 1) := by decide +kernel
theorem dX1_isOlderOn_14 : decode cX1_isOlderOn 14 = .ok (.aload_n 0, 1) := by decide +kernel
theorem dX1_isOlderOn_15 : decode cX1_isOlderOn 15 = .ok (.getfield 15, 3) := by decide +kernel
theorem dX1_isOlderOn_18 : decode cX1_isOlderOn 18 = .ok (.iload_n 3, 1) := by decide +kernel
theorem dX1_isOlderOn_19 : decode cX1_isOlderOn 19 = .ok (.invokestatic 64, 3) := by decide +kernel
theorem dX1_isOlderOn_22 : decode cX1_isOlderOn 22 = .ok (.i2l, 1) := by decide +kernel
theorem dX1_isOlderOn_23 : decode cX1_isOlderOn 23 = .ok (.lmul, 1) := by decide +kernel
theorem dX1_isOlderOn_24 : decode cX1_isOlderOn 24 = .ok (.lstore 4, 2) := by decide +kernel
theorem dX1_isOlderOn_26 : decode cX1_isOlderOn 26 = .ok (.aload_n 0, 1) := by decide +kernel
theorem dX1_isOlderOn_27 : decode cX1_isOlderOn 27 = .ok (.getfield 9, 3) := by decide +kernel
theorem dX1_isOlderOn_30 : decode cX1_isOlderOn 30 = .ok (.iload_n 1, 1) := by decide +kernel
theorem dX1_isOlderOn_31 : decode cX1_isOlderOn 31 = .ok (.bipush 10, 2) := by decide +kernel
theorem dX1_isOlderOn_33 : decode cX1_isOlderOn 33 = .ok (.imul, 1) := by decide +kernel
theorem dX1_isOlderOn_34 : decode cX1_isOlderOn 34 = .ok (.iload_n 3, 1) := by decide +kernel
theorem dX1_isOlderOn_35 : decode cX1_isOlderOn 35 = .ok (.iadd, 1) := by decide +kernel
theorem dX1_isOlderOn_36 : decode cX1_isOlderOn 36 = .ok (.invokestatic 64, 3) := by decide +kernel
theorem dX1_isOlderOn_39 : decode cX1_isOlderOn 39 = .ok (.i2l, 1) := by decide +kernel
theorem dX1_isOlderOn_40 : decode cX1_isOlderOn 40 = .ok (.aload_n 0, 1) := by decide +kernel
theorem dX1_isOlderOn_41 : decode cX1_isOlderOn 41 = .ok (.getfield 15, 3) := by decide +kernel
theorem dX1_isOlderOn_44 : decode cX1_isOlderOn 44 = .ok (.iload_n 2, 1) := by decide +kernel
theorem dX1_isOlderOn_45 : decode cX1_isOlderOn 45 = .ok (.invokestatic 64, 3) := by decide +kernel
theorem dX1_isOlderOn_48 : decode cX1_isOlderOn 48 = .ok (.i2l, 1) := by decide +kernel
theorem dX1_isOlderOn_49 : decode cX1_isOlderOn 49 = .ok (.lmul, 1) := by decide +kernel
theorem dX1_isOlderOn_50 : decode cX1_isOlderOn 50 = .ok (.lstore 6, 2) := by decide +kernel
theorem dX1_isOlderOn_52 : decode cX1_isOlderOn 52 = .ok (.lload 4, 2) := by decide +kernel
theorem dX1_isOlderOn_54 : decode cX1_isOlderOn 54 = .ok (.lload 6, 2) := by decide +kernel
theorem dX1_isOlderOn_56 : decode cX1_isOlderOn 56 = .ok (.lcmp, 1) := by decide +kernel
theorem dX1_isOlderOn_57 : decode cX1_isOlderOn 57 = .ok (.ifCond .le 7, 3) := by decide +kernel
theorem dX1_isOlderOn_60 : decode cX1_isOlderOn 60 = .ok (.iconst 1, 1) := by decide +kernel
theorem dX1_isOlderOn_61 : decode cX1_isOlderOn 61 = .ok (.goto 4, 3) := by decide +kernel
theorem dX1_isOlderOn_64 : decode cX1_isOlderOn 64 = .ok (.iconst 0, 1) := by decide +kernel
theorem dX1_isOlderOn_65 : decode cX1_isOlderOn 65 = .ok (.ireturn, 1) := by decide +kernel
theorem dX1_costOfHabit_0 : decode cX1_costOfHabit 0 = .ok (.aload_n 0, 1) := by decide +kernel
theorem dX1_costOfHabit_1 : decode cX1_costOfHabit 1 = .ok (.iload_n 2, 1) := by decide +kernel
theorem dX1_costOfHabit_2 : decode cX1_costOfHabit 2 = .ok (.invokevirtual 76, 3) := by decide +kernel
theorem dX1_costOfHabit_5 : decode cX1_costOfHabit 5 = .ok (.aload_n 0, 1) := by decide +kernel
theorem dX1_costOfHabit_6 : decode cX1_costOfHabit 6 = .ok (.getfield 21, 3) := by decide +kernel
theorem dX1_costOfHabit_9 : decode cX1_costOfHabit 9 = .ok (.getfield 25, 3) := by decide +kernel
theorem dX1_costOfHabit_12 : decode cX1_costOfHabit 12 = .ok (.invokevirtual 80, 3) := by decide +kernel
theorem dX1_costOfHabit_15 : decode cX1_costOfHabit 15 = .ok (.istore 4, 2) := by decide +kernel
theorem dX1_costOfHabit_17 : decode cX1_costOfHabit 17 = .ok (.iconst 0, 1) := by decide +kernel
theorem dX1_costOfHabit_18 : decode cX1_costOfHabit 18 = .ok (.istore 5, 2) := by decide +kernel
theorem dX1_costOfHabit_20 : decode cX1_costOfHabit 20 = .ok (.iconst 0, 1) := by decide +kernel
theorem dX1_costOfHabit_21 : decode cX1_costOfHabit 21 = .ok (.istore 6, 2) := by decide +kernel
theorem dX1_costOfHabit_23 : decode cX1_costOfHabit 23 = .ok (.iload 6, 2) := by decide +kernel
theorem dX1_costOfHabit_25 : decode cX1_costOfHabit 25 = .ok (.iload_n 2, 1) := by decide +kernel
theorem dX1_costOfHabit_26 : decode cX1_costOfHabit 26 = .ok (.if_icmp .ge 76, 3) := by decide +kernel
theorem dX1_costOfHabit_29 : decode cX1_costOfHabit 29 = .ok (.iload_n 1, 1) := by decide +kernel
theorem dX1_costOfHabit_30 : decode cX1_costOfHabit 30 = .ok (.iload 6, 2) := by decide +kernel
theorem dX1_costOfHabit_32 : decode cX1_costOfHabit 32 = .ok (.invokestatic 84, 3) := by decide +kernel
theorem dX1_costOfHabit_35 : decode cX1_costOfHabit 35 = .ok (.ifCond .eq 61, 3) := by decide +kernel
theorem dX1_costOfHabit_38 : decode cX1_costOfHabit 38 = .ok (.iload_n 3, 1) := by decide +kernel
theorem dX1_costOfHabit_39 : decode cX1_costOfHabit 39 = .ok (.ifCond .ne 11, 3) := by decide +kernel
theorem dX1_costOfHabit_42 : decode cX1_costOfHabit 42 = .ok (.iload 4, 2) := by decide +kernel
theorem dX1_costOfHabit_44 : decode cX1_costOfHabit 44 = .ok (.invokestatic 87, 3) := by decide +kernel
theorem dX1_costOfHabit_47 : decode cX1_costOfHabit 47 = .ok (.goto 11, 3) := by decide +kernel
theorem dX1_costOfHabit_50 : decode cX1_costOfHabit 50 = .ok (.aload_n 0, 1) := by decide +kernel
theorem dX1_costOfHabit_51 : decode cX1_costOfHabit 51 = .ok (.iload 6, 2) := by decide +kernel
theorem dX1_costOfHabit_53 : decode cX1_costOfHabit 53 = .ok (.iload 4, 2) := by decide +kernel
theorem dX1_costOfHabit_55 : decode cX1_costOfHabit 55 = .ok (.invokevirtual 90, 3) := by decide +kernel
theorem dX1_costOfHabit_58 : decode cX1_costOfHabit 58 = .ok (.istore 7, 2) := by decide +kernel
theorem dX1_costOfHabit_60 : decode cX1_costOfHabit 60 = .ok (.iload 5, 2) := by decide +kernel
theorem dX1_costOfHabit_62 : decode cX1_costOfHabit 62 = .ok (.aload_n 0, 1) := by decide +kernel
theorem dX1_costOfHabit_63 : decode cX1_costOfHabit 63 = .ok (.getfield 21, 3) := by decide +kernel
theorem dX1_costOfHabit_66 : decode cX1_costOfHabit 66 = .ok (.getfield 37, 3) := by decide +kernel
theorem dX1_costOfHabit_69 : decode cX1_costOfHabit 69 = .ok (.getfield 41, 3) := by decide +kernel
theorem dX1_costOfHabit_72 : decode cX1_costOfHabit 72 = .ok (.iload 7, 2) := by decide +kernel
theorem dX1_costOfHabit_74 : decode cX1_costOfHabit 74 = .ok (.aload_n 0, 1) := by decide +kernel
theorem dX1_costOfHabit_75 : decode cX1_costOfHabit 75 = .ok (.iload 6, 2) := by decide +kernel
theorem dX1_costOfHabit_77 : decode cX1_costOfHabit 77 = .ok (.invokevirtual 93, 3) := by decide +kernel
theorem dX1_costOfHabit_80 : decode cX1_costOfHabit 80 = .ok (.iand, 1) := by decide +kernel
theorem dX1_costOfHabit_81 : decode cX1_costOfHabit 81 = .ok (.invokevirtual 96, 3) := by decide +kernel
theorem dX1_costOfHabit_84 : decode cX1_costOfHabit 84 = .ok (.iadd, 1) := by decide +kernel
theorem dX1_costOfHabit_85 : decode cX1_costOfHabit 85 = .ok (.istore 5, 2) := by decide +kernel
theorem dX1_costOfHabit_87 : decode cX1_costOfHabit 87 = .ok (.iload 4, 2) := by decide +kernel
theorem dX1_costOfHabit_89 : decode cX1_costOfHabit 89 = .ok (.iload 7, 2) := by decide +kernel
theorem dX1_costOfHabit_91 : decode cX1_costOfHabit 91 = .ok (.iconst (-1), 1) := by decide +kernel
theorem dX1_costOfHabit_92 : decode cX1_costOfHabit 92 = .ok (.ixor, 1) := by decide +kernel
theorem dX1_costOfHabit_93 : decode cX1_costOfHabit 93 = .ok (.iand, 1) := by decide +kernel
theorem dX1_costOfHabit_94 : decode cX1_costOfHabit 94 = .ok (.istore 4, 2) := by decide +kernel
theorem dX1_costOfHabit_96 : decode cX1_costOfHabit 96 = .ok (.iinc 6 1, 3) := by decide +kernel
theorem dX1_costOfHabit_99 : decode cX1_costOfHabit 99 = .ok (.goto (-76), 3) := by decide +kernel
theorem dX1_costOfHabit_102 : decode cX1_costOfHabit 102 = .ok (.iload 5, 2) := by decide +kernel
theorem dX1_costOfHabit_104 : decode cX1_costOfHabit 104 = .ok (.aload_n 0, 1) := by decide +kernel
theorem dX1_costOfHabit_105 : decode cX1_costOfHabit 105 = .ok (.getfield 21, 3) := by decide +kernel
theorem dX1_costOfHabit_108 : decode cX1_costOfHabit 108 = .ok (.getfield 37, 3) := by decide +kernel
theorem dX1_costOfHabit_111 : decode cX1_costOfHabit 111 = .ok (.getfield 41, 3) := by decide +kernel
theorem dX1_costOfHabit_114 : decode cX1_costOfHabit 114 = .ok (.iload 4, 2) := by decide +kernel
theorem dX1_costOfHabit_116 : decode cX1_costOfHabit 116 = .ok (.aload_n 0, 1) := by decide +kernel
theorem dX1_costOfHabit_117 : decode cX1_costOfHabit 117 = .ok (.iload_n 2, 1) := by decide +kernel
theorem dX1_costOfHabit_118 : decode cX1_costOfHabit 118 = .ok (.iconst 1, 1) := by decide +kernel
theorem dX1_costOfHabit_119 : decode cX1_costOfHabit 119 = .ok (.isub, 1) := by decide +kernel
theorem dX1_costOfHabit_120 : decode cX1_costOfHabit 120 = .ok (.invokevirtual 93, 3) := by decide +kernel
theorem dX1_costOfHabit_123 : decode cX1_costOfHabit 123 = .ok (.iand, 1) := by decide +kernel
theorem dX1_costOfHabit_124 : decode cX1_costOfHabit 124 = .ok (.invokevirtual 96, 3) := by decide +kernel
theorem dX1_costOfHabit_127 : decode cX1_costOfHabit 127 = .ok (.iadd, 1) := by decide +kernel
theorem dX1_costOfHabit_128 : decode cX1_costOfHabit 128 = .ok (.ireturn, 1) := by decide +kernel
theorem dX1_isOneTaken_0 : decode cX1_isOneTaken 0 = .ok (.ldc2_w 99, 3) := by decide +kernel
theorem dX1_isOneTaken_3 : decode cX1_isOneTaken 3 = .ok (.iload_n 0, 1) := by decide +kernel
theorem dX1_isOneTaken_4 : decode cX1_isOneTaken 4 = .ok (.i2l, 1) := by decide +kernel
theorem dX1_isOneTaken_5 : decode cX1_isOneTaken 5 = .ok (.lmul, 1) := by decide +kernel
theorem dX1_isOneTaken_6 : decode cX1_isOneTaken 6 = .ok (.ldc2_w 101, 3) := by decide +kernel
theorem dX1_isOneTaken_9 : decode cX1_isOneTaken 9 = .ok (.iload_n 1, 1) := by decide +kernel
theorem dX1_isOneTaken_10 : decode cX1_isOneTaken 10 = .ok (.i2l, 1) := by decide +kernel
theorem dX1_isOneTaken_11 : decode cX1_isOneTaken 11 = .ok (.lmul, 1) := by decide +kernel
theorem dX1_isOneTaken_12 : decode cX1_isOneTaken 12 = .ok (.ladd, 1) := by decide +kernel
theorem dX1_isOneTaken_13 : decode cX1_isOneTaken 13 = .ok (.lconst 1, 1) := by decide +kernel
theorem dX1_isOneTaken_14 : decode cX1_isOneTaken 14 = .ok (.ladd, 1) := by decide +kernel
theorem dX1_isOneTaken_15 : decode cX1_isOneTaken 15 = .ok (.lstore_n 2, 1) := by decide +kernel
theorem dX1_isOneTaken_16 : decode cX1_isOneTaken 16 = .ok (.lload_n 2, 1) := by decide +kernel
theorem dX1_isOneTaken_17 : decode cX1_isOneTaken 17 = .ok (.lload_n 2, 1) := by decide +kernel
theorem dX1_isOneTaken_18 : decode cX1_isOneTaken 18 = .ok (.lmul, 1) := by decide +kernel
theorem dX1_isOneTaken_19 : decode cX1_isOneTaken 19 = .ok (.ldc2_w 103, 3) := by decide +kernel
theorem dX1_isOneTaken_22 : decode cX1_isOneTaken 22 = .ok (.lrem, 1) := by decide +kernel
theorem dX1_isOneTaken_23 : decode cX1_isOneTaken 23 = .ok (.ldc2_w 105, 3) := by decide +kernel
theorem dX1_isOneTaken_26 : decode cX1_isOneTaken 26 = .ok (.lrem, 1) := by decide +kernel
theorem dX1_isOneTaken_27 : decode cX1_isOneTaken 27 = .ok (.lconst 0, 1) := by decide +kernel
theorem dX1_isOneTaken_28 : decode cX1_isOneTaken 28 = .ok (.lcmp, 1) := by decide +kernel
theorem dX1_isOneTaken_29 : decode cX1_isOneTaken 29 = .ok (.ifCond .eq 7, 3) := by decide +kernel
theorem dX1_isOneTaken_32 : decode cX1_isOneTaken 32 = .ok (.iconst 1, 1) := by decide +kernel
theorem dX1_isOneTaken_33 : decode cX1_isOneTaken 33 = .ok (.goto 4, 3) := by decide +kernel
theorem dX1_isOneTaken_36 : decode cX1_isOneTaken 36 = .ok (.iconst 0, 1) := by decide +kernel
theorem dX1_isOneTaken_37 : decode cX1_isOneTaken 37 = .ok (.ireturn, 1) := by decide +kernel
theorem dX1_highestOf_0 : decode cX1_highestOf 0 = .ok (.bipush 9, 2) := by decide +kernel
theorem dX1_highestOf_2 : decode cX1_highestOf 2 = .ok (.istore_n 1, 1) := by decide +kernel
theorem dX1_highestOf_3 : decode cX1_highestOf 3 = .ok (.iload_n 1, 1) := by decide +kernel
theorem dX1_highestOf_4 : decode cX1_highestOf 4 = .ok (.ifCond .lt 21, 3) := by decide +kernel
theorem dX1_highestOf_7 : decode cX1_highestOf 7 = .ok (.iload_n 0, 1) := by decide +kernel
theorem dX1_highestOf_8 : decode cX1_highestOf 8 = .ok (.iload_n 1, 1) := by decide +kernel
theorem dX1_highestOf_9 : decode cX1_highestOf 9 = .ok (.invokestatic 68, 3) := by decide +kernel
theorem dX1_highestOf_12 : decode cX1_highestOf 12 = .ok (.ifCond .eq 7, 3) := by decide +kernel
theorem dX1_highestOf_15 : decode cX1_highestOf 15 = .ok (.iconst 1, 1) := by decide +kernel
theorem dX1_highestOf_16 : decode cX1_highestOf 16 = .ok (.iload_n 1, 1) := by decide +kernel
theorem dX1_highestOf_17 : decode cX1_highestOf 17 = .ok (.ishl, 1) := by decide +kernel
theorem dX1_highestOf_18 : decode cX1_highestOf 18 = .ok (.ireturn, 1) := by decide +kernel
theorem dX1_highestOf_19 : decode cX1_highestOf 19 = .ok (.iinc 1 (-1), 3) := by decide +kernel
theorem dX1_highestOf_22 : decode cX1_highestOf 22 = .ok (.goto (-19), 3) := by decide +kernel
theorem dX1_highestOf_25 : decode cX1_highestOf 25 = .ok (.iconst 0, 1) := by decide +kernel
theorem dX1_highestOf_26 : decode cX1_highestOf 26 = .ok (.ireturn, 1) := by decide +kernel
theorem dX2_init_0 : decode cX2_init 0 = .ok (.aload_n 0, 1) := by decide +kernel
theorem dX2_init_1 : decode cX2_init 1 = .ok (.invokespecial 3, 3) := by decide +kernel
theorem dX2_init_4 : decode cX2_init 4 = .ok (.aload_n 0, 1) := by decide +kernel
theorem dX2_init_5 : decode cX2_init 5 = .ok (.bipush 10, 2) := by decide +kernel
theorem dX2_init_7 : decode cX2_init 7 = .ok (.newarray .int, 2) := by decide +kernel
theorem dX2_init_9 : decode cX2_init 9 = .ok (.putfield 9, 3) := by decide +kernel
theorem dX2_init_12 : decode cX2_init 12 = .ok (.aload_n 0, 1) := by decide +kernel
theorem dX2_init_13 : decode cX2_init 13 = .ok (.bipush 10, 2) := by decide +kernel
theorem dX2_init_15 : decode cX2_init 15 = .ok (.newarray .int, 2) := by decide +kernel
theorem dX2_init_17 : decode cX2_init 17 = .ok (.putfield 15, 3) := by decide +kernel
theorem dX2_init_20 : decode cX2_init 20 = .ok (.aload_n 0, 1) := by decide +kernel
theorem dX2_init_21 : decode cX2_init 21 = .ok (.bipush 10, 2) := by decide +kernel
theorem dX2_init_23 : decode cX2_init 23 = .ok (.newarray .int, 2) := by decide +kernel
theorem dX2_init_25 : decode cX2_init 25 = .ok (.putfield 18, 3) := by decide +kernel
theorem dX2_init_28 : decode cX2_init 28 = .ok (.aload_n 0, 1) := by decide +kernel
theorem dX2_init_29 : decode cX2_init 29 = .ok (.bipush 10, 2) := by decide +kernel
theorem dX2_init_31 : decode cX2_init 31 = .ok (.newarray .int, 2) := by decide +kernel
theorem dX2_init_33 : decode cX2_init 33 = .ok (.putfield 21, 3) := by decide +kernel
theorem dX2_init_36 : decode cX2_init 36 = .ok (.aload_n 0, 1) := by decide +kernel
theorem dX2_init_37 : decode cX2_init 37 = .ok (.bipush 10, 2) := by decide +kernel
theorem dX2_init_39 : decode cX2_init 39 = .ok (.newarray .int, 2) := by decide +kernel
theorem dX2_init_41 : decode cX2_init 41 = .ok (.putfield 24, 3) := by decide +kernel
theorem dX2_init_44 : decode cX2_init 44 = .ok (.aload_n 0, 1) := by decide +kernel
theorem dX2_init_45 : decode cX2_init 45 = .ok (.bipush 10, 2) := by decide +kernel
theorem dX2_init_47 : decode cX2_init 47 = .ok (.newarray .int, 2) := by decide +kernel
theorem dX2_init_49 : decode cX2_init 49 = .ok (.putfield 27, 3) := by decide +kernel
theorem dX2_init_52 : decode cX2_init 52 = .ok (.aload_n 0, 1) := by decide +kernel
theorem dX2_init_53 : decode cX2_init 53 = .ok (.iconst 4, 1) := by decide +kernel
theorem dX2_init_54 : decode cX2_init 54 = .ok (.newarray .int, 2) := by decide +kernel
theorem dX2_init_56 : decode cX2_init 56 = .ok (.putfield 30, 3) := by decide +kernel
theorem dX2_init_59 : decode cX2_init 59 = .ok (.return_, 1) := by decide +kernel
theorem dX2_clear_0 : decode cX2_clear 0 = .ok (.aload_n 0, 1) := by decide +kernel
theorem dX2_clear_1 : decode cX2_clear 1 = .ok (.iconst 0, 1) := by decide +kernel
theorem dX2_clear_2 : decode cX2_clear 2 = .ok (.putfield 33, 3) := by decide +kernel
theorem dX2_clear_5 : decode cX2_clear 5 = .ok (.iconst 0, 1) := by decide +kernel
theorem dX2_clear_6 : decode cX2_clear 6 = .ok (.istore_n 1, 1) := by decide +kernel
theorem dX2_clear_7 : decode cX2_clear 7 = .ok (.iload_n 1, 1) := by decide +kernel
theorem dX2_clear_8 : decode cX2_clear 8 = .ok (.iconst 4, 1) := by decide +kernel
theorem dX2_clear_9 : decode cX2_clear 9 = .ok (.if_icmp .ge 18, 3) := by decide +kernel
theorem dX2_clear_12 : decode cX2_clear 12 = .ok (.aload_n 0, 1) := by decide +kernel
theorem dX2_clear_13 : decode cX2_clear 13 = .ok (.getfield 30, 3) := by decide +kernel
theorem dX2_clear_16 : decode cX2_clear 16 = .ok (.iload_n 1, 1) := by decide +kernel
theorem dX2_clear_17 : decode cX2_clear 17 = .ok (.iconst 0, 1) := by decide +kernel
theorem dX2_clear_18 : decode cX2_clear 18 = .ok (.invokestatic 37, 3) := by decide +kernel
theorem dX2_clear_21 : decode cX2_clear 21 = .ok (.iinc 1 1, 3) := by decide +kernel
theorem dX2_clear_24 : decode cX2_clear 24 = .ok (.goto (-17), 3) := by decide +kernel
theorem dX2_clear_27 : decode cX2_clear 27 = .ok (.return_, 1) := by decide +kernel
theorem dX2_add_0 : decode cX2_add 0 = .ok (.aload_n 0, 1) := by decide +kernel
theorem dX2_add_1 : decode cX2_add 1 = .ok (.getfield 33, 3) := by decide +kernel
theorem dX2_add_4 : decode cX2_add 4 = .ok (.bipush 10, 2) := by decide +kernel
theorem dX2_add_6 : decode cX2_add 6 = .ok (.if_icmp .lt 5, 3) := by decide +kernel
theorem dX2_add_9 : decode cX2_add 9 = .ok (.iconst 0, 1) := by decide +kernel
theorem dX2_add_10 : decode cX2_add 10 = .ok (.ireturn, 1) := by decide +kernel
theorem dX2_add_11 : decode cX2_add 11 = .ok (.aload_n 0, 1) := by decide +kernel
theorem dX2_add_12 : decode cX2_add 12 = .ok (.getfield 9, 3) := by decide +kernel
theorem dX2_add_15 : decode cX2_add 15 = .ok (.aload_n 0, 1) := by decide +kernel
theorem dX2_add_16 : decode cX2_add 16 = .ok (.getfield 33, 3) := by decide +kernel
theorem dX2_add_19 : decode cX2_add 19 = .ok (.iload_n 1, 1) := by decide +kernel
theorem dX2_add_20 : decode cX2_add 20 = .ok (.invokestatic 37, 3) := by decide +kernel
theorem dX2_add_23 : decode cX2_add 23 = .ok (.aload_n 0, 1) := by decide +kernel
theorem dX2_add_24 : decode cX2_add 24 = .ok (.getfield 15, 3) := by decide +kernel
theorem dX2_add_27 : decode cX2_add 27 = .ok (.aload_n 0, 1) := by decide +kernel
theorem dX2_add_28 : decode cX2_add 28 = .ok (.getfield 33, 3) := by decide +kernel
theorem dX2_add_31 : decode cX2_add 31 = .ok (.iload_n 2, 1) := by decide +kernel
theorem dX2_add_32 : decode cX2_add 32 = .ok (.invokestatic 37, 3) := by decide +kernel
theorem dX2_add_35 : decode cX2_add 35 = .ok (.aload_n 0, 1) := by decide +kernel
theorem dX2_add_36 : decode cX2_add 36 = .ok (.getfield 18, 3) := by decide +kernel
theorem dX2_add_39 : decode cX2_add 39 = .ok (.aload_n 0, 1) := by decide +kernel
theorem dX2_add_40 : decode cX2_add 40 = .ok (.getfield 33, 3) := by decide +kernel
theorem dX2_add_43 : decode cX2_add 43 = .ok (.iload_n 3, 1) := by decide +kernel
theorem dX2_add_44 : decode cX2_add 44 = .ok (.invokestatic 37, 3) := by decide +kernel
theorem dX2_add_47 : decode cX2_add 47 = .ok (.aload_n 0, 1) := by decide +kernel
theorem dX2_add_48 : decode cX2_add 48 = .ok (.getfield 21, 3) := by decide +kernel
theorem dX2_add_51 : decode cX2_add 51 = .ok (.aload_n 0, 1) := by decide +kernel
theorem dX2_add_52 : decode cX2_add 52 = .ok (.getfield 33, 3) := by decide +kernel
theorem dX2_add_55 : decode cX2_add 55 = .ok (.iload 4, 2) := by decide +kernel
theorem dX2_add_57 : decode cX2_add 57 = .ok (.invokestatic 37, 3) := by decide +kernel
theorem dX2_add_60 : decode cX2_add 60 = .ok (.aload_n 0, 1) := by decide +kernel
theorem dX2_add_61 : decode cX2_add 61 = .ok (.getfield 24, 3) := by decide +kernel
theorem dX2_add_64 : decode cX2_add 64 = .ok (.aload_n 0, 1) := by decide +kernel
theorem dX2_add_65 : decode cX2_add 65 = .ok (.getfield 33, 3) := by decide +kernel
theorem dX2_add_68 : decode cX2_add 68 = .ok (.iload 5, 2) := by decide +kernel
theorem dX2_add_70 : decode cX2_add 70 = .ok (.invokestatic 37, 3) := by decide +kernel
theorem dX2_add_73 : decode cX2_add 73 = .ok (.aload_n 0, 1) := by decide +kernel
theorem dX2_add_74 : decode cX2_add 74 = .ok (.getfield 27, 3) := by decide +kernel
theorem dX2_add_77 : decode cX2_add 77 = .ok (.aload_n 0, 1) := by decide +kernel
theorem dX2_add_78 : decode cX2_add 78 = .ok (.getfield 33, 3) := by decide +kernel
theorem dX2_add_81 : decode cX2_add 81 = .ok (.iload 6, 2) := by decide +kernel
theorem dX2_add_83 : decode cX2_add 83 = .ok (.invokestatic 37, 3) := by decide +kernel
theorem dX2_add_86 : decode cX2_add 86 = .ok (.aload_n 0, 1) := by decide +kernel
theorem dX2_add_87 : decode cX2_add 87 = .ok (.getfield 30, 3) := by decide +kernel
theorem dX2_add_90 : decode cX2_add 90 = .ok (.iload 6, 2) := by decide +kernel
theorem dX2_add_92 : decode cX2_add 92 = .ok (.aload_n 0, 1) := by decide +kernel
theorem dX2_add_93 : decode cX2_add 93 = .ok (.getfield 30, 3) := by decide +kernel
theorem dX2_add_96 : decode cX2_add 96 = .ok (.iload 6, 2) := by decide +kernel
theorem dX2_add_98 : decode cX2_add 98 = .ok (.invokestatic 41, 3) := by decide +kernel
theorem dX2_add_101 : decode cX2_add 101 = .ok (.iconst 1, 1) := by decide +kernel
theorem dX2_add_102 : decode cX2_add 102 = .ok (.aload_n 0, 1) := by decide +kernel
theorem dX2_add_103 : decode cX2_add 103 = .ok (.getfield 33, 3) := by decide +kernel
theorem dX2_add_106 : decode cX2_add 106 = .ok (.ishl, 1) := by decide +kernel
theorem dX2_add_107 : decode cX2_add 107 = .ok (.ior, 1) := by decide +kernel
theorem dX2_add_108 : decode cX2_add 108 = .ok (.invokestatic 37, 3) := by decide +kernel
theorem dX2_add_111 : decode cX2_add 111 = .ok (.aload_n 0, 1) := by decide +kernel
theorem dX2_add_112 : decode cX2_add 112 = .ok (.dup, 1) := by decide +kernel
theorem dX2_add_113 : decode cX2_add 113 = .ok (.getfield 33, 3) := by decide +kernel
theorem dX2_add_116 : decode cX2_add 116 = .ok (.iconst 1, 1) := by decide +kernel
theorem dX2_add_117 : decode cX2_add 117 = .ok (.iadd, 1) := by decide +kernel
theorem dX2_add_118 : decode cX2_add 118 = .ok (.putfield 33, 3) := by decide +kernel
theorem dX2_add_121 : decode cX2_add 121 = .ok (.iconst 1, 1) := by decide +kernel
theorem dX2_add_122 : decode cX2_add 122 = .ok (.ireturn, 1) := by decide +kernel
theorem dX2_kindOf_0 : decode cX2_kindOf 0 = .ok (.aload_n 0, 1) := by decide +kernel
theorem dX2_kindOf_1 : decode cX2_kindOf 1 = .ok (.getfield 9, 3) := by decide +kernel
theorem dX2_kindOf_4 : decode cX2_kindOf 4 = .ok (.iload_n 1, 1) := by decide +kernel
theorem dX2_kindOf_5 : decode cX2_kindOf 5 = .ok (.invokestatic 41, 3) := by decide +kernel
theorem dX2_kindOf_8 : decode cX2_kindOf 8 = .ok (.ireturn, 1) := by decide +kernel
theorem dX2_cellOf_0 : decode cX2_cellOf 0 = .ok (.aload_n 0, 1) := by decide +kernel
theorem dX2_cellOf_1 : decode cX2_cellOf 1 = .ok (.getfield 15, 3) := by decide +kernel
theorem dX2_cellOf_4 : decode cX2_cellOf 4 = .ok (.iload_n 1, 1) := by decide +kernel
theorem dX2_cellOf_5 : decode cX2_cellOf 5 = .ok (.invokestatic 41, 3) := by decide +kernel
theorem dX2_cellOf_8 : decode cX2_cellOf 8 = .ok (.ireturn, 1) := by decide +kernel
theorem dX2_coinOf_0 : decode cX2_coinOf 0 = .ok (.aload_n 0, 1) := by decide +kernel
theorem dX2_coinOf_1 : decode cX2_coinOf 1 = .ok (.getfield 18, 3) := by decide +kernel
theorem dX2_coinOf_4 : decode cX2_coinOf 4 = .ok (.iload_n 1, 1) := by decide +kernel
theorem dX2_coinOf_5 : decode cX2_coinOf 5 = .ok (.invokestatic 41, 3) := by decide +kernel
theorem dX2_coinOf_8 : decode cX2_coinOf 8 = .ok (.ireturn, 1) := by decide +kernel
theorem dX2_printedOf_0 : decode cX2_printedOf 0 = .ok (.aload_n 0, 1) := by decide +kernel
theorem dX2_printedOf_1 : decode cX2_printedOf 1 = .ok (.getfield 24, 3) := by decide +kernel
theorem dX2_printedOf_4 : decode cX2_printedOf 4 = .ok (.iload_n 1, 1) := by decide +kernel
theorem dX2_printedOf_5 : decode cX2_printedOf 5 = .ok (.invokestatic 41, 3) := by decide +kernel
theorem dX2_printedOf_8 : decode cX2_printedOf 8 = .ok (.ireturn, 1) := by decide +kernel
theorem dX2_sortOf_0 : decode cX2_sortOf 0 = .ok (.aload_n 0, 1) := by decide +kernel
theorem dX2_sortOf_1 : decode cX2_sortOf 1 = .ok (.getfield 27, 3) := by decide +kernel
theorem dX2_sortOf_4 : decode cX2_sortOf 4 = .ok (.iload_n 1, 1) := by decide +kernel
theorem dX2_sortOf_5 : decode cX2_sortOf 5 = .ok (.invokestatic 41, 3) := by decide +kernel
theorem dX2_sortOf_8 : decode cX2_sortOf 8 = .ok (.ireturn, 1) := by decide +kernel
theorem dX2_limitAs_0 : decode cX2_limitAs 0 = .ok (.bipush 50, 2) := by decide +kernel
theorem dX2_limitAs_2 : decode cX2_limitAs 2 = .ok (.iload_n 2, 1) := by decide +kernel
theorem dX2_limitAs_3 : decode cX2_limitAs 3 = .ok (.iconst 2, 1) := by decide +kernel
theorem dX2_limitAs_4 : decode cX2_limitAs 4 = .ok (.if_icmp .ne 17, 3) := by decide +kernel
theorem dX2_limitAs_7 : decode cX2_limitAs 7 = .ok (.aload_n 0, 1) := by decide +kernel
theorem dX2_limitAs_8 : decode cX2_limitAs 8 = .ok (.getfield 21, 3) := by decide +kernel
theorem dX2_limitAs_11 : decode cX2_limitAs 11 = .ok (.iload_n 1, 1) := by decide +kernel
theorem dX2_limitAs_12 : decode cX2_limitAs 12 = .ok (.invokestatic 41, 3) := by decide +kernel
theorem dX2_limitAs_15 : decode cX2_limitAs 15 = .ok (.bipush 96, 2) := by decide +kernel
theorem dX2_limitAs_17 : decode cX2_limitAs 17 = .ok (.iadd, 1) := by decide +kernel
theorem dX2_limitAs_18 : decode cX2_limitAs 18 = .ok (.goto 11, 3) := by decide +kernel
theorem dX2_limitAs_21 : decode cX2_limitAs 21 = .ok (.aload_n 0, 1) := by decide +kernel
theorem dX2_limitAs_22 : decode cX2_limitAs 22 = .ok (.getfield 21, 3) := by decide +kernel
theorem dX2_limitAs_25 : decode cX2_limitAs 25 = .ok (.iload_n 1, 1) := by decide +kernel
theorem dX2_limitAs_26 : decode cX2_limitAs 26 = .ok (.invokestatic 41, 3) := by decide +kernel
theorem dX2_limitAs_29 : decode cX2_limitAs 29 = .ok (.imul, 1) := by decide +kernel
theorem dX2_limitAs_30 : decode cX2_limitAs 30 = .ok (.ireturn, 1) := by decide +kernel
theorem dX2_numberIn_0 : decode cX2_numberIn 0 = .ok (.iconst 0, 1) := by decide +kernel
theorem dX2_numberIn_1 : decode cX2_numberIn 1 = .ok (.istore_n 2, 1) := by decide +kernel
theorem dX2_numberIn_2 : decode cX2_numberIn 2 = .ok (.iconst 0, 1) := by decide +kernel
theorem dX2_numberIn_3 : decode cX2_numberIn 3 = .ok (.istore_n 3, 1) := by decide +kernel
theorem dX2_numberIn_4 : decode cX2_numberIn 4 = .ok (.iload_n 3, 1) := by decide +kernel
theorem dX2_numberIn_5 : decode cX2_numberIn 5 = .ok (.aload_n 0, 1) := by decide +kernel
theorem dX2_numberIn_6 : decode cX2_numberIn 6 = .ok (.getfield 33, 3) := by decide +kernel
theorem dX2_numberIn_9 : decode cX2_numberIn 9 = .ok (.if_icmp .ge 24, 3) := by decide +kernel
theorem dX2_numberIn_12 : decode cX2_numberIn 12 = .ok (.aload_n 0, 1) := by decide +kernel
theorem dX2_numberIn_13 : decode cX2_numberIn 13 = .ok (.getfield 15, 3) := by decide +kernel
theorem dX2_numberIn_16 : decode cX2_numberIn 16 = .ok (.iload_n 3, 1) := by decide +kernel
theorem dX2_numberIn_17 : decode cX2_numberIn 17 = .ok (.invokestatic 41, 3) := by decide +kernel
theorem dX2_numberIn_20 : decode cX2_numberIn 20 = .ok (.iload_n 1, 1) := by decide +kernel
theorem dX2_numberIn_21 : decode cX2_numberIn 21 = .ok (.if_icmp .ne 6, 3) := by decide +kernel
theorem dX2_numberIn_24 : decode cX2_numberIn 24 = .ok (.iinc 2 1, 3) := by decide +kernel
theorem dX2_numberIn_27 : decode cX2_numberIn 27 = .ok (.iinc 3 1, 3) := by decide +kernel
theorem dX2_numberIn_30 : decode cX2_numberIn 30 = .ok (.goto (-26), 3) := by decide +kernel
theorem dX2_numberIn_33 : decode cX2_numberIn 33 = .ok (.iload_n 2, 1) := by decide +kernel
theorem dX2_numberIn_34 : decode cX2_numberIn 34 = .ok (.ireturn, 1) := by decide +kernel
theorem dX2_coinOfAll_0 : decode cX2_coinOfAll 0 = .ok (.iconst 0, 1) := by decide +kernel
theorem dX2_coinOfAll_1 : decode cX2_coinOfAll 1 = .ok (.istore_n 2, 1) := by decide +kernel
theorem dX2_coinOfAll_2 : decode cX2_coinOfAll 2 = .ok (.iconst 0, 1) := by decide +kernel
theorem dX2_coinOfAll_3 : decode cX2_coinOfAll 3 = .ok (.istore_n 3, 1) := by decide +kernel
theorem dX2_coinOfAll_4 : decode cX2_coinOfAll 4 = .ok (.iload_n 3, 1) := by decide +kernel
theorem dX2_coinOfAll_5 : decode cX2_coinOfAll 5 = .ok (.aload_n 0, 1) := by decide +kernel
theorem dX2_coinOfAll_6 : decode cX2_coinOfAll 6 = .ok (.getfield 33, 3) := by decide +kernel
theorem dX2_coinOfAll_9 : decode cX2_coinOfAll 9 = .ok (.if_icmp .ge 28, 3) := by decide +kernel
theorem dX2_coinOfAll_12 : decode cX2_coinOfAll 12 = .ok (.iload_n 1, 1) := by decide +kernel
theorem dX2_coinOfAll_13 : decode cX2_coinOfAll 13 = .ok (.iload_n 3, 1) := by decide +kernel
theorem dX2_coinOfAll_14 : decode cX2_coinOfAll 14 = .ok (.invokestatic 45, 3) := by decide +kernel
theorem dX2_coinOfAll_17 : decode cX2_coinOfAll 17 = .ok (.ifCond .eq 14, 3) := by decide +kernel
theorem dX2_coinOfAll_20 : decode cX2_coinOfAll 20 = .ok (.iload_n 2, 1) := by decide +kernel
theorem dX2_coinOfAll_21 : decode cX2_coinOfAll 21 = .ok (.aload_n 0, 1) := by decide +kernel
theorem dX2_coinOfAll_22 : decode cX2_coinOfAll 22 = .ok (.getfield 18, 3) := by decide +kernel
theorem dX2_coinOfAll_25 : decode cX2_coinOfAll 25 = .ok (.iload_n 3, 1) := by decide +kernel
theorem dX2_coinOfAll_26 : decode cX2_coinOfAll 26 = .ok (.invokestatic 41, 3) := by decide +kernel
theorem dX2_coinOfAll_29 : decode cX2_coinOfAll 29 = .ok (.iadd, 1) := by decide +kernel
theorem dX2_coinOfAll_30 : decode cX2_coinOfAll 30 = .ok (.istore_n 2, 1) := by decide +kernel
theorem dX2_coinOfAll_31 : decode cX2_coinOfAll 31 = .ok (.iinc 3 1, 3) := by decide +kernel
theorem dX2_coinOfAll_34 : decode cX2_coinOfAll 34 = .ok (.goto (-30), 3) := by decide +kernel
theorem dX2_coinOfAll_37 : decode cX2_coinOfAll 37 = .ok (.iload_n 2, 1) := by decide +kernel
theorem dX2_coinOfAll_38 : decode cX2_coinOfAll 38 = .ok (.ireturn, 1) := by decide +kernel
theorem dX2_bitsOfSort_0 : decode cX2_bitsOfSort 0 = .ok (.aload_n 0, 1) := by decide +kernel
theorem dX2_bitsOfSort_1 : decode cX2_bitsOfSort 1 = .ok (.getfield 30, 3) := by decide +kernel
theorem dX2_bitsOfSort_4 : decode cX2_bitsOfSort 4 = .ok (.iload_n 1, 1) := by decide +kernel
theorem dX2_bitsOfSort_5 : decode cX2_bitsOfSort 5 = .ok (.invokestatic 41, 3) := by decide +kernel
theorem dX2_bitsOfSort_8 : decode cX2_bitsOfSort 8 = .ok (.ireturn, 1) := by decide +kernel
theorem dX3_init_0 : decode cX3_init 0 = .ok (.aload_n 0, 1) := by decide +kernel
theorem dX3_init_1 : decode cX3_init 1 = .ok (.invokespecial 3, 3) := by decide +kernel
theorem dX3_init_4 : decode cX3_init 4 = .ok (.aload_n 0, 1) := by decide +kernel
theorem dX3_init_5 : decode cX3_init 5 = .ok (.aload_n 1, 1) := by decide +kernel
theorem dX3_init_6 : decode cX3_init 6 = .ok (.putfield 9, 3) := by decide +kernel
theorem dX3_init_9 : decode cX3_init 9 = .ok (.aload_n 0, 1) := by decide +kernel
theorem dX3_init_10 : decode cX3_init 10 = .ok (.aload_n 2, 1) := by decide +kernel
theorem dX3_init_11 : decode cX3_init 11 = .ok (.putfield 15, 3) := by decide +kernel
theorem dX3_init_14 : decode cX3_init 14 = .ok (.return_, 1) := by decide +kernel
theorem dX3_hasFood_0 : decode cX3_hasFood 0 = .ok (.iload_n 1, 1) := by decide +kernel
theorem dX3_hasFood_1 : decode cX3_hasFood 1 = .ok (.ifCond .lt 21, 3) := by decide +kernel
theorem dX3_hasFood_4 : decode cX3_hasFood 4 = .ok (.iload_n 1, 1) := by decide +kernel
theorem dX3_hasFood_5 : decode cX3_hasFood 5 = .ok (.aload_n 0, 1) := by decide +kernel
theorem dX3_hasFood_6 : decode cX3_hasFood 6 = .ok (.getfield 9, 3) := by decide +kernel
theorem dX3_hasFood_9 : decode cX3_hasFood 9 = .ok (.getfield 19, 3) := by decide +kernel
theorem dX3_hasFood_12 : decode cX3_hasFood 12 = .ok (.getfield 25, 3) := by decide +kernel
theorem dX3_hasFood_15 : decode cX3_hasFood 15 = .ok (.if_icmp .ge 7, 3) := by decide +kernel
theorem dX3_hasFood_18 : decode cX3_hasFood 18 = .ok (.iconst 1, 1) := by decide +kernel
theorem dX3_hasFood_19 : decode cX3_hasFood 19 = .ok (.goto 4, 3) := by decide +kernel
theorem dX3_hasFood_22 : decode cX3_hasFood 22 = .ok (.iconst 0, 1) := by decide +kernel
theorem dX3_hasFood_23 : decode cX3_hasFood 23 = .ok (.ireturn, 1) := by decide +kernel
theorem dX3_limitOf_0 : decode cX3_limitOf 0 = .ok (.aload_n 0, 1) := by decide +kernel
theorem dX3_limitOf_1 : decode cX3_limitOf 1 = .ok (.getfield 9, 3) := by decide +kernel
theorem dX3_limitOf_4 : decode cX3_limitOf 4 = .ok (.getfield 19, 3) := by decide +kernel
theorem dX3_limitOf_7 : decode cX3_limitOf 7 = .ok (.iload_n 1, 1) := by decide +kernel
theorem dX3_limitOf_8 : decode cX3_limitOf 8 = .ok (.aload_n 0, 1) := by decide +kernel
theorem dX3_limitOf_9 : decode cX3_limitOf 9 = .ok (.getfield 15, 3) := by decide +kernel
theorem dX3_limitOf_12 : decode cX3_limitOf 12 = .ok (.iload_n 1, 1) := by decide +kernel
theorem dX3_limitOf_13 : decode cX3_limitOf 13 = .ok (.invokevirtual 31, 3) := by decide +kernel
theorem dX3_limitOf_16 : decode cX3_limitOf 16 = .ok (.invokevirtual 37, 3) := by decide +kernel
theorem dX3_limitOf_19 : decode cX3_limitOf 19 = .ok (.ireturn, 1) := by decide +kernel
theorem dX3_isOff_0 : decode cX3_isOff 0 = .ok (.aload_n 0, 1) := by decide +kernel
theorem dX3_isOff_1 : decode cX3_isOff 1 = .ok (.getfield 15, 3) := by decide +kernel
theorem dX3_isOff_4 : decode cX3_isOff 4 = .ok (.iload_n 1, 1) := by decide +kernel
theorem dX3_isOff_5 : decode cX3_isOff 5 = .ok (.invokevirtual 41, 3) := by decide +kernel
theorem dX3_isOff_8 : decode cX3_isOff 8 = .ok (.aload_n 0, 1) := by decide +kernel
theorem dX3_isOff_9 : decode cX3_isOff 9 = .ok (.iload_n 1, 1) := by decide +kernel
theorem dX3_isOff_10 : decode cX3_isOff 10 = .ok (.invokevirtual 44, 3) := by decide +kernel
theorem dX3_isOff_13 : decode cX3_isOff 13 = .ok (.if_icmp .lt 7, 3) := by decide +kernel
theorem dX3_isOff_16 : decode cX3_isOff 16 = .ok (.iconst 1, 1) := by decide +kernel
theorem dX3_isOff_17 : decode cX3_isOff 17 = .ok (.goto 4, 3) := by decide +kernel
theorem dX3_isOff_20 : decode cX3_isOff 20 = .ok (.iconst 0, 1) := by decide +kernel
theorem dX3_isOff_21 : decode cX3_isOff 21 = .ok (.ireturn, 1) := by decide +kernel
theorem dX3_offAndThere_0 : decode cX3_offAndThere 0 = .ok (.iconst 0, 1) := by decide +kernel
theorem dX3_offAndThere_1 : decode cX3_offAndThere 1 = .ok (.istore_n 1, 1) := by decide +kernel
theorem dX3_offAndThere_2 : decode cX3_offAndThere 2 = .ok (.iconst 0, 1) := by decide +kernel
theorem dX3_offAndThere_3 : decode cX3_offAndThere 3 = .ok (.istore_n 2, 1) := by decide +kernel
theorem dX3_offAndThere_4 : decode cX3_offAndThere 4 = .ok (.iload_n 2, 1) := by decide +kernel
theorem dX3_offAndThere_5 : decode cX3_offAndThere 5 = .ok (.aload_n 0, 1) := by decide +kernel
theorem dX3_offAndThere_6 : decode cX3_offAndThere 6 = .ok (.getfield 9, 3) := by decide +kernel
theorem dX3_offAndThere_9 : decode cX3_offAndThere 9 = .ok (.getfield 19, 3) := by decide +kernel
theorem dX3_offAndThere_12 : decode cX3_offAndThere 12 = .ok (.getfield 25, 3) := by decide +kernel
theorem dX3_offAndThere_15 : decode cX3_offAndThere 15 = .ok (.if_icmp .ge 34, 3) := by decide +kernel
theorem dX3_offAndThere_18 : decode cX3_offAndThere 18 = .ok (.aload_n 0, 1) := by decide +kernel
theorem dX3_offAndThere_19 : decode cX3_offAndThere 19 = .ok (.getfield 15, 3) := by decide +kernel
theorem dX3_offAndThere_22 : decode cX3_offAndThere 22 = .ok (.iload_n 2, 1) := by decide +kernel
theorem dX3_offAndThere_23 : decode cX3_offAndThere 23 = .ok (.invokevirtual 47, 3) := by decide +kernel
theorem dX3_offAndThere_26 : decode cX3_offAndThere 26 = .ok (.ifCond .eq 17, 3) := by decide +kernel
theorem dX3_offAndThere_29 : decode cX3_offAndThere 29 = .ok (.aload_n 0, 1) := by decide +kernel
theorem dX3_offAndThere_30 : decode cX3_offAndThere 30 = .ok (.iload_n 2, 1) := by decide +kernel
theorem dX3_offAndThere_31 : decode cX3_offAndThere 31 = .ok (.invokevirtual 51, 3) := by decide +kernel
theorem dX3_offAndThere_34 : decode cX3_offAndThere 34 = .ok (.ifCond .eq 9, 3) := by decide +kernel
theorem dX3_offAndThere_37 : decode cX3_offAndThere 37 = .ok (.iload_n 1, 1) := by decide +kernel
theorem dX3_offAndThere_38 : decode cX3_offAndThere 38 = .ok (.iconst 1, 1) := by decide +kernel
theorem dX3_offAndThere_39 : decode cX3_offAndThere 39 = .ok (.iload_n 2, 1) := by decide +kernel
theorem dX3_offAndThere_40 : decode cX3_offAndThere 40 = .ok (.ishl, 1) := by decide +kernel
theorem dX3_offAndThere_41 : decode cX3_offAndThere 41 = .ok (.ior, 1) := by decide +kernel
theorem dX3_offAndThere_42 : decode cX3_offAndThere 42 = .ok (.istore_n 1, 1) := by decide +kernel
theorem dX3_offAndThere_43 : decode cX3_offAndThere 43 = .ok (.iinc 2 1, 3) := by decide +kernel
theorem dX3_offAndThere_46 : decode cX3_offAndThere 46 = .ok (.goto (-42), 3) := by decide +kernel
theorem dX3_offAndThere_49 : decode cX3_offAndThere 49 = .ok (.iload_n 1, 1) := by decide +kernel
theorem dX3_offAndThere_50 : decode cX3_offAndThere 50 = .ok (.ireturn, 1) := by decide +kernel
theorem dX3_ageBehind_0 : decode cX3_ageBehind 0 = .ok (.aload_n 0, 1) := by decide +kernel
theorem dX3_ageBehind_1 : decode cX3_ageBehind 1 = .ok (.iload_n 1, 1) := by decide +kernel
theorem dX3_ageBehind_2 : decode cX3_ageBehind 2 = .ok (.aload_n 0, 1) := by decide +kernel
theorem dX3_ageBehind_3 : decode cX3_ageBehind 3 = .ok (.getfield 15, 3) := by decide +kernel
theorem dX3_ageBehind_6 : decode cX3_ageBehind 6 = .ok (.iload_n 1, 1) := by decide +kernel
theorem dX3_ageBehind_7 : decode cX3_ageBehind 7 = .ok (.invokevirtual 31, 3) := by decide +kernel
theorem dX3_ageBehind_10 : decode cX3_ageBehind 10 = .ok (.aload_n 0, 1) := by decide +kernel
theorem dX3_ageBehind_11 : decode cX3_ageBehind 11 = .ok (.getfield 15, 3) := by decide +kernel
theorem dX3_ageBehind_14 : decode cX3_ageBehind 14 = .ok (.iload_n 1, 1) := by decide +kernel
theorem dX3_ageBehind_15 : decode cX3_ageBehind 15 = .ok (.invokevirtual 54, 3) := by decide +kernel
theorem dX3_ageBehind_18 : decode cX3_ageBehind 18 = .ok (.iload_n 2, 1) := by decide +kernel
theorem dX3_ageBehind_19 : decode cX3_ageBehind 19 = .ok (.invokevirtual 57, 3) := by decide +kernel
theorem dX3_ageBehind_22 : decode cX3_ageBehind 22 = .ok (.ireturn, 1) := by decide +kernel
theorem dX3_ageAs_0 : decode cX3_ageAs 0 = .ok (.aload_n 0, 1) := by decide +kernel
theorem dX3_ageAs_1 : decode cX3_ageAs 1 = .ok (.getfield 15, 3) := by decide +kernel
theorem dX3_ageAs_4 : decode cX3_ageAs 4 = .ok (.iload_n 1, 1) := by decide +kernel
theorem dX3_ageAs_5 : decode cX3_ageAs 5 = .ok (.invokevirtual 41, 3) := by decide +kernel
theorem dX3_ageAs_8 : decode cX3_ageAs 8 = .ok (.iload_n 2, 1) := by decide +kernel
theorem dX3_ageAs_9 : decode cX3_ageAs 9 = .ok (.iload 4, 2) := by decide +kernel
theorem dX3_ageAs_11 : decode cX3_ageAs 11 = .ok (.aload_n 0, 1) := by decide +kernel
theorem dX3_ageAs_12 : decode cX3_ageAs 12 = .ok (.getfield 9, 3) := by decide +kernel
theorem dX3_ageAs_15 : decode cX3_ageAs 15 = .ok (.getfield 61, 3) := by decide +kernel
theorem dX3_ageAs_18 : decode cX3_ageAs 18 = .ok (.iload_n 3, 1) := by decide +kernel
theorem dX3_ageAs_19 : decode cX3_ageAs 19 = .ok (.aload_n 0, 1) := by decide +kernel
theorem dX3_ageAs_20 : decode cX3_ageAs 20 = .ok (.getfield 15, 3) := by decide +kernel
theorem dX3_ageAs_23 : decode cX3_ageAs 23 = .ok (.getfield 65, 3) := by decide +kernel
theorem dX3_ageAs_26 : decode cX3_ageAs 26 = .ok (.iload 4, 2) := by decide +kernel
theorem dX3_ageAs_28 : decode cX3_ageAs 28 = .ok (.invokevirtual 68, 3) := by decide +kernel
theorem dX3_ageAs_31 : decode cX3_ageAs 31 = .ok (.invokestatic 74, 3) := by decide +kernel
theorem dX3_ageAs_34 : decode cX3_ageAs 34 = .ok (.iadd, 1) := by decide +kernel
theorem dX3_ageAs_35 : decode cX3_ageAs 35 = .ok (.ireturn, 1) := by decide +kernel
theorem dX3_coinLostAs_0 : decode cX3_coinLostAs 0 = .ok (.aload_n 0, 1) := by decide +kernel
theorem dX3_coinLostAs_1 : decode cX3_coinLostAs 1 = .ok (.iload_n 1, 1) := by decide +kernel
theorem dX3_coinLostAs_2 : decode cX3_coinLostAs 2 = .ok (.iload_n 2, 1) := by decide +kernel
theorem dX3_coinLostAs_3 : decode cX3_coinLostAs 3 = .ok (.iload_n 3, 1) := by decide +kernel
theorem dX3_coinLostAs_4 : decode cX3_coinLostAs 4 = .ok (.iload 4, 2) := by decide +kernel
theorem dX3_coinLostAs_6 : decode cX3_coinLostAs 6 = .ok (.invokevirtual 57, 3) := by decide +kernel
theorem dX3_coinLostAs_9 : decode cX3_coinLostAs 9 = .ok (.aload_n 0, 1) := by decide +kernel
theorem dX3_coinLostAs_10 : decode cX3_coinLostAs 10 = .ok (.getfield 9, 3) := by decide +kernel
theorem dX3_coinLostAs_13 : decode cX3_coinLostAs 13 = .ok (.getfield 19, 3) := by decide +kernel
theorem dX3_coinLostAs_16 : decode cX3_coinLostAs 16 = .ok (.iload_n 1, 1) := by decide +kernel
theorem dX3_coinLostAs_17 : decode cX3_coinLostAs 17 = .ok (.iload_n 2, 1) := by decide +kernel
theorem dX3_coinLostAs_18 : decode cX3_coinLostAs 18 = .ok (.invokevirtual 37, 3) := by decide +kernel
theorem dX3_coinLostAs_21 : decode cX3_coinLostAs 21 = .ok (.if_icmp .lt 17, 3) := by decide +kernel
theorem dX3_coinLostAs_24 : decode cX3_coinLostAs 24 = .ok (.aload_n 0, 1) := by decide +kernel
theorem dX3_coinLostAs_25 : decode cX3_coinLostAs 25 = .ok (.getfield 9, 3) := by decide +kernel
theorem dX3_coinLostAs_28 : decode cX3_coinLostAs 28 = .ok (.getfield 19, 3) := by decide +kernel
theorem dX3_coinLostAs_31 : decode cX3_coinLostAs 31 = .ok (.iload_n 1, 1) := by decide +kernel
theorem dX3_coinLostAs_32 : decode cX3_coinLostAs 32 = .ok (.invokevirtual 77, 3) := by decide +kernel
theorem dX3_coinLostAs_35 : decode cX3_coinLostAs 35 = .ok (.goto 4, 3) := by decide +kernel
theorem dX3_coinLostAs_38 : decode cX3_coinLostAs 38 = .ok (.iconst 0, 1) := by decide +kernel
theorem dX3_coinLostAs_39 : decode cX3_coinLostAs 39 = .ok (.ireturn, 1) := by decide +kernel
theorem dX3_letHoursGoBy_0 : decode cX3_letHoursGoBy 0 = .ok (.iconst 0, 1) := by decide +kernel
theorem dX3_letHoursGoBy_1 : decode cX3_letHoursGoBy 1 = .ok (.istore_n 2, 1) := by decide +kernel
theorem dX3_letHoursGoBy_2 : decode cX3_letHoursGoBy 2 = .ok (.iload_n 2, 1) := by decide +kernel
theorem dX3_letHoursGoBy_3 : decode cX3_letHoursGoBy 3 = .ok (.aload_n 0, 1) := by decide +kernel
theorem dX3_letHoursGoBy_4 : decode cX3_letHoursGoBy 4 = .ok (.getfield 9, 3) := by decide +kernel
theorem dX3_letHoursGoBy_7 : decode cX3_letHoursGoBy 7 = .ok (.getfield 19, 3) := by decide +kernel
theorem dX3_letHoursGoBy_10 : decode cX3_letHoursGoBy 10 = .ok (.getfield 25, 3) := by decide +kernel
theorem dX3_letHoursGoBy_13 : decode cX3_letHoursGoBy 13 = .ok (.if_icmp .ge 34, 3) := by decide +kernel
theorem dX3_letHoursGoBy_16 : decode cX3_letHoursGoBy 16 = .ok (.aload_n 0, 1) := by decide +kernel
theorem dX3_letHoursGoBy_17 : decode cX3_letHoursGoBy 17 = .ok (.getfield 15, 3) := by decide +kernel
theorem dX3_letHoursGoBy_20 : decode cX3_letHoursGoBy 20 = .ok (.iload_n 2, 1) := by decide +kernel
theorem dX3_letHoursGoBy_21 : decode cX3_letHoursGoBy 21 = .ok (.invokevirtual 47, 3) := by decide +kernel
theorem dX3_letHoursGoBy_24 : decode cX3_letHoursGoBy 24 = .ok (.ifCond .eq 17, 3) := by decide +kernel
theorem dX3_letHoursGoBy_27 : decode cX3_letHoursGoBy 27 = .ok (.aload_n 0, 1) := by decide +kernel
theorem dX3_letHoursGoBy_28 : decode cX3_letHoursGoBy 28 = .ok (.getfield 15, 3) := by decide +kernel
theorem dX3_letHoursGoBy_31 : decode cX3_letHoursGoBy 31 = .ok (.iload_n 2, 1) := by decide +kernel
theorem dX3_letHoursGoBy_32 : decode cX3_letHoursGoBy 32 = .ok (.aload_n 0, 1) := by decide +kernel
theorem dX3_letHoursGoBy_33 : decode cX3_letHoursGoBy 33 = .ok (.iload_n 2, 1) := by decide +kernel
theorem dX3_letHoursGoBy_34 : decode cX3_letHoursGoBy 34 = .ok (.iload_n 1, 1) := by decide +kernel
theorem dX3_letHoursGoBy_35 : decode cX3_letHoursGoBy 35 = .ok (.invokevirtual 80, 3) := by decide +kernel
theorem dX3_letHoursGoBy_38 : decode cX3_letHoursGoBy 38 = .ok (.invokevirtual 83, 3) := by decide +kernel
theorem dX3_letHoursGoBy_41 : decode cX3_letHoursGoBy 41 = .ok (.iinc 2 1, 3) := by decide +kernel
theorem dX3_letHoursGoBy_44 : decode cX3_letHoursGoBy 44 = .ok (.goto (-42), 3) := by decide +kernel
theorem dX3_letHoursGoBy_47 : decode cX3_letHoursGoBy 47 = .ok (.aload_n 0, 1) := by decide +kernel
theorem dX3_letHoursGoBy_48 : decode cX3_letHoursGoBy 48 = .ok (.getfield 15, 3) := by decide +kernel
theorem dX3_letHoursGoBy_51 : decode cX3_letHoursGoBy 51 = .ok (.dup, 1) := by decide +kernel
theorem dX3_letHoursGoBy_52 : decode cX3_letHoursGoBy 52 = .ok (.getfield 65, 3) := by decide +kernel
theorem dX3_letHoursGoBy_55 : decode cX3_letHoursGoBy 55 = .ok (.iload_n 1, 1) := by decide +kernel
theorem dX3_letHoursGoBy_56 : decode cX3_letHoursGoBy 56 = .ok (.iadd, 1) := by decide +kernel
theorem dX3_letHoursGoBy_57 : decode cX3_letHoursGoBy 57 = .ok (.putfield 65, 3) := by decide +kernel
theorem dX3_letHoursGoBy_60 : decode cX3_letHoursGoBy 60 = .ok (.return_, 1) := by decide +kernel
theorem dX3_hoursTillOff_0 : decode cX3_hoursTillOff 0 = .ok (.aload_n 0, 1) := by decide +kernel
theorem dX3_hoursTillOff_1 : decode cX3_hoursTillOff 1 = .ok (.getfield 15, 3) := by decide +kernel
theorem dX3_hoursTillOff_4 : decode cX3_hoursTillOff 4 = .ok (.iload_n 1, 1) := by decide +kernel
theorem dX3_hoursTillOff_5 : decode cX3_hoursTillOff 5 = .ok (.invokevirtual 31, 3) := by decide +kernel
theorem dX3_hoursTillOff_8 : decode cX3_hoursTillOff 8 = .ok (.istore_n 3, 1) := by decide +kernel
theorem dX3_hoursTillOff_9 : decode cX3_hoursTillOff 9 = .ok (.aload_n 0, 1) := by decide +kernel
theorem dX3_hoursTillOff_10 : decode cX3_hoursTillOff 10 = .ok (.iload_n 1, 1) := by decide +kernel
theorem dX3_hoursTillOff_11 : decode cX3_hoursTillOff 11 = .ok (.invokevirtual 44, 3) := by decide +kernel
theorem dX3_hoursTillOff_14 : decode cX3_hoursTillOff 14 = .ok (.aload_n 0, 1) := by decide +kernel
theorem dX3_hoursTillOff_15 : decode cX3_hoursTillOff 15 = .ok (.getfield 15, 3) := by decide +kernel
theorem dX3_hoursTillOff_18 : decode cX3_hoursTillOff 18 = .ok (.iload_n 1, 1) := by decide +kernel
theorem dX3_hoursTillOff_19 : decode cX3_hoursTillOff 19 = .ok (.invokevirtual 41, 3) := by decide +kernel
theorem dX3_hoursTillOff_22 : decode cX3_hoursTillOff 22 = .ok (.isub, 1) := by decide +kernel
theorem dX3_hoursTillOff_23 : decode cX3_hoursTillOff 23 = .ok (.istore 4, 2) := by decide +kernel
theorem dX3_hoursTillOff_25 : decode cX3_hoursTillOff 25 = .ok (.iload 4, 2) := by decide +kernel
theorem dX3_hoursTillOff_27 : decode cX3_hoursTillOff 27 = .ok (.ifCond .gt 5, 3) := by decide +kernel
theorem dX3_hoursTillOff_30 : decode cX3_hoursTillOff 30 = .ok (.iconst 0, 1) := by decide +kernel
theorem dX3_hoursTillOff_31 : decode cX3_hoursTillOff 31 = .ok (.ireturn, 1) := by decide +kernel
theorem dX3_hoursTillOff_32 : decode cX3_hoursTillOff 32 = .ok (.iload_n 3, 1) := by decide +kernel
theorem dX3_hoursTillOff_33 : decode cX3_hoursTillOff 33 = .ok (.bipush 24, 2) := by decide +kernel
theorem dX3_hoursTillOff_35 : decode cX3_hoursTillOff 35 = .ok (.aload_n 0, 1) := by decide +kernel
theorem dX3_hoursTillOff_36 : decode cX3_hoursTillOff 36 = .ok (.getfield 9, 3) := by decide +kernel
theorem dX3_hoursTillOff_39 : decode cX3_hoursTillOff 39 = .ok (.getfield 61, 3) := by decide +kernel
theorem dX3_hoursTillOff_42 : decode cX3_hoursTillOff 42 = .ok (.iload_n 2, 1) := by decide +kernel
theorem dX3_hoursTillOff_43 : decode cX3_hoursTillOff 43 = .ok (.aload_n 0, 1) := by decide +kernel
theorem dX3_hoursTillOff_44 : decode cX3_hoursTillOff 44 = .ok (.getfield 15, 3) := by decide +kernel
theorem dX3_hoursTillOff_47 : decode cX3_hoursTillOff 47 = .ok (.getfield 65, 3) := by decide +kernel
theorem dX3_hoursTillOff_50 : decode cX3_hoursTillOff 50 = .ok (.bipush 24, 2) := by decide +kernel
theorem dX3_hoursTillOff_52 : decode cX3_hoursTillOff 52 = .ok (.invokevirtual 68, 3) := by decide +kernel
theorem dX3_hoursTillOff_55 : decode cX3_hoursTillOff 55 = .ok (.invokestatic 74, 3) := by decide +kernel
theorem dX3_hoursTillOff_58 : decode cX3_hoursTillOff 58 = .ok (.istore 5, 2) := by decide +kernel
theorem dX3_hoursTillOff_60 : decode cX3_hoursTillOff 60 = .ok (.iload 5, 2) := by decide +kernel
theorem dX3_hoursTillOff_62 : decode cX3_hoursTillOff 62 = .ok (.ifCond .le 13, 3) := by decide +kernel
theorem dX3_hoursTillOff_65 : decode cX3_hoursTillOff 65 = .ok (.iload 4, 2) := by decide +kernel
theorem dX3_hoursTillOff_67 : decode cX3_hoursTillOff 67 = .ok (.iconst 1, 1) := by decide +kernel
theorem dX3_hoursTillOff_68 : decode cX3_hoursTillOff 68 = .ok (.isub, 1) := by decide +kernel
theorem dX3_hoursTillOff_69 : decode cX3_hoursTillOff 69 = .ok (.iload 5, 2) := by decide +kernel
theorem dX3_hoursTillOff_71 : decode cX3_hoursTillOff 71 = .ok (.idiv, 1) := by decide +kernel
theorem dX3_hoursTillOff_72 : decode cX3_hoursTillOff 72 = .ok (.goto 4, 3) := by decide +kernel
theorem dX3_hoursTillOff_75 : decode cX3_hoursTillOff 75 = .ok (.iconst 0, 1) := by decide +kernel
theorem dX3_hoursTillOff_76 : decode cX3_hoursTillOff 76 = .ok (.istore 6, 2) := by decide +kernel
theorem dX3_hoursTillOff_78 : decode cX3_hoursTillOff 78 = .ok (.iload 6, 2) := by decide +kernel
theorem dX3_hoursTillOff_80 : decode cX3_hoursTillOff 80 = .ok (.bipush 24, 2) := by decide +kernel
theorem dX3_hoursTillOff_82 : decode cX3_hoursTillOff 82 = .ok (.imul, 1) := by decide +kernel
theorem dX3_hoursTillOff_83 : decode cX3_hoursTillOff 83 = .ok (.istore 7, 2) := by decide +kernel
theorem dX3_hoursTillOff_85 : decode cX3_hoursTillOff 85 = .ok (.iload 4, 2) := by decide +kernel
theorem dX3_hoursTillOff_87 : decode cX3_hoursTillOff 87 = .ok (.iload 6, 2) := by decide +kernel
theorem dX3_hoursTillOff_89 : decode cX3_hoursTillOff 89 = .ok (.iload 5, 2) := by decide +kernel
theorem dX3_hoursTillOff_91 : decode cX3_hoursTillOff 91 = .ok (.imul, 1) := by decide +kernel
theorem dX3_hoursTillOff_92 : decode cX3_hoursTillOff 92 = .ok (.isub, 1) := by decide +kernel
theorem dX3_hoursTillOff_93 : decode cX3_hoursTillOff 93 = .ok (.istore 4, 2) := by decide +kernel
theorem dX3_hoursTillOff_95 : decode cX3_hoursTillOff 95 = .ok (.iconst 0, 1) := by decide +kernel
theorem dX3_hoursTillOff_96 : decode cX3_hoursTillOff 96 = .ok (.istore 8, 2) := by decide +kernel
theorem dX3_hoursTillOff_98 : decode cX3_hoursTillOff 98 = .ok (.iload 8, 2) := by decide +kernel
theorem dX3_hoursTillOff_100 : decode cX3_hoursTillOff 100 = .ok (.bipush 24, 2) := by decide +kernel
theorem dX3_hoursTillOff_102 : decode cX3_hoursTillOff 102 = .ok (.if_icmp .ge 48, 3) := by decide +kernel
theorem dX3_hoursTillOff_105 : decode cX3_hoursTillOff 105 = .ok (.iload 4, 2) := by decide +kernel
theorem dX3_hoursTillOff_107 : decode cX3_hoursTillOff 107 = .ok (.ifCond .le 43, 3) := by decide +kernel
theorem dX3_hoursTillOff_110 : decode cX3_hoursTillOff 110 = .ok (.iload 4, 2) := by decide +kernel
theorem dX3_hoursTillOff_112 : decode cX3_hoursTillOff 112 = .ok (.iload_n 3, 1) := by decide +kernel
theorem dX3_hoursTillOff_113 : decode cX3_hoursTillOff 113 = .ok (.iconst 1, 1) := by decide +kernel
theorem dX3_hoursTillOff_114 : decode cX3_hoursTillOff 114 = .ok (.aload_n 0, 1) := by decide +kernel
theorem dX3_hoursTillOff_115 : decode cX3_hoursTillOff 115 = .ok (.getfield 9, 3) := by decide +kernel
theorem dX3_hoursTillOff_118 : decode cX3_hoursTillOff 118 = .ok (.getfield 61, 3) := by decide +kernel
theorem dX3_hoursTillOff_121 : decode cX3_hoursTillOff 121 = .ok (.iload_n 2, 1) := by decide +kernel
theorem dX3_hoursTillOff_122 : decode cX3_hoursTillOff 122 = .ok (.aload_n 0, 1) := by decide +kernel
theorem dX3_hoursTillOff_123 : decode cX3_hoursTillOff 123 = .ok (.getfield 15, 3) := by decide +kernel
theorem dX3_hoursTillOff_126 : decode cX3_hoursTillOff 126 = .ok (.getfield 65, 3) := by decide +kernel
theorem dX3_hoursTillOff_129 : decode cX3_hoursTillOff 129 = .ok (.iload 8, 2) := by decide +kernel
theorem dX3_hoursTillOff_131 : decode cX3_hoursTillOff 131 = .ok (.iadd, 1) := by decide +kernel
theorem dX3_hoursTillOff_132 : decode cX3_hoursTillOff 132 = .ok (.invokevirtual 87, 3) := by decide +kernel
theorem dX3_hoursTillOff_135 : decode cX3_hoursTillOff 135 = .ok (.invokestatic 74, 3) := by decide +kernel
theorem dX3_hoursTillOff_138 : decode cX3_hoursTillOff 138 = .ok (.isub, 1) := by decide +kernel
theorem dX3_hoursTillOff_139 : decode cX3_hoursTillOff 139 = .ok (.istore 4, 2) := by decide +kernel
theorem dX3_hoursTillOff_141 : decode cX3_hoursTillOff 141 = .ok (.iinc 7 1, 3) := by decide +kernel
theorem dX3_hoursTillOff_144 : decode cX3_hoursTillOff 144 = .ok (.iinc 8 1, 3) := by decide +kernel
theorem dX3_hoursTillOff_147 : decode cX3_hoursTillOff 147 = .ok (.goto (-49), 3) := by decide +kernel
theorem dX3_hoursTillOff_150 : decode cX3_hoursTillOff 150 = .ok (.iload 7, 2) := by decide +kernel
theorem dX3_hoursTillOff_152 : decode cX3_hoursTillOff 152 = .ok (.sipush 5000, 3) := by decide +kernel
theorem dX3_hoursTillOff_155 : decode cX3_hoursTillOff 155 = .ok (.if_icmp .gt 8, 3) := by decide +kernel
theorem dX3_hoursTillOff_158 : decode cX3_hoursTillOff 158 = .ok (.iload 7, 2) := by decide +kernel
theorem dX3_hoursTillOff_160 : decode cX3_hoursTillOff 160 = .ok (.goto 5, 3) := by decide +kernel
theorem dX3_hoursTillOff_163 : decode cX3_hoursTillOff 163 = .ok (.bipush (-4), 2) := by decide +kernel
theorem dX3_hoursTillOff_165 : decode cX3_hoursTillOff 165 = .ok (.ireturn, 1) := by decide +kernel
theorem dX3_lostBehind_0 : decode cX3_lostBehind 0 = .ok (.iconst 0, 1) := by decide +kernel
theorem dX3_lostBehind_1 : decode cX3_lostBehind 1 = .ok (.istore_n 2, 1) := by decide +kernel
theorem dX3_lostBehind_2 : decode cX3_lostBehind 2 = .ok (.iconst 0, 1) := by decide +kernel
theorem dX3_lostBehind_3 : decode cX3_lostBehind 3 = .ok (.istore_n 3, 1) := by decide +kernel
theorem dX3_lostBehind_4 : decode cX3_lostBehind 4 = .ok (.iload_n 3, 1) := by decide +kernel
theorem dX3_lostBehind_5 : decode cX3_lostBehind 5 = .ok (.aload_n 0, 1) := by decide +kernel
theorem dX3_lostBehind_6 : decode cX3_lostBehind 6 = .ok (.getfield 9, 3) := by decide +kernel
theorem dX3_lostBehind_9 : decode cX3_lostBehind 9 = .ok (.getfield 19, 3) := by decide +kernel
theorem dX3_lostBehind_12 : decode cX3_lostBehind 12 = .ok (.getfield 25, 3) := by decide +kernel
theorem dX3_lostBehind_15 : decode cX3_lostBehind 15 = .ok (.if_icmp .ge 45, 3) := by decide +kernel
theorem dX3_lostBehind_18 : decode cX3_lostBehind 18 = .ok (.aload_n 0, 1) := by decide +kernel
theorem dX3_lostBehind_19 : decode cX3_lostBehind 19 = .ok (.getfield 15, 3) := by decide +kernel
theorem dX3_lostBehind_22 : decode cX3_lostBehind 22 = .ok (.iload_n 3, 1) := by decide +kernel
theorem dX3_lostBehind_23 : decode cX3_lostBehind 23 = .ok (.invokevirtual 47, 3) := by decide +kernel
theorem dX3_lostBehind_26 : decode cX3_lostBehind 26 = .ok (.ifCond .eq 28, 3) := by decide +kernel
theorem dX3_lostBehind_29 : decode cX3_lostBehind 29 = .ok (.iload_n 2, 1) := by decide +kernel
theorem dX3_lostBehind_30 : decode cX3_lostBehind 30 = .ok (.aload_n 0, 1) := by decide +kernel
theorem dX3_lostBehind_31 : decode cX3_lostBehind 31 = .ok (.iload_n 3, 1) := by decide +kernel
theorem dX3_lostBehind_32 : decode cX3_lostBehind 32 = .ok (.aload_n 0, 1) := by decide +kernel
theorem dX3_lostBehind_33 : decode cX3_lostBehind 33 = .ok (.getfield 15, 3) := by decide +kernel
theorem dX3_lostBehind_36 : decode cX3_lostBehind 36 = .ok (.iload_n 3, 1) := by decide +kernel
theorem dX3_lostBehind_37 : decode cX3_lostBehind 37 = .ok (.invokevirtual 31, 3) := by decide +kernel
theorem dX3_lostBehind_40 : decode cX3_lostBehind 40 = .ok (.aload_n 0, 1) := by decide +kernel
theorem dX3_lostBehind_41 : decode cX3_lostBehind 41 = .ok (.getfield 15, 3) := by decide +kernel
theorem dX3_lostBehind_44 : decode cX3_lostBehind 44 = .ok (.iload_n 3, 1) := by decide +kernel
theorem dX3_lostBehind_45 : decode cX3_lostBehind 45 = .ok (.invokevirtual 54, 3) := by decide +kernel
theorem dX3_lostBehind_48 : decode cX3_lostBehind 48 = .ok (.iload_n 1, 1) := by decide +kernel
theorem dX3_lostBehind_49 : decode cX3_lostBehind 49 = .ok (.invokevirtual 90, 3) := by decide +kernel
theorem dX3_lostBehind_52 : decode cX3_lostBehind 52 = .ok (.iadd, 1) := by decide +kernel
theorem dX3_lostBehind_53 : decode cX3_lostBehind 53 = .ok (.istore_n 2, 1) := by decide +kernel
theorem dX3_lostBehind_54 : decode cX3_lostBehind 54 = .ok (.iinc 3 1, 3) := by decide +kernel
theorem dX3_lostBehind_57 : decode cX3_lostBehind 57 = .ok (.goto (-53), 3) := by decide +kernel
theorem dX3_lostBehind_60 : decode cX3_lostBehind 60 = .ok (.iload_n 2, 1) := by decide +kernel
theorem dX3_lostBehind_61 : decode cX3_lostBehind 61 = .ok (.ireturn, 1) := by decide +kernel
theorem dX3_lostIfFrozen_0 : decode cX3_lostIfFrozen 0 = .ok (.aload_n 0, 1) := by decide +kernel
theorem dX3_lostIfFrozen_1 : decode cX3_lostIfFrozen 1 = .ok (.getfield 15, 3) := by decide +kernel
theorem dX3_lostIfFrozen_4 : decode cX3_lostIfFrozen 4 = .ok (.iload_n 1, 1) := by decide +kernel
theorem dX3_lostIfFrozen_5 : decode cX3_lostIfFrozen 5 = .ok (.invokevirtual 54, 3) := by decide +kernel
theorem dX3_lostIfFrozen_8 : decode cX3_lostIfFrozen 8 = .ok (.istore_n 3, 1) := by decide +kernel
theorem dX3_lostIfFrozen_9 : decode cX3_lostIfFrozen 9 = .ok (.aload_n 0, 1) := by decide +kernel
theorem dX3_lostIfFrozen_10 : decode cX3_lostIfFrozen 10 = .ok (.iload_n 1, 1) := by decide +kernel
theorem dX3_lostIfFrozen_11 : decode cX3_lostIfFrozen 11 = .ok (.aload_n 0, 1) := by decide +kernel
theorem dX3_lostIfFrozen_12 : decode cX3_lostIfFrozen 12 = .ok (.getfield 15, 3) := by decide +kernel
theorem dX3_lostIfFrozen_15 : decode cX3_lostIfFrozen 15 = .ok (.iload_n 1, 1) := by decide +kernel
theorem dX3_lostIfFrozen_16 : decode cX3_lostIfFrozen 16 = .ok (.invokevirtual 31, 3) := by decide +kernel
theorem dX3_lostIfFrozen_19 : decode cX3_lostIfFrozen 19 = .ok (.iload_n 3, 1) := by decide +kernel
theorem dX3_lostIfFrozen_20 : decode cX3_lostIfFrozen 20 = .ok (.iload_n 2, 1) := by decide +kernel
theorem dX3_lostIfFrozen_21 : decode cX3_lostIfFrozen 21 = .ok (.invokevirtual 90, 3) := by decide +kernel
theorem dX3_lostIfFrozen_24 : decode cX3_lostIfFrozen 24 = .ok (.istore 4, 2) := by decide +kernel
theorem dX3_lostIfFrozen_26 : decode cX3_lostIfFrozen 26 = .ok (.aload_n 0, 1) := by decide +kernel
theorem dX3_lostIfFrozen_27 : decode cX3_lostIfFrozen 27 = .ok (.iload_n 2, 1) := by decide +kernel
theorem dX3_lostIfFrozen_28 : decode cX3_lostIfFrozen 28 = .ok (.invokevirtual 93, 3) := by decide +kernel
theorem dX3_lostIfFrozen_31 : decode cX3_lostIfFrozen 31 = .ok (.iload 4, 2) := by decide +kernel
theorem dX3_lostIfFrozen_33 : decode cX3_lostIfFrozen 33 = .ok (.isub, 1) := by decide +kernel
theorem dX3_lostIfFrozen_34 : decode cX3_lostIfFrozen 34 = .ok (.aload_n 0, 1) := by decide +kernel
theorem dX3_lostIfFrozen_35 : decode cX3_lostIfFrozen 35 = .ok (.iload_n 1, 1) := by decide +kernel
theorem dX3_lostIfFrozen_36 : decode cX3_lostIfFrozen 36 = .ok (.iconst 3, 1) := by decide +kernel
theorem dX3_lostIfFrozen_37 : decode cX3_lostIfFrozen 37 = .ok (.iload_n 3, 1) := by decide +kernel
theorem dX3_lostIfFrozen_38 : decode cX3_lostIfFrozen 38 = .ok (.iload_n 2, 1) := by decide +kernel
theorem dX3_lostIfFrozen_39 : decode cX3_lostIfFrozen 39 = .ok (.invokevirtual 90, 3) := by decide +kernel
theorem dX3_lostIfFrozen_42 : decode cX3_lostIfFrozen 42 = .ok (.iadd, 1) := by decide +kernel
theorem dX3_lostIfFrozen_43 : decode cX3_lostIfFrozen 43 = .ok (.ireturn, 1) := by decide +kernel
theorem dX3_bestToFreeze_0 : decode cX3_bestToFreeze 0 = .ok (.bipush (-4), 2) := by decide +kernel
theorem dX3_bestToFreeze_2 : decode cX3_bestToFreeze 2 = .ok (.istore_n 2, 1) := by decide +kernel
theorem dX3_bestToFreeze_3 : decode cX3_bestToFreeze 3 = .ok (.aload_n 0, 1) := by decide +kernel
theorem dX3_bestToFreeze_4 : decode cX3_bestToFreeze 4 = .ok (.iload_n 1, 1) := by decide +kernel
theorem dX3_bestToFreeze_5 : decode cX3_bestToFreeze 5 = .ok (.invokevirtual 93, 3) := by decide +kernel
theorem dX3_bestToFreeze_8 : decode cX3_bestToFreeze 8 = .ok (.istore_n 3, 1) := by decide +kernel
theorem dX3_bestToFreeze_9 : decode cX3_bestToFreeze 9 = .ok (.iconst 0, 1) := by decide +kernel
theorem dX3_bestToFreeze_10 : decode cX3_bestToFreeze 10 = .ok (.istore 4, 2) := by decide +kernel
theorem dX3_bestToFreeze_12 : decode cX3_bestToFreeze 12 = .ok (.iload 4, 2) := by decide +kernel
theorem dX3_bestToFreeze_14 : decode cX3_bestToFreeze 14 = .ok (.aload_n 0, 1) := by decide +kernel
theorem dX3_bestToFreeze_15 : decode cX3_bestToFreeze 15 = .ok (.getfield 9, 3) := by decide +kernel
theorem dX3_bestToFreeze_18 : decode cX3_bestToFreeze 18 = .ok (.getfield 19, 3) := by decide +kernel
theorem dX3_bestToFreeze_21 : decode cX3_bestToFreeze 21 = .ok (.getfield 25, 3) := by decide +kernel
theorem dX3_bestToFreeze_24 : decode cX3_bestToFreeze 24 = .ok (.if_icmp .ge 55, 3) := by decide +kernel
theorem dX3_bestToFreeze_27 : decode cX3_bestToFreeze 27 = .ok (.aload_n 0, 1) := by decide +kernel
theorem dX3_bestToFreeze_28 : decode cX3_bestToFreeze 28 = .ok (.getfield 15, 3) := by decide +kernel
theorem dX3_bestToFreeze_31 : decode cX3_bestToFreeze 31 = .ok (.iload 4, 2) := by decide +kernel
theorem dX3_bestToFreeze_33 : decode cX3_bestToFreeze 33 = .ok (.invokevirtual 47, 3) := by decide +kernel
theorem dX3_bestToFreeze_36 : decode cX3_bestToFreeze 36 = .ok (.ifCond .eq 37, 3) := by decide +kernel
theorem dX3_bestToFreeze_39 : decode cX3_bestToFreeze 39 = .ok (.aload_n 0, 1) := by decide +kernel
theorem dX3_bestToFreeze_40 : decode cX3_bestToFreeze 40 = .ok (.getfield 15, 3) := by decide +kernel
theorem dX3_bestToFreeze_43 : decode cX3_bestToFreeze 43 = .ok (.iload 4, 2) := by decide +kernel
theorem dX3_bestToFreeze_45 : decode cX3_bestToFreeze 45 = .ok (.invokevirtual 31, 3) := by decide +kernel
theorem dX3_bestToFreeze_48 : decode cX3_bestToFreeze 48 = .ok (.iconst 3, 1) := by decide +kernel
theorem dX3_bestToFreeze_49 : decode cX3_bestToFreeze 49 = .ok (.if_icmp .eq 24, 3) := by decide +kernel
theorem dX3_bestToFreeze_52 : decode cX3_bestToFreeze 52 = .ok (.aload_n 0, 1) := by decide +kernel
theorem dX3_bestToFreeze_53 : decode cX3_bestToFreeze 53 = .ok (.iload 4, 2) := by decide +kernel
theorem dX3_bestToFreeze_55 : decode cX3_bestToFreeze 55 = .ok (.iload_n 1, 1) := by decide +kernel
theorem dX3_bestToFreeze_56 : decode cX3_bestToFreeze 56 = .ok (.invokevirtual 96, 3) := by decide +kernel
theorem dX3_bestToFreeze_59 : decode cX3_bestToFreeze 59 = .ok (.istore 5, 2) := by decide +kernel
theorem dX3_bestToFreeze_61 : decode cX3_bestToFreeze 61 = .ok (.iload 5, 2) := by decide +kernel
theorem dX3_bestToFreeze_63 : decode cX3_bestToFreeze 63 = .ok (.iload_n 3, 1) := by decide +kernel
theorem dX3_bestToFreeze_64 : decode cX3_bestToFreeze 64 = .ok (.if_icmp .ge 9, 3) := by decide +kernel
theorem dX3_bestToFreeze_67 : decode cX3_bestToFreeze 67 = .ok (.iload 4, 2) := by decide +kernel
theorem dX3_bestToFreeze_69 : decode cX3_bestToFreeze 69 = .ok (.istore_n 2, 1) := by decide +kernel
theorem dX3_bestToFreeze_70 : decode cX3_bestToFreeze 70 = .ok (.iload 5, 2) := by decide +kernel
theorem dX3_bestToFreeze_72 : decode cX3_bestToFreeze 72 = .ok (.istore_n 3, 1) := by decide +kernel
theorem dX3_bestToFreeze_73 : decode cX3_bestToFreeze 73 = .ok (.iinc 4 1, 3) := by decide +kernel
theorem dX3_bestToFreeze_76 : decode cX3_bestToFreeze 76 = .ok (.goto (-64), 3) := by decide +kernel
theorem dX3_bestToFreeze_79 : decode cX3_bestToFreeze 79 = .ok (.iload_n 2, 1) := by decide +kernel
theorem dX3_bestToFreeze_80 : decode cX3_bestToFreeze 80 = .ok (.ireturn, 1) := by decide +kernel
theorem dX3_errorsByPrint_0 : decode cX3_errorsByPrint 0 = .ok (.aload_n 0, 1) := by decide +kernel
theorem dX3_errorsByPrint_1 : decode cX3_errorsByPrint 1 = .ok (.getfield 15, 3) := by decide +kernel
theorem dX3_errorsByPrint_4 : decode cX3_errorsByPrint 4 = .ok (.getfield 65, 3) := by decide +kernel
theorem dX3_errorsByPrint_7 : decode cX3_errorsByPrint 7 = .ok (.bipush 24, 2) := by decide +kernel
theorem dX3_errorsByPrint_9 : decode cX3_errorsByPrint 9 = .ok (.idiv, 1) := by decide +kernel
theorem dX3_errorsByPrint_10 : decode cX3_errorsByPrint 10 = .ok (.istore_n 2, 1) := by decide +kernel
theorem dX3_errorsByPrint_11 : decode cX3_errorsByPrint 11 = .ok (.iconst 0, 1) := by decide +kernel
theorem dX3_errorsByPrint_12 : decode cX3_errorsByPrint 12 = .ok (.istore_n 3, 1) := by decide +kernel
theorem dX3_errorsByPrint_13 : decode cX3_errorsByPrint 13 = .ok (.iconst 0, 1) := by decide +kernel
theorem dX3_errorsByPrint_14 : decode cX3_errorsByPrint 14 = .ok (.istore 4, 2) := by decide +kernel
theorem dX3_errorsByPrint_16 : decode cX3_errorsByPrint 16 = .ok (.iload 4, 2) := by decide +kernel
theorem dX3_errorsByPrint_18 : decode cX3_errorsByPrint 18 = .ok (.aload_n 0, 1) := by decide +kernel
theorem dX3_errorsByPrint_19 : decode cX3_errorsByPrint 19 = .ok (.getfield 9, 3) := by decide +kernel
theorem dX3_errorsByPrint_22 : decode cX3_errorsByPrint 22 = .ok (.getfield 19, 3) := by decide +kernel
theorem dX3_errorsByPrint_25 : decode cX3_errorsByPrint 25 = .ok (.getfield 25, 3) := by decide +kernel
theorem dX3_errorsByPrint_28 : decode cX3_errorsByPrint 28 = .ok (.if_icmp .ge 63, 3) := by decide +kernel
theorem dX3_errorsByPrint_31 : decode cX3_errorsByPrint 31 = .ok (.iload_n 2, 1) := by decide +kernel
theorem dX3_errorsByPrint_32 : decode cX3_errorsByPrint 32 = .ok (.aload_n 0, 1) := by decide +kernel
theorem dX3_errorsByPrint_33 : decode cX3_errorsByPrint 33 = .ok (.getfield 9, 3) := by decide +kernel
theorem dX3_errorsByPrint_36 : decode cX3_errorsByPrint 36 = .ok (.getfield 19, 3) := by decide +kernel
theorem dX3_errorsByPrint_39 : decode cX3_errorsByPrint 39 = .ok (.iload 4, 2) := by decide +kernel
theorem dX3_errorsByPrint_41 : decode cX3_errorsByPrint 41 = .ok (.invokevirtual 99, 3) := by decide +kernel
theorem dX3_errorsByPrint_44 : decode cX3_errorsByPrint 44 = .ok (.if_icmp .le 7, 3) := by decide +kernel
theorem dX3_errorsByPrint_47 : decode cX3_errorsByPrint 47 = .ok (.iconst 1, 1) := by decide +kernel
theorem dX3_errorsByPrint_48 : decode cX3_errorsByPrint 48 = .ok (.goto 4, 3) := by decide +kernel
theorem dX3_errorsByPrint_51 : decode cX3_errorsByPrint 51 = .ok (.iconst 0, 1) := by decide +kernel
theorem dX3_errorsByPrint_52 : decode cX3_errorsByPrint 52 = .ok (.istore 5, 2) := by decide +kernel
theorem dX3_errorsByPrint_54 : decode cX3_errorsByPrint 54 = .ok (.aload_n 0, 1) := by decide +kernel
theorem dX3_errorsByPrint_55 : decode cX3_errorsByPrint 55 = .ok (.getfield 15, 3) := by decide +kernel
theorem dX3_errorsByPrint_58 : decode cX3_errorsByPrint 58 = .ok (.iload 4, 2) := by decide +kernel
theorem dX3_errorsByPrint_60 : decode cX3_errorsByPrint 60 = .ok (.invokevirtual 47, 3) := by decide +kernel
theorem dX3_errorsByPrint_63 : decode cX3_errorsByPrint 63 = .ok (.ifCond .eq 22, 3) := by decide +kernel
theorem dX3_errorsByPrint_66 : decode cX3_errorsByPrint 66 = .ok (.aload_n 0, 1) := by decide +kernel
theorem dX3_errorsByPrint_67 : decode cX3_errorsByPrint 67 = .ok (.iload 4, 2) := by decide +kernel
theorem dX3_errorsByPrint_69 : decode cX3_errorsByPrint 69 = .ok (.invokevirtual 51, 3) := by decide +kernel
theorem dX3_errorsByPrint_72 : decode cX3_errorsByPrint 72 = .ok (.iload_n 1, 1) := by decide +kernel
theorem dX3_errorsByPrint_73 : decode cX3_errorsByPrint 73 = .ok (.if_icmp .ne 12, 3) := by decide +kernel
theorem dX3_errorsByPrint_76 : decode cX3_errorsByPrint 76 = .ok (.iload 5, 2) := by decide +kernel
theorem dX3_errorsByPrint_78 : decode cX3_errorsByPrint 78 = .ok (.iload_n 1, 1) := by decide +kernel
theorem dX3_errorsByPrint_79 : decode cX3_errorsByPrint 79 = .ok (.if_icmp .eq 6, 3) := by decide +kernel
theorem dX3_errorsByPrint_82 : decode cX3_errorsByPrint 82 = .ok (.iinc 3 1, 3) := by decide +kernel
theorem dX3_errorsByPrint_85 : decode cX3_errorsByPrint 85 = .ok (.iinc 4 1, 3) := by decide +kernel
theorem dX3_errorsByPrint_88 : decode cX3_errorsByPrint 88 = .ok (.goto (-72), 3) := by decide +kernel
theorem dX3_errorsByPrint_91 : decode cX3_errorsByPrint 91 = .ok (.iload_n 3, 1) := by decide +kernel
theorem dX3_errorsByPrint_92 : decode cX3_errorsByPrint 92 = .ok (.ireturn, 1) := by decide +kernel
theorem dX3_errorsBySmell_0 : decode cX3_errorsBySmell 0 = .ok (.iconst 0, 1) := by decide +kernel
theorem dX3_errorsBySmell_1 : decode cX3_errorsBySmell 1 = .ok (.istore_n 2, 1) := by decide +kernel
theorem dX3_errorsBySmell_2 : decode cX3_errorsBySmell 2 = .ok (.iconst 0, 1) := by decide +kernel
theorem dX3_errorsBySmell_3 : decode cX3_errorsBySmell 3 = .ok (.istore_n 3, 1) := by decide +kernel
theorem dX3_errorsBySmell_4 : decode cX3_errorsBySmell 4 = .ok (.iload_n 3, 1) := by decide +kernel
theorem dX3_errorsBySmell_5 : decode cX3_errorsBySmell 5 = .ok (.aload_n 0, 1) := by decide +kernel
theorem dX3_errorsBySmell_6 : decode cX3_errorsBySmell 6 = .ok (.getfield 9, 3) := by decide +kernel
theorem dX3_errorsBySmell_9 : decode cX3_errorsBySmell 9 = .ok (.getfield 19, 3) := by decide +kernel
theorem dX3_errorsBySmell_12 : decode cX3_errorsBySmell 12 = .ok (.getfield 25, 3) := by decide +kernel
theorem dX3_errorsBySmell_15 : decode cX3_errorsBySmell 15 = .ok (.if_icmp .ge 81, 3) := by decide +kernel
theorem dX3_errorsBySmell_18 : decode cX3_errorsBySmell 18 = .ok (.aload_n 0, 1) := by decide +kernel
theorem dX3_errorsBySmell_19 : decode cX3_errorsBySmell 19 = .ok (.getfield 15, 3) := by decide +kernel
theorem dX3_errorsBySmell_22 : decode cX3_errorsBySmell 22 = .ok (.iload_n 3, 1) := by decide +kernel
theorem dX3_errorsBySmell_23 : decode cX3_errorsBySmell 23 = .ok (.invokevirtual 47, 3) := by decide +kernel
theorem dX3_errorsBySmell_26 : decode cX3_errorsBySmell 26 = .ok (.ifCond .eq 64, 3) := by decide +kernel
theorem dX3_errorsBySmell_29 : decode cX3_errorsBySmell 29 = .ok (.bipush 10, 2) := by decide +kernel
theorem dX3_errorsBySmell_31 : decode cX3_errorsBySmell 31 = .ok (.aload_n 0, 1) := by decide +kernel
theorem dX3_errorsBySmell_32 : decode cX3_errorsBySmell 32 = .ok (.getfield 15, 3) := by decide +kernel
theorem dX3_errorsBySmell_35 : decode cX3_errorsBySmell 35 = .ok (.iload_n 3, 1) := by decide +kernel
theorem dX3_errorsBySmell_36 : decode cX3_errorsBySmell 36 = .ok (.invokevirtual 41, 3) := by decide +kernel
theorem dX3_errorsBySmell_39 : decode cX3_errorsBySmell 39 = .ok (.imul, 1) := by decide +kernel
theorem dX3_errorsBySmell_40 : decode cX3_errorsBySmell 40 = .ok (.iload_n 1, 1) := by decide +kernel
theorem dX3_errorsBySmell_41 : decode cX3_errorsBySmell 41 = .ok (.aload_n 0, 1) := by decide +kernel
theorem dX3_errorsBySmell_42 : decode cX3_errorsBySmell 42 = .ok (.iload_n 3, 1) := by decide +kernel
theorem dX3_errorsBySmell_43 : decode cX3_errorsBySmell 43 = .ok (.invokevirtual 44, 3) := by decide +kernel
theorem dX3_errorsBySmell_46 : decode cX3_errorsBySmell 46 = .ok (.imul, 1) := by decide +kernel
theorem dX3_errorsBySmell_47 : decode cX3_errorsBySmell 47 = .ok (.if_icmp .lt 7, 3) := by decide +kernel
theorem dX3_errorsBySmell_50 : decode cX3_errorsBySmell 50 = .ok (.iconst 1, 1) := by decide +kernel
theorem dX3_errorsBySmell_51 : decode cX3_errorsBySmell 51 = .ok (.goto 4, 3) := by decide +kernel
theorem dX3_errorsBySmell_54 : decode cX3_errorsBySmell 54 = .ok (.iconst 0, 1) := by decide +kernel
theorem dX3_errorsBySmell_55 : decode cX3_errorsBySmell 55 = .ok (.istore 4, 2) := by decide +kernel
theorem dX3_errorsBySmell_57 : decode cX3_errorsBySmell 57 = .ok (.iload_n 2, 1) := by decide +kernel
theorem dX3_errorsBySmell_58 : decode cX3_errorsBySmell 58 = .ok (.iload 4, 2) := by decide +kernel
theorem dX3_errorsBySmell_60 : decode cX3_errorsBySmell 60 = .ok (.aload_n 0, 1) := by decide +kernel
theorem dX3_errorsBySmell_61 : decode cX3_errorsBySmell 61 = .ok (.iload_n 3, 1) := by decide +kernel
theorem dX3_errorsBySmell_62 : decode cX3_errorsBySmell 62 = .ok (.invokevirtual 51, 3) := by decide +kernel
theorem dX3_errorsBySmell_65 : decode cX3_errorsBySmell 65 = .ok (.if_icmp .ne 13, 3) := by decide +kernel
theorem dX3_errorsBySmell_68 : decode cX3_errorsBySmell 68 = .ok (.aload_n 0, 1) := by decide +kernel
theorem dX3_errorsBySmell_69 : decode cX3_errorsBySmell 69 = .ok (.getfield 9, 3) := by decide +kernel
theorem dX3_errorsBySmell_72 : decode cX3_errorsBySmell 72 = .ok (.getfield 102, 3) := by decide +kernel
theorem dX3_errorsBySmell_75 : decode cX3_errorsBySmell 75 = .ok (.goto 13, 3) := by decide +kernel
theorem dX3_errorsBySmell_78 : decode cX3_errorsBySmell 78 = .ok (.bipush 10, 2) := by decide +kernel
theorem dX3_errorsBySmell_80 : decode cX3_errorsBySmell 80 = .ok (.aload_n 0, 1) := by decide +kernel
theorem dX3_errorsBySmell_81 : decode cX3_errorsBySmell 81 = .ok (.getfield 9, 3) := by decide +kernel
theorem dX3_errorsBySmell_84 : decode cX3_errorsBySmell 84 = .ok (.getfield 102, 3) := by decide +kernel
theorem dX3_errorsBySmell_87 : decode cX3_errorsBySmell 87 = .ok (.isub, 1) := by decide +kernel
theorem dX3_errorsBySmell_88 : decode cX3_errorsBySmell 88 = .ok (.iadd, 1) := by decide +kernel
theorem dX3_errorsBySmell_89 : decode cX3_errorsBySmell 89 = .ok (.istore_n 2, 1) := by decide +kernel
theorem dX3_errorsBySmell_90 : decode cX3_errorsBySmell 90 = .ok (.iinc 3 1, 3) := by decide +kernel
theorem dX3_errorsBySmell_93 : decode cX3_errorsBySmell 93 = .ok (.goto (-89), 3) := by decide +kernel
theorem dX3_errorsBySmell_96 : decode cX3_errorsBySmell 96 = .ok (.iload_n 2, 1) := by decide +kernel
theorem dX3_errorsBySmell_97 : decode cX3_errorsBySmell 97 = .ok (.ireturn, 1) := by decide +kernel
theorem dX3_bestLine_0 : decode cX3_bestLine 0 = .ok (.iconst 0, 1) := by decide +kernel
theorem dX3_bestLine_1 : decode cX3_bestLine 1 = .ok (.istore_n 1, 1) := by decide +kernel
theorem dX3_bestLine_2 : decode cX3_bestLine 2 = .ok (.iconst 1, 1) := by decide +kernel
theorem dX3_bestLine_3 : decode cX3_bestLine 3 = .ok (.istore_n 2, 1) := by decide +kernel
theorem dX3_bestLine_4 : decode cX3_bestLine 4 = .ok (.iload_n 2, 1) := by decide +kernel
theorem dX3_bestLine_5 : decode cX3_bestLine 5 = .ok (.bipush 20, 2) := by decide +kernel
theorem dX3_bestLine_7 : decode cX3_bestLine 7 = .ok (.if_icmp .gt 24, 3) := by decide +kernel
theorem dX3_bestLine_10 : decode cX3_bestLine 10 = .ok (.aload_n 0, 1) := by decide +kernel
theorem dX3_bestLine_11 : decode cX3_bestLine 11 = .ok (.iload_n 2, 1) := by decide +kernel
theorem dX3_bestLine_12 : decode cX3_bestLine 12 = .ok (.invokevirtual 105, 3) := by decide +kernel
theorem dX3_bestLine_15 : decode cX3_bestLine 15 = .ok (.aload_n 0, 1) := by decide +kernel
theorem dX3_bestLine_16 : decode cX3_bestLine 16 = .ok (.iload_n 1, 1) := by decide +kernel
theorem dX3_bestLine_17 : decode cX3_bestLine 17 = .ok (.invokevirtual 105, 3) := by decide +kernel
theorem dX3_bestLine_20 : decode cX3_bestLine 20 = .ok (.if_icmp .ge 5, 3) := by decide +kernel
theorem dX3_bestLine_23 : decode cX3_bestLine 23 = .ok (.iload_n 2, 1) := by decide +kernel
theorem dX3_bestLine_24 : decode cX3_bestLine 24 = .ok (.istore_n 1, 1) := by decide +kernel
theorem dX3_bestLine_25 : decode cX3_bestLine 25 = .ok (.iinc 2 1, 3) := by decide +kernel
theorem dX3_bestLine_28 : decode cX3_bestLine 28 = .ok (.goto (-24), 3) := by decide +kernel
theorem dX3_bestLine_31 : decode cX3_bestLine 31 = .ok (.iload_n 1, 1) := by decide +kernel
theorem dX3_bestLine_32 : decode cX3_bestLine 32 = .ok (.ireturn, 1) := by decide +kernel
theorem dX3_offBehindCut_0 : decode cX3_offBehindCut 0 = .ok (.iconst 0, 1) := by decide +kernel
theorem dX3_offBehindCut_1 : decode cX3_offBehindCut 1 = .ok (.istore_n 3, 1) := by decide +kernel
theorem dX3_offBehindCut_2 : decode cX3_offBehindCut 2 = .ok (.iconst 0, 1) := by decide +kernel
theorem dX3_offBehindCut_3 : decode cX3_offBehindCut 3 = .ok (.istore 4, 2) := by decide +kernel
theorem dX3_offBehindCut_5 : decode cX3_offBehindCut 5 = .ok (.iload 4, 2) := by decide +kernel
theorem dX3_offBehindCut_7 : decode cX3_offBehindCut 7 = .ok (.aload_n 0, 1) := by decide +kernel
theorem dX3_offBehindCut_8 : decode cX3_offBehindCut 8 = .ok (.getfield 9, 3) := by decide +kernel
theorem dX3_offBehindCut_11 : decode cX3_offBehindCut 11 = .ok (.getfield 19, 3) := by decide +kernel
theorem dX3_offBehindCut_14 : decode cX3_offBehindCut 14 = .ok (.getfield 25, 3) := by decide +kernel
theorem dX3_offBehindCut_17 : decode cX3_offBehindCut 17 = .ok (.if_icmp .ge 89, 3) := by decide +kernel
theorem dX3_offBehindCut_20 : decode cX3_offBehindCut 20 = .ok (.aload_n 0, 1) := by decide +kernel
theorem dX3_offBehindCut_21 : decode cX3_offBehindCut 21 = .ok (.getfield 9, 3) := by decide +kernel
theorem dX3_offBehindCut_24 : decode cX3_offBehindCut 24 = .ok (.getfield 61, 3) := by decide +kernel
theorem dX3_offBehindCut_27 : decode cX3_offBehindCut 27 = .ok (.aload_n 0, 1) := by decide +kernel
theorem dX3_offBehindCut_28 : decode cX3_offBehindCut 28 = .ok (.getfield 15, 3) := by decide +kernel
theorem dX3_offBehindCut_31 : decode cX3_offBehindCut 31 = .ok (.iload 4, 2) := by decide +kernel
theorem dX3_offBehindCut_33 : decode cX3_offBehindCut 33 = .ok (.invokevirtual 54, 3) := by decide +kernel
theorem dX3_offBehindCut_36 : decode cX3_offBehindCut 36 = .ok (.iload_n 1, 1) := by decide +kernel
theorem dX3_offBehindCut_37 : decode cX3_offBehindCut 37 = .ok (.iload_n 2, 1) := by decide +kernel
theorem dX3_offBehindCut_38 : decode cX3_offBehindCut 38 = .ok (.invokevirtual 108, 3) := by decide +kernel
theorem dX3_offBehindCut_41 : decode cX3_offBehindCut 41 = .ok (.istore 5, 2) := by decide +kernel
theorem dX3_offBehindCut_43 : decode cX3_offBehindCut 43 = .ok (.aload_n 0, 1) := by decide +kernel
theorem dX3_offBehindCut_44 : decode cX3_offBehindCut 44 = .ok (.getfield 15, 3) := by decide +kernel
theorem dX3_offBehindCut_47 : decode cX3_offBehindCut 47 = .ok (.iload 4, 2) := by decide +kernel
theorem dX3_offBehindCut_49 : decode cX3_offBehindCut 49 = .ok (.invokevirtual 41, 3) := by decide +kernel
theorem dX3_offBehindCut_52 : decode cX3_offBehindCut 52 = .ok (.aload_n 0, 1) := by decide +kernel
theorem dX3_offBehindCut_53 : decode cX3_offBehindCut 53 = .ok (.getfield 15, 3) := by decide +kernel
theorem dX3_offBehindCut_56 : decode cX3_offBehindCut 56 = .ok (.iload 4, 2) := by decide +kernel
theorem dX3_offBehindCut_58 : decode cX3_offBehindCut 58 = .ok (.invokevirtual 31, 3) := by decide +kernel
theorem dX3_offBehindCut_61 : decode cX3_offBehindCut 61 = .ok (.iload_n 1, 1) := by decide +kernel
theorem dX3_offBehindCut_62 : decode cX3_offBehindCut 62 = .ok (.iload 5, 2) := by decide +kernel
theorem dX3_offBehindCut_64 : decode cX3_offBehindCut 64 = .ok (.invokestatic 74, 3) := by decide +kernel
theorem dX3_offBehindCut_67 : decode cX3_offBehindCut 67 = .ok (.iadd, 1) := by decide +kernel
theorem dX3_offBehindCut_68 : decode cX3_offBehindCut 68 = .ok (.istore 6, 2) := by decide +kernel
theorem dX3_offBehindCut_70 : decode cX3_offBehindCut 70 = .ok (.aload_n 0, 1) := by decide +kernel
theorem dX3_offBehindCut_71 : decode cX3_offBehindCut 71 = .ok (.getfield 15, 3) := by decide +kernel
theorem dX3_offBehindCut_74 : decode cX3_offBehindCut 74 = .ok (.iload 4, 2) := by decide +kernel
theorem dX3_offBehindCut_76 : decode cX3_offBehindCut 76 = .ok (.invokevirtual 47, 3) := by decide +kernel
theorem dX3_offBehindCut_79 : decode cX3_offBehindCut 79 = .ok (.ifCond .eq 21, 3) := by decide +kernel
theorem dX3_offBehindCut_82 : decode cX3_offBehindCut 82 = .ok (.iload 6, 2) := by decide +kernel
theorem dX3_offBehindCut_84 : decode cX3_offBehindCut 84 = .ok (.aload_n 0, 1) := by decide +kernel
theorem dX3_offBehindCut_85 : decode cX3_offBehindCut 85 = .ok (.iload 4, 2) := by decide +kernel
theorem dX3_offBehindCut_87 : decode cX3_offBehindCut 87 = .ok (.invokevirtual 44, 3) := by decide +kernel
theorem dX3_offBehindCut_90 : decode cX3_offBehindCut 90 = .ok (.if_icmp .lt 10, 3) := by decide +kernel
theorem dX3_offBehindCut_93 : decode cX3_offBehindCut 93 = .ok (.iload_n 3, 1) := by decide +kernel
theorem dX3_offBehindCut_94 : decode cX3_offBehindCut 94 = .ok (.iconst 1, 1) := by decide +kernel
theorem dX3_offBehindCut_95 : decode cX3_offBehindCut 95 = .ok (.iload 4, 2) := by decide +kernel
theorem dX3_offBehindCut_97 : decode cX3_offBehindCut 97 = .ok (.ishl, 1) := by decide +kernel
theorem dX3_offBehindCut_98 : decode cX3_offBehindCut 98 = .ok (.ior, 1) := by decide +kernel
theorem dX3_offBehindCut_99 : decode cX3_offBehindCut 99 = .ok (.istore_n 3, 1) := by decide +kernel
theorem dX3_offBehindCut_100 : decode cX3_offBehindCut 100 = .ok (.iinc 4 1, 3) := by decide +kernel
theorem dX3_offBehindCut_103 : decode cX3_offBehindCut 103 = .ok (.goto (-98), 3) := by decide +kernel
theorem dX3_offBehindCut_106 : decode cX3_offBehindCut 106 = .ok (.iload_n 3, 1) := by decide +kernel
theorem dX3_offBehindCut_107 : decode cX3_offBehindCut 107 = .ok (.ireturn, 1) := by decide +kernel
theorem dX3_weightOfIll_0 : decode cX3_weightOfIll 0 = .ok (.aload_n 0, 1) := by decide +kernel
theorem dX3_weightOfIll_1 : decode cX3_weightOfIll 1 = .ok (.getfield 15, 3) := by decide +kernel
theorem dX3_weightOfIll_4 : decode cX3_weightOfIll 4 = .ok (.iload_n 1, 1) := by decide +kernel
theorem dX3_weightOfIll_5 : decode cX3_weightOfIll 5 = .ok (.invokevirtual 112, 3) := by decide +kernel
theorem dX3_weightOfIll_8 : decode cX3_weightOfIll 8 = .ok (.istore_n 2, 1) := by decide +kernel
theorem dX3_weightOfIll_9 : decode cX3_weightOfIll 9 = .ok (.aload_n 0, 1) := by decide +kernel
theorem dX3_weightOfIll_10 : decode cX3_weightOfIll 10 = .ok (.iload_n 1, 1) := by decide +kernel
theorem dX3_weightOfIll_11 : decode cX3_weightOfIll 11 = .ok (.invokevirtual 44, 3) := by decide +kernel
theorem dX3_weightOfIll_14 : decode cX3_weightOfIll 14 = .ok (.istore_n 3, 1) := by decide +kernel
theorem dX3_weightOfIll_15 : decode cX3_weightOfIll 15 = .ok (.aload_n 0, 1) := by decide +kernel
theorem dX3_weightOfIll_16 : decode cX3_weightOfIll 16 = .ok (.getfield 15, 3) := by decide +kernel
theorem dX3_weightOfIll_19 : decode cX3_weightOfIll 19 = .ok (.iload_n 1, 1) := by decide +kernel
theorem dX3_weightOfIll_20 : decode cX3_weightOfIll 20 = .ok (.invokevirtual 115, 3) := by decide +kernel
theorem dX3_weightOfIll_23 : decode cX3_weightOfIll 23 = .ok (.iconst 1, 1) := by decide +kernel
theorem dX3_weightOfIll_24 : decode cX3_weightOfIll 24 = .ok (.if_icmp .ne 18, 3) := by decide +kernel
theorem dX3_weightOfIll_27 : decode cX3_weightOfIll 27 = .ok (.iload_n 2, 1) := by decide +kernel
theorem dX3_weightOfIll_28 : decode cX3_weightOfIll 28 = .ok (.bipush 6, 2) := by decide +kernel
theorem dX3_weightOfIll_30 : decode cX3_weightOfIll 30 = .ok (.bipush 72, 2) := by decide +kernel
theorem dX3_weightOfIll_32 : decode cX3_weightOfIll 32 = .ok (.invokestatic 118, 3) := by decide +kernel
theorem dX3_weightOfIll_35 : decode cX3_weightOfIll 35 = .ok (.ifCond .eq 7, 3) := by decide +kernel
theorem dX3_weightOfIll_38 : decode cX3_weightOfIll 38 = .ok (.iload_n 3, 1) := by decide +kernel
theorem dX3_weightOfIll_39 : decode cX3_weightOfIll 39 = .ok (.ifCond .gt 5, 3) := by decide +kernel
theorem dX3_weightOfIll_42 : decode cX3_weightOfIll 42 = .ok (.iconst 0, 1) := by decide +kernel
theorem dX3_weightOfIll_43 : decode cX3_weightOfIll 43 = .ok (.ireturn, 1) := by decide +kernel
theorem dX3_weightOfIll_44 : decode cX3_weightOfIll 44 = .ok (.bipush 10, 2) := by decide +kernel
theorem dX3_weightOfIll_46 : decode cX3_weightOfIll 46 = .ok (.aload_n 0, 1) := by decide +kernel
theorem dX3_weightOfIll_47 : decode cX3_weightOfIll 47 = .ok (.getfield 15, 3) := by decide +kernel
theorem dX3_weightOfIll_50 : decode cX3_weightOfIll 50 = .ok (.iload_n 1, 1) := by decide +kernel
theorem dX3_weightOfIll_51 : decode cX3_weightOfIll 51 = .ok (.invokevirtual 41, 3) := by decide +kernel
theorem dX3_weightOfIll_54 : decode cX3_weightOfIll 54 = .ok (.imul, 1) := by decide +kernel
theorem dX3_weightOfIll_55 : decode cX3_weightOfIll 55 = .ok (.iload_n 3, 1) := by decide +kernel
theorem dX3_weightOfIll_56 : decode cX3_weightOfIll 56 = .ok (.idiv, 1) := by decide +kernel
theorem dX3_weightOfIll_57 : decode cX3_weightOfIll 57 = .ok (.istore 4, 2) := by decide +kernel
theorem dX3_weightOfIll_59 : decode cX3_weightOfIll 59 = .ok (.iload_n 2, 1) := by decide +kernel
theorem dX3_weightOfIll_60 : decode cX3_weightOfIll 60 = .ok (.bipush 24, 2) := by decide +kernel
theorem dX3_weightOfIll_62 : decode cX3_weightOfIll 62 = .ok (.if_icmp .gt 10, 3) := by decide +kernel
theorem dX3_weightOfIll_65 : decode cX3_weightOfIll 65 = .ok (.iconst 2, 1) := by decide +kernel
theorem dX3_weightOfIll_66 : decode cX3_weightOfIll 66 = .ok (.iload 4, 2) := by decide +kernel
theorem dX3_weightOfIll_68 : decode cX3_weightOfIll 68 = .ok (.imul, 1) := by decide +kernel
theorem dX3_weightOfIll_69 : decode cX3_weightOfIll 69 = .ok (.goto 5, 3) := by decide +kernel
theorem dX3_weightOfIll_72 : decode cX3_weightOfIll 72 = .ok (.iload 4, 2) := by decide +kernel
theorem dX3_weightOfIll_74 : decode cX3_weightOfIll 74 = .ok (.ireturn, 1) := by decide +kernel
theorem dX4_init_0 : decode cX4_init 0 = .ok (.aload_n 0, 1) := by decide +kernel
theorem dX4_init_1 : decode cX4_init 1 = .ok (.invokespecial 3, 3) := by decide +kernel
theorem dX4_init_4 : decode cX4_init 4 = .ok (.aload_n 0, 1) := by decide +kernel
theorem dX4_init_5 : decode cX4_init 5 = .ok (.bipush 24, 2) := by decide +kernel
theorem dX4_init_7 : decode cX4_init 7 = .ok (.newarray .int, 2) := by decide +kernel
theorem dX4_init_9 : decode cX4_init 9 = .ok (.putfield 9, 3) := by decide +kernel
theorem dX4_init_12 : decode cX4_init 12 = .ok (.aload_n 0, 1) := by decide +kernel
theorem dX4_init_13 : decode cX4_init 13 = .ok (.bipush 6, 2) := by decide +kernel
theorem dX4_init_15 : decode cX4_init 15 = .ok (.newarray .int, 2) := by decide +kernel
theorem dX4_init_17 : decode cX4_init 17 = .ok (.putfield 15, 3) := by decide +kernel
theorem dX4_init_20 : decode cX4_init 20 = .ok (.aload_n 0, 1) := by decide +kernel
theorem dX4_init_21 : decode cX4_init 21 = .ok (.iconst 4, 1) := by decide +kernel
theorem dX4_init_22 : decode cX4_init 22 = .ok (.newarray .int, 2) := by decide +kernel
theorem dX4_init_24 : decode cX4_init 24 = .ok (.putfield 18, 3) := by decide +kernel
theorem dX4_init_27 : decode cX4_init 27 = .ok (.aload_n 0, 1) := by decide +kernel
theorem dX4_init_28 : decode cX4_init 28 = .ok (.iconst 4, 1) := by decide +kernel
theorem dX4_init_29 : decode cX4_init 29 = .ok (.newarray .int, 2) := by decide +kernel
theorem dX4_init_31 : decode cX4_init 31 = .ok (.putfield 21, 3) := by decide +kernel
theorem dX4_init_34 : decode cX4_init 34 = .ok (.aload_n 0, 1) := by decide +kernel
theorem dX4_init_35 : decode cX4_init 35 = .ok (.aload_n 1, 1) := by decide +kernel
theorem dX4_init_36 : decode cX4_init 36 = .ok (.putfield 24, 3) := by decide +kernel
theorem dX4_init_39 : decode cX4_init 39 = .ok (.return_, 1) := by decide +kernel
theorem dX4_findBest_0 : decode cX4_findBest 0 = .ok (.aload_n 0, 1) := by decide +kernel
theorem dX4_findBest_1 : decode cX4_findBest 1 = .ok (.iload_n 1, 1) := by decide +kernel
theorem dX4_findBest_2 : decode cX4_findBest 2 = .ok (.putfield 28, 3) := by decide +kernel
theorem dX4_findBest_5 : decode cX4_findBest 5 = .ok (.aload_n 0, 1) := by decide +kernel
theorem dX4_findBest_6 : decode cX4_findBest 6 = .ok (.ldc 32, 2) := by decide +kernel
theorem dX4_findBest_8 : decode cX4_findBest 8 = .ok (.putfield 33, 3) := by decide +kernel
theorem dX4_findBest_11 : decode cX4_findBest 11 = .ok (.iconst 0, 1) := by decide +kernel
theorem dX4_findBest_12 : decode cX4_findBest 12 = .ok (.istore_n 3, 1) := by decide +kernel
theorem dX4_findBest_13 : decode cX4_findBest 13 = .ok (.iload_n 3, 1) := by decide +kernel
theorem dX4_findBest_14 : decode cX4_findBest 14 = .ok (.aload_n 0, 1) := by decide +kernel
theorem dX4_findBest_15 : decode cX4_findBest 15 = .ok (.getfield 24, 3) := by decide +kernel
theorem dX4_findBest_18 : decode cX4_findBest 18 = .ok (.getfield 36, 3) := by decide +kernel
theorem dX4_findBest_21 : decode cX4_findBest 21 = .ok (.getfield 42, 3) := by decide +kernel
theorem dX4_findBest_24 : decode cX4_findBest 24 = .ok (.getfield 48, 3) := by decide +kernel
theorem dX4_findBest_27 : decode cX4_findBest 27 = .ok (.if_icmp .ge 43, 3) := by decide +kernel
theorem dX4_findBest_30 : decode cX4_findBest 30 = .ok (.aload_n 0, 1) := by decide +kernel
theorem dX4_findBest_31 : decode cX4_findBest 31 = .ok (.getfield 15, 3) := by decide +kernel
theorem dX4_findBest_34 : decode cX4_findBest 34 = .ok (.iload_n 3, 1) := by decide +kernel
theorem dX4_findBest_35 : decode cX4_findBest 35 = .ok (.aload_n 0, 1) := by decide +kernel
theorem dX4_findBest_36 : decode cX4_findBest 36 = .ok (.getfield 24, 3) := by decide +kernel
theorem dX4_findBest_39 : decode cX4_findBest 39 = .ok (.getfield 36, 3) := by decide +kernel
theorem dX4_findBest_42 : decode cX4_findBest 42 = .ok (.getfield 42, 3) := by decide +kernel
theorem dX4_findBest_45 : decode cX4_findBest 45 = .ok (.iload_n 3, 1) := by decide +kernel
theorem dX4_findBest_46 : decode cX4_findBest 46 = .ok (.invokevirtual 51, 3) := by decide +kernel
theorem dX4_findBest_49 : decode cX4_findBest 49 = .ok (.aload_n 0, 1) := by decide +kernel
theorem dX4_findBest_50 : decode cX4_findBest 50 = .ok (.getfield 24, 3) := by decide +kernel
theorem dX4_findBest_53 : decode cX4_findBest 53 = .ok (.getfield 55, 3) := by decide +kernel
theorem dX4_findBest_56 : decode cX4_findBest 56 = .ok (.iload_n 3, 1) := by decide +kernel
theorem dX4_findBest_57 : decode cX4_findBest 57 = .ok (.invokevirtual 59, 3) := by decide +kernel
theorem dX4_findBest_60 : decode cX4_findBest 60 = .ok (.isub, 1) := by decide +kernel
theorem dX4_findBest_61 : decode cX4_findBest 61 = .ok (.invokestatic 64, 3) := by decide +kernel
theorem dX4_findBest_64 : decode cX4_findBest 64 = .ok (.iinc 3 1, 3) := by decide +kernel
theorem dX4_findBest_67 : decode cX4_findBest 67 = .ok (.goto (-54), 3) := by decide +kernel
theorem dX4_findBest_70 : decode cX4_findBest 70 = .ok (.aload_n 0, 1) := by decide +kernel
theorem dX4_findBest_71 : decode cX4_findBest 71 = .ok (.iconst 0, 1) := by decide +kernel
theorem dX4_findBest_72 : decode cX4_findBest 72 = .ok (.aload_n 0, 1) := by decide +kernel
theorem dX4_findBest_73 : decode cX4_findBest 73 = .ok (.iload_n 2, 1) := by decide +kernel
theorem dX4_findBest_74 : decode cX4_findBest 74 = .ok (.invokevirtual 68, 3) := by decide +kernel
theorem dX4_findBest_77 : decode cX4_findBest 77 = .ok (.invokevirtual 71, 3) := by decide +kernel
theorem dX4_findBest_80 : decode cX4_findBest 80 = .ok (.return_, 1) := by decide +kernel
theorem dX4_lookAtFoods_0 : decode cX4_lookAtFoods 0 = .ok (.iconst 0, 1) := by decide +kernel
theorem dX4_lookAtFoods_1 : decode cX4_lookAtFoods 1 = .ok (.istore_n 2, 1) := by decide +kernel
theorem dX4_lookAtFoods_2 : decode cX4_lookAtFoods 2 = .ok (.iconst 0, 1) := by decide +kernel
theorem dX4_lookAtFoods_3 : decode cX4_lookAtFoods 3 = .ok (.istore_n 3, 1) := by decide +kernel
theorem dX4_lookAtFoods_4 : decode cX4_lookAtFoods 4 = .ok (.iconst 0, 1) := by decide +kernel
theorem dX4_lookAtFoods_5 : decode cX4_lookAtFoods 5 = .ok (.istore 4, 2) := by decide +kernel
theorem dX4_lookAtFoods_7 : decode cX4_lookAtFoods 7 = .ok (.iload 4, 2) := by decide +kernel
theorem dX4_lookAtFoods_9 : decode cX4_lookAtFoods 9 = .ok (.aload_n 0, 1) := by decide +kernel
theorem dX4_lookAtFoods_10 : decode cX4_lookAtFoods 10 = .ok (.getfield 24, 3) := by decide +kernel
theorem dX4_lookAtFoods_13 : decode cX4_lookAtFoods 13 = .ok (.getfield 36, 3) := by decide +kernel
theorem dX4_lookAtFoods_16 : decode cX4_lookAtFoods 16 = .ok (.getfield 75, 3) := by decide +kernel
theorem dX4_lookAtFoods_19 : decode cX4_lookAtFoods 19 = .ok (.getfield 79, 3) := by decide +kernel
theorem dX4_lookAtFoods_22 : decode cX4_lookAtFoods 22 = .ok (.if_icmp .ge 158, 3) := by decide +kernel
theorem dX4_lookAtFoods_25 : decode cX4_lookAtFoods 25 = .ok (.aload_n 0, 1) := by decide +kernel
theorem dX4_lookAtFoods_26 : decode cX4_lookAtFoods 26 = .ok (.getfield 24, 3) := by decide +kernel
theorem dX4_lookAtFoods_29 : decode cX4_lookAtFoods 29 = .ok (.getfield 55, 3) := by decide +kernel
theorem dX4_lookAtFoods_32 : decode cX4_lookAtFoods 32 = .ok (.iload 4, 2) := by decide +kernel
theorem dX4_lookAtFoods_34 : decode cX4_lookAtFoods 34 = .ok (.invokevirtual 82, 3) := by decide +kernel
theorem dX4_lookAtFoods_37 : decode cX4_lookAtFoods 37 = .ok (.ifCond .eq 137, 3) := by decide +kernel
theorem dX4_lookAtFoods_40 : decode cX4_lookAtFoods 40 = .ok (.aload_n 0, 1) := by decide +kernel
theorem dX4_lookAtFoods_41 : decode cX4_lookAtFoods 41 = .ok (.getfield 24, 3) := by decide +kernel
theorem dX4_lookAtFoods_44 : decode cX4_lookAtFoods 44 = .ok (.getfield 55, 3) := by decide +kernel
theorem dX4_lookAtFoods_47 : decode cX4_lookAtFoods 47 = .ok (.iload 4, 2) := by decide +kernel
theorem dX4_lookAtFoods_49 : decode cX4_lookAtFoods 49 = .ok (.invokevirtual 86, 3) := by decide +kernel
theorem dX4_lookAtFoods_52 : decode cX4_lookAtFoods 52 = .ok (.istore 5, 2) := by decide +kernel
theorem dX4_lookAtFoods_54 : decode cX4_lookAtFoods 54 = .ok (.aload_n 0, 1) := by decide +kernel
theorem dX4_lookAtFoods_55 : decode cX4_lookAtFoods 55 = .ok (.getfield 24, 3) := by decide +kernel
theorem dX4_lookAtFoods_58 : decode cX4_lookAtFoods 58 = .ok (.getfield 55, 3) := by decide +kernel
theorem dX4_lookAtFoods_61 : decode cX4_lookAtFoods 61 = .ok (.iload 4, 2) := by decide +kernel
theorem dX4_lookAtFoods_63 : decode cX4_lookAtFoods 63 = .ok (.invokevirtual 89, 3) := by decide +kernel
theorem dX4_lookAtFoods_66 : decode cX4_lookAtFoods 66 = .ok (.istore 6, 2) := by decide +kernel
theorem dX4_lookAtFoods_68 : decode cX4_lookAtFoods 68 = .ok (.iload_n 2, 1) := by decide +kernel
theorem dX4_lookAtFoods_69 : decode cX4_lookAtFoods 69 = .ok (.aload_n 0, 1) := by decide +kernel
theorem dX4_lookAtFoods_70 : decode cX4_lookAtFoods 70 = .ok (.getfield 28, 3) := by decide +kernel
theorem dX4_lookAtFoods_73 : decode cX4_lookAtFoods 73 = .ok (.if_icmp .lt 23, 3) := by decide +kernel
theorem dX4_lookAtFoods_76 : decode cX4_lookAtFoods 76 = .ok (.iload_n 3, 1) := by decide +kernel
theorem dX4_lookAtFoods_77 : decode cX4_lookAtFoods 77 = .ok (.aload_n 0, 1) := by decide +kernel
theorem dX4_lookAtFoods_78 : decode cX4_lookAtFoods 78 = .ok (.getfield 24, 3) := by decide +kernel
theorem dX4_lookAtFoods_81 : decode cX4_lookAtFoods 81 = .ok (.iload 4, 2) := by decide +kernel
theorem dX4_lookAtFoods_83 : decode cX4_lookAtFoods 83 = .ok (.iload 5, 2) := by decide +kernel
theorem dX4_lookAtFoods_85 : decode cX4_lookAtFoods 85 = .ok (.iload 6, 2) := by decide +kernel
theorem dX4_lookAtFoods_87 : decode cX4_lookAtFoods 87 = .ok (.iload_n 1, 1) := by decide +kernel
theorem dX4_lookAtFoods_88 : decode cX4_lookAtFoods 88 = .ok (.invokevirtual 92, 3) := by decide +kernel
theorem dX4_lookAtFoods_91 : decode cX4_lookAtFoods 91 = .ok (.iadd, 1) := by decide +kernel
theorem dX4_lookAtFoods_92 : decode cX4_lookAtFoods 92 = .ok (.istore_n 3, 1) := by decide +kernel
theorem dX4_lookAtFoods_93 : decode cX4_lookAtFoods 93 = .ok (.goto 81, 3) := by decide +kernel
theorem dX4_lookAtFoods_96 : decode cX4_lookAtFoods 96 = .ok (.aload_n 0, 1) := by decide +kernel
theorem dX4_lookAtFoods_97 : decode cX4_lookAtFoods 97 = .ok (.getfield 15, 3) := by decide +kernel
theorem dX4_lookAtFoods_100 : decode cX4_lookAtFoods 100 = .ok (.iload 6, 2) := by decide +kernel
theorem dX4_lookAtFoods_102 : decode cX4_lookAtFoods 102 = .ok (.aload_n 0, 1) := by decide +kernel
theorem dX4_lookAtFoods_103 : decode cX4_lookAtFoods 103 = .ok (.getfield 15, 3) := by decide +kernel
theorem dX4_lookAtFoods_106 : decode cX4_lookAtFoods 106 = .ok (.iload 6, 2) := by decide +kernel
theorem dX4_lookAtFoods_108 : decode cX4_lookAtFoods 108 = .ok (.invokestatic 96, 3) := by decide +kernel
theorem dX4_lookAtFoods_111 : decode cX4_lookAtFoods 111 = .ok (.iconst 1, 1) := by decide +kernel
theorem dX4_lookAtFoods_112 : decode cX4_lookAtFoods 112 = .ok (.iadd, 1) := by decide +kernel
theorem dX4_lookAtFoods_113 : decode cX4_lookAtFoods 113 = .ok (.invokestatic 64, 3) := by decide +kernel
theorem dX4_lookAtFoods_116 : decode cX4_lookAtFoods 116 = .ok (.iconst 0, 1) := by decide +kernel
theorem dX4_lookAtFoods_117 : decode cX4_lookAtFoods 117 = .ok (.istore 7, 2) := by decide +kernel
theorem dX4_lookAtFoods_119 : decode cX4_lookAtFoods 119 = .ok (.iload 7, 2) := by decide +kernel
theorem dX4_lookAtFoods_121 : decode cX4_lookAtFoods 121 = .ok (.aload_n 0, 1) := by decide +kernel
theorem dX4_lookAtFoods_122 : decode cX4_lookAtFoods 122 = .ok (.getfield 24, 3) := by decide +kernel
theorem dX4_lookAtFoods_125 : decode cX4_lookAtFoods 125 = .ok (.getfield 36, 3) := by decide +kernel
theorem dX4_lookAtFoods_128 : decode cX4_lookAtFoods 128 = .ok (.getfield 42, 3) := by decide +kernel
theorem dX4_lookAtFoods_131 : decode cX4_lookAtFoods 131 = .ok (.getfield 48, 3) := by decide +kernel
theorem dX4_lookAtFoods_134 : decode cX4_lookAtFoods 134 = .ok (.if_icmp .ge 37, 3) := by decide +kernel
theorem dX4_lookAtFoods_137 : decode cX4_lookAtFoods 137 = .ok (.aload_n 0, 1) := by decide +kernel
theorem dX4_lookAtFoods_138 : decode cX4_lookAtFoods 138 = .ok (.getfield 9, 3) := by decide +kernel
theorem dX4_lookAtFoods_141 : decode cX4_lookAtFoods 141 = .ok (.iload_n 2, 1) := by decide +kernel
theorem dX4_lookAtFoods_142 : decode cX4_lookAtFoods 142 = .ok (.bipush 6, 2) := by decide +kernel
theorem dX4_lookAtFoods_144 : decode cX4_lookAtFoods 144 = .ok (.imul, 1) := by decide +kernel
theorem dX4_lookAtFoods_145 : decode cX4_lookAtFoods 145 = .ok (.iload 7, 2) := by decide +kernel
theorem dX4_lookAtFoods_147 : decode cX4_lookAtFoods 147 = .ok (.iadd, 1) := by decide +kernel
theorem dX4_lookAtFoods_148 : decode cX4_lookAtFoods 148 = .ok (.aload_n 0, 1) := by decide +kernel
theorem dX4_lookAtFoods_149 : decode cX4_lookAtFoods 149 = .ok (.getfield 24, 3) := by decide +kernel
theorem dX4_lookAtFoods_152 : decode cX4_lookAtFoods 152 = .ok (.iload 4, 2) := by decide +kernel
theorem dX4_lookAtFoods_154 : decode cX4_lookAtFoods 154 = .ok (.iload 5, 2) := by decide +kernel
theorem dX4_lookAtFoods_156 : decode cX4_lookAtFoods 156 = .ok (.iload 7, 2) := by decide +kernel
theorem dX4_lookAtFoods_158 : decode cX4_lookAtFoods 158 = .ok (.iload_n 1, 1) := by decide +kernel
theorem dX4_lookAtFoods_159 : decode cX4_lookAtFoods 159 = .ok (.invokevirtual 92, 3) := by decide +kernel
theorem dX4_lookAtFoods_162 : decode cX4_lookAtFoods 162 = .ok (.invokestatic 64, 3) := by decide +kernel
theorem dX4_lookAtFoods_165 : decode cX4_lookAtFoods 165 = .ok (.iinc 7 1, 3) := by decide +kernel
theorem dX4_lookAtFoods_168 : decode cX4_lookAtFoods 168 = .ok (.goto (-49), 3) := by decide +kernel
theorem dX4_lookAtFoods_171 : decode cX4_lookAtFoods 171 = .ok (.iinc 2 1, 3) := by decide +kernel
theorem dX4_lookAtFoods_174 : decode cX4_lookAtFoods 174 = .ok (.iinc 4 1, 3) := by decide +kernel
theorem dX4_lookAtFoods_177 : decode cX4_lookAtFoods 177 = .ok (.goto (-170), 3) := by decide +kernel
theorem dX4_lookAtFoods_180 : decode cX4_lookAtFoods 180 = .ok (.iload_n 3, 1) := by decide +kernel
theorem dX4_lookAtFoods_181 : decode cX4_lookAtFoods 181 = .ok (.ireturn, 1) := by decide +kernel
theorem dX4_cellFor_0 : decode cX4_cellFor 0 = .ok (.aload_n 0, 1) := by decide +kernel
theorem dX4_cellFor_1 : decode cX4_cellFor 1 = .ok (.getfield 21, 3) := by decide +kernel
theorem dX4_cellFor_4 : decode cX4_cellFor 4 = .ok (.iload_n 1, 1) := by decide +kernel
theorem dX4_cellFor_5 : decode cX4_cellFor 5 = .ok (.invokestatic 96, 3) := by decide +kernel
theorem dX4_cellFor_8 : decode cX4_cellFor 8 = .ok (.ireturn, 1) := by decide +kernel
theorem dX4_tryFood_0 : decode cX4_tryFood 0 = .ok (.iload_n 1, 1) := by decide +kernel
theorem dX4_tryFood_1 : decode cX4_tryFood 1 = .ok (.aload_n 0, 1) := by decide +kernel
theorem dX4_tryFood_2 : decode cX4_tryFood 2 = .ok (.getfield 28, 3) := by decide +kernel
theorem dX4_tryFood_5 : decode cX4_tryFood 5 = .ok (.if_icmp .lt 9, 3) := by decide +kernel
theorem dX4_tryFood_8 : decode cX4_tryFood 8 = .ok (.aload_n 0, 1) := by decide +kernel
theorem dX4_tryFood_9 : decode cX4_tryFood 9 = .ok (.iload_n 2, 1) := by decide +kernel
theorem dX4_tryFood_10 : decode cX4_tryFood 10 = .ok (.invokevirtual 100, 3) := by decide +kernel
theorem dX4_tryFood_13 : decode cX4_tryFood 13 = .ok (.return_, 1) := by decide +kernel
theorem dX4_tryFood_14 : decode cX4_tryFood 14 = .ok (.iconst 0, 1) := by decide +kernel
theorem dX4_tryFood_15 : decode cX4_tryFood 15 = .ok (.istore_n 3, 1) := by decide +kernel
theorem dX4_tryFood_16 : decode cX4_tryFood 16 = .ok (.iload_n 3, 1) := by decide +kernel
theorem dX4_tryFood_17 : decode cX4_tryFood 17 = .ok (.aload_n 0, 1) := by decide +kernel
theorem dX4_tryFood_18 : decode cX4_tryFood 18 = .ok (.getfield 24, 3) := by decide +kernel
theorem dX4_tryFood_21 : decode cX4_tryFood 21 = .ok (.getfield 36, 3) := by decide +kernel
theorem dX4_tryFood_24 : decode cX4_tryFood 24 = .ok (.getfield 42, 3) := by decide +kernel
theorem dX4_tryFood_27 : decode cX4_tryFood 27 = .ok (.getfield 48, 3) := by decide +kernel
theorem dX4_tryFood_30 : decode cX4_tryFood 30 = .ok (.if_icmp .ge 77, 3) := by decide +kernel
theorem dX4_tryFood_33 : decode cX4_tryFood 33 = .ok (.aload_n 0, 1) := by decide +kernel
theorem dX4_tryFood_34 : decode cX4_tryFood 34 = .ok (.getfield 15, 3) := by decide +kernel
theorem dX4_tryFood_37 : decode cX4_tryFood 37 = .ok (.iload_n 3, 1) := by decide +kernel
theorem dX4_tryFood_38 : decode cX4_tryFood 38 = .ok (.invokestatic 96, 3) := by decide +kernel
theorem dX4_tryFood_41 : decode cX4_tryFood 41 = .ok (.istore 4, 2) := by decide +kernel
theorem dX4_tryFood_43 : decode cX4_tryFood 43 = .ok (.iload 4, 2) := by decide +kernel
theorem dX4_tryFood_45 : decode cX4_tryFood 45 = .ok (.ifCond .le 56, 3) := by decide +kernel
theorem dX4_tryFood_48 : decode cX4_tryFood 48 = .ok (.aload_n 0, 1) := by decide +kernel
theorem dX4_tryFood_49 : decode cX4_tryFood 49 = .ok (.getfield 15, 3) := by decide +kernel
theorem dX4_tryFood_52 : decode cX4_tryFood 52 = .ok (.iload_n 3, 1) := by decide +kernel
theorem dX4_tryFood_53 : decode cX4_tryFood 53 = .ok (.iload 4, 2) := by decide +kernel
theorem dX4_tryFood_55 : decode cX4_tryFood 55 = .ok (.iconst 1, 1) := by decide +kernel
theorem dX4_tryFood_56 : decode cX4_tryFood 56 = .ok (.isub, 1) := by decide +kernel
theorem dX4_tryFood_57 : decode cX4_tryFood 57 = .ok (.invokestatic 64, 3) := by decide +kernel
theorem dX4_tryFood_60 : decode cX4_tryFood 60 = .ok (.aload_n 0, 1) := by decide +kernel
theorem dX4_tryFood_61 : decode cX4_tryFood 61 = .ok (.getfield 18, 3) := by decide +kernel
theorem dX4_tryFood_64 : decode cX4_tryFood 64 = .ok (.iload_n 1, 1) := by decide +kernel
theorem dX4_tryFood_65 : decode cX4_tryFood 65 = .ok (.iload_n 3, 1) := by decide +kernel
theorem dX4_tryFood_66 : decode cX4_tryFood 66 = .ok (.invokestatic 64, 3) := by decide +kernel
theorem dX4_tryFood_69 : decode cX4_tryFood 69 = .ok (.aload_n 0, 1) := by decide +kernel
theorem dX4_tryFood_70 : decode cX4_tryFood 70 = .ok (.iload_n 1, 1) := by decide +kernel
theorem dX4_tryFood_71 : decode cX4_tryFood 71 = .ok (.iconst 1, 1) := by decide +kernel
theorem dX4_tryFood_72 : decode cX4_tryFood 72 = .ok (.iadd, 1) := by decide +kernel
theorem dX4_tryFood_73 : decode cX4_tryFood 73 = .ok (.iload_n 2, 1) := by decide +kernel
theorem dX4_tryFood_74 : decode cX4_tryFood 74 = .ok (.aload_n 0, 1) := by decide +kernel
theorem dX4_tryFood_75 : decode cX4_tryFood 75 = .ok (.getfield 9, 3) := by decide +kernel
theorem dX4_tryFood_78 : decode cX4_tryFood 78 = .ok (.iload_n 1, 1) := by decide +kernel
theorem dX4_tryFood_79 : decode cX4_tryFood 79 = .ok (.bipush 6, 2) := by decide +kernel
theorem dX4_tryFood_81 : decode cX4_tryFood 81 = .ok (.imul, 1) := by decide +kernel
theorem dX4_tryFood_82 : decode cX4_tryFood 82 = .ok (.iload_n 3, 1) := by decide +kernel
theorem dX4_tryFood_83 : decode cX4_tryFood 83 = .ok (.iadd, 1) := by decide +kernel
theorem dX4_tryFood_84 : decode cX4_tryFood 84 = .ok (.invokestatic 96, 3) := by decide +kernel
theorem dX4_tryFood_87 : decode cX4_tryFood 87 = .ok (.iadd, 1) := by decide +kernel
theorem dX4_tryFood_88 : decode cX4_tryFood 88 = .ok (.invokevirtual 71, 3) := by decide +kernel
theorem dX4_tryFood_91 : decode cX4_tryFood 91 = .ok (.aload_n 0, 1) := by decide +kernel
theorem dX4_tryFood_92 : decode cX4_tryFood 92 = .ok (.getfield 15, 3) := by decide +kernel
theorem dX4_tryFood_95 : decode cX4_tryFood 95 = .ok (.iload_n 3, 1) := by decide +kernel
theorem dX4_tryFood_96 : decode cX4_tryFood 96 = .ok (.iload 4, 2) := by decide +kernel
theorem dX4_tryFood_98 : decode cX4_tryFood 98 = .ok (.invokestatic 64, 3) := by decide +kernel
theorem dX4_tryFood_101 : decode cX4_tryFood 101 = .ok (.iinc 3 1, 3) := by decide +kernel
theorem dX4_tryFood_104 : decode cX4_tryFood 104 = .ok (.goto (-88), 3) := by decide +kernel
theorem dX4_tryFood_107 : decode cX4_tryFood 107 = .ok (.return_, 1) := by decide +kernel
theorem dX4_settle_0 : decode cX4_settle 0 = .ok (.iload_n 1, 1) := by decide +kernel
theorem dX4_settle_1 : decode cX4_settle 1 = .ok (.aload_n 0, 1) := by decide +kernel
theorem dX4_settle_2 : decode cX4_settle 2 = .ok (.getfield 33, 3) := by decide +kernel
theorem dX4_settle_5 : decode cX4_settle 5 = .ok (.if_icmp .lt 4, 3) := by decide +kernel
theorem dX4_settle_8 : decode cX4_settle 8 = .ok (.return_, 1) := by decide +kernel
theorem dX4_settle_9 : decode cX4_settle 9 = .ok (.aload_n 0, 1) := by decide +kernel
theorem dX4_settle_10 : decode cX4_settle 10 = .ok (.iload_n 1, 1) := by decide +kernel
theorem dX4_settle_11 : decode cX4_settle 11 = .ok (.putfield 33, 3) := by decide +kernel
theorem dX4_settle_14 : decode cX4_settle 14 = .ok (.iconst 0, 1) := by decide +kernel
theorem dX4_settle_15 : decode cX4_settle 15 = .ok (.istore_n 2, 1) := by decide +kernel
theorem dX4_settle_16 : decode cX4_settle 16 = .ok (.iload_n 2, 1) := by decide +kernel
theorem dX4_settle_17 : decode cX4_settle 17 = .ok (.aload_n 0, 1) := by decide +kernel
theorem dX4_settle_18 : decode cX4_settle 18 = .ok (.getfield 28, 3) := by decide +kernel
theorem dX4_settle_21 : decode cX4_settle 21 = .ok (.if_icmp .ge 25, 3) := by decide +kernel
theorem dX4_settle_24 : decode cX4_settle 24 = .ok (.aload_n 0, 1) := by decide +kernel
theorem dX4_settle_25 : decode cX4_settle 25 = .ok (.getfield 21, 3) := by decide +kernel
theorem dX4_settle_28 : decode cX4_settle 28 = .ok (.iload_n 2, 1) := by decide +kernel
theorem dX4_settle_29 : decode cX4_settle 29 = .ok (.aload_n 0, 1) := by decide +kernel
theorem dX4_settle_30 : decode cX4_settle 30 = .ok (.getfield 18, 3) := by decide +kernel
theorem dX4_settle_33 : decode cX4_settle 33 = .ok (.iload_n 2, 1) := by decide +kernel
theorem dX4_settle_34 : decode cX4_settle 34 = .ok (.invokestatic 96, 3) := by decide +kernel
theorem dX4_settle_37 : decode cX4_settle 37 = .ok (.invokestatic 64, 3) := by decide +kernel
theorem dX4_settle_40 : decode cX4_settle 40 = .ok (.iinc 2 1, 3) := by decide +kernel
theorem dX4_settle_43 : decode cX4_settle 43 = .ok (.goto (-27), 3) := by decide +kernel
theorem dX4_settle_46 : decode cX4_settle 46 = .ok (.return_, 1) := by decide +kernel
theorem dX5_init_0 : decode cX5_init 0 = .ok (.aload_n 0, 1) := by decide +kernel
theorem dX5_init_1 : decode cX5_init 1 = .ok (.invokespecial 3, 3) := by decide +kernel
theorem dX5_init_4 : decode cX5_init 4 = .ok (.aload_n 0, 1) := by decide +kernel
theorem dX5_init_5 : decode cX5_init 5 = .ok (.bipush 6, 2) := by decide +kernel
theorem dX5_init_7 : decode cX5_init 7 = .ok (.newarray .int, 2) := by decide +kernel
theorem dX5_init_9 : decode cX5_init 9 = .ok (.putfield 9, 3) := by decide +kernel
theorem dX5_init_12 : decode cX5_init 12 = .ok (.aload_n 0, 1) := by decide +kernel
theorem dX5_init_13 : decode cX5_init 13 = .ok (.bipush 6, 2) := by decide +kernel
theorem dX5_init_15 : decode cX5_init 15 = .ok (.newarray .int, 2) := by decide +kernel
theorem dX5_init_17 : decode cX5_init 17 = .ok (.putfield 15, 3) := by decide +kernel
theorem dX5_init_20 : decode cX5_init 20 = .ok (.aload_n 0, 1) := by decide +kernel
theorem dX5_init_21 : decode cX5_init 21 = .ok (.bipush 10, 2) := by decide +kernel
theorem dX5_init_23 : decode cX5_init 23 = .ok (.putfield 18, 3) := by decide +kernel
theorem dX5_init_26 : decode cX5_init 26 = .ok (.aload_n 0, 1) := by decide +kernel
theorem dX5_init_27 : decode cX5_init 27 = .ok (.bipush 20, 2) := by decide +kernel
theorem dX5_init_29 : decode cX5_init 29 = .ok (.putfield 22, 3) := by decide +kernel
theorem dX5_init_32 : decode cX5_init 32 = .ok (.return_, 1) := by decide +kernel
theorem dX5_clear_0 : decode cX5_clear 0 = .ok (.aload_n 0, 1) := by decide +kernel
theorem dX5_clear_1 : decode cX5_clear 1 = .ok (.iconst 0, 1) := by decide +kernel
theorem dX5_clear_2 : decode cX5_clear 2 = .ok (.putfield 25, 3) := by decide +kernel
theorem dX5_clear_5 : decode cX5_clear 5 = .ok (.aload_n 0, 1) := by decide +kernel
theorem dX5_clear_6 : decode cX5_clear 6 = .ok (.bipush 10, 2) := by decide +kernel
theorem dX5_clear_8 : decode cX5_clear 8 = .ok (.putfield 18, 3) := by decide +kernel
theorem dX5_clear_11 : decode cX5_clear 11 = .ok (.aload_n 0, 1) := by decide +kernel
theorem dX5_clear_12 : decode cX5_clear 12 = .ok (.bipush 20, 2) := by decide +kernel
theorem dX5_clear_14 : decode cX5_clear 14 = .ok (.putfield 22, 3) := by decide +kernel
theorem dX5_clear_17 : decode cX5_clear 17 = .ok (.return_, 1) := by decide +kernel
theorem dX5_add_0 : decode cX5_add 0 = .ok (.aload_n 0, 1) := by decide +kernel
theorem dX5_add_1 : decode cX5_add 1 = .ok (.getfield 25, 3) := by decide +kernel
theorem dX5_add_4 : decode cX5_add 4 = .ok (.bipush 6, 2) := by decide +kernel
theorem dX5_add_6 : decode cX5_add 6 = .ok (.if_icmp .lt 5, 3) := by decide +kernel
theorem dX5_add_9 : decode cX5_add 9 = .ok (.iconst 0, 1) := by decide +kernel
theorem dX5_add_10 : decode cX5_add 10 = .ok (.ireturn, 1) := by decide +kernel
theorem dX5_add_11 : decode cX5_add 11 = .ok (.aload_n 0, 1) := by decide +kernel
theorem dX5_add_12 : decode cX5_add 12 = .ok (.getfield 9, 3) := by decide +kernel
theorem dX5_add_15 : decode cX5_add 15 = .ok (.aload_n 0, 1) := by decide +kernel
theorem dX5_add_16 : decode cX5_add 16 = .ok (.getfield 25, 3) := by decide +kernel
theorem dX5_add_19 : decode cX5_add 19 = .ok (.iload_n 1, 1) := by decide +kernel
theorem dX5_add_20 : decode cX5_add 20 = .ok (.invokestatic 28, 3) := by decide +kernel
theorem dX5_add_23 : decode cX5_add 23 = .ok (.aload_n 0, 1) := by decide +kernel
theorem dX5_add_24 : decode cX5_add 24 = .ok (.getfield 15, 3) := by decide +kernel
theorem dX5_add_27 : decode cX5_add 27 = .ok (.aload_n 0, 1) := by decide +kernel
theorem dX5_add_28 : decode cX5_add 28 = .ok (.getfield 25, 3) := by decide +kernel
theorem dX5_add_31 : decode cX5_add 31 = .ok (.iload_n 2, 1) := by decide +kernel
theorem dX5_add_32 : decode cX5_add 32 = .ok (.invokestatic 28, 3) := by decide +kernel
theorem dX5_add_35 : decode cX5_add 35 = .ok (.aload_n 0, 1) := by decide +kernel
theorem dX5_add_36 : decode cX5_add 36 = .ok (.dup, 1) := by decide +kernel
theorem dX5_add_37 : decode cX5_add 37 = .ok (.getfield 25, 3) := by decide +kernel
theorem dX5_add_40 : decode cX5_add 40 = .ok (.iconst 1, 1) := by decide +kernel
theorem dX5_add_41 : decode cX5_add 41 = .ok (.iadd, 1) := by decide +kernel
theorem dX5_add_42 : decode cX5_add 42 = .ok (.putfield 25, 3) := by decide +kernel
theorem dX5_add_45 : decode cX5_add 45 = .ok (.iconst 1, 1) := by decide +kernel
theorem dX5_add_46 : decode cX5_add 46 = .ok (.ireturn, 1) := by decide +kernel
theorem dX5_expectOf_0 : decode cX5_expectOf 0 = .ok (.iload_n 1, 1) := by decide +kernel
theorem dX5_expectOf_1 : decode cX5_expectOf 1 = .ok (.aload_n 0, 1) := by decide +kernel
theorem dX5_expectOf_2 : decode cX5_expectOf 2 = .ok (.getfield 18, 3) := by decide +kernel
theorem dX5_expectOf_5 : decode cX5_expectOf 5 = .ok (.imul, 1) := by decide +kernel
theorem dX5_expectOf_6 : decode cX5_expectOf 6 = .ok (.iload_n 1, 1) := by decide +kernel
theorem dX5_expectOf_7 : decode cX5_expectOf 7 = .ok (.iconst 2, 1) := by decide +kernel
theorem dX5_expectOf_8 : decode cX5_expectOf 8 = .ok (.idiv, 1) := by decide +kernel
theorem dX5_expectOf_9 : decode cX5_expectOf 9 = .ok (.aload_n 0, 1) := by decide +kernel
theorem dX5_expectOf_10 : decode cX5_expectOf 10 = .ok (.getfield 22, 3) := by decide +kernel
theorem dX5_expectOf_13 : decode cX5_expectOf 13 = .ok (.imul, 1) := by decide +kernel
theorem dX5_expectOf_14 : decode cX5_expectOf 14 = .ok (.iload_n 1, 1) := by decide +kernel
theorem dX5_expectOf_15 : decode cX5_expectOf 15 = .ok (.iconst 2, 1) := by decide +kernel
theorem dX5_expectOf_16 : decode cX5_expectOf 16 = .ok (.irem, 1) := by decide +kernel
theorem dX5_expectOf_17 : decode cX5_expectOf 17 = .ok (.aload_n 0, 1) := by decide +kernel
theorem dX5_expectOf_18 : decode cX5_expectOf 18 = .ok (.getfield 18, 3) := by decide +kernel
theorem dX5_expectOf_21 : decode cX5_expectOf 21 = .ok (.imul, 1) := by decide +kernel
theorem dX5_expectOf_22 : decode cX5_expectOf 22 = .ok (.iadd, 1) := by decide +kernel
theorem dX5_expectOf_23 : decode cX5_expectOf 23 = .ok (.invokestatic 32, 3) := by decide +kernel
theorem dX5_expectOf_26 : decode cX5_expectOf 26 = .ok (.istore_n 2, 1) := by decide +kernel
theorem dX5_expectOf_27 : decode cX5_expectOf 27 = .ok (.iconst 0, 1) := by decide +kernel
theorem dX5_expectOf_28 : decode cX5_expectOf 28 = .ok (.istore_n 3, 1) := by decide +kernel
theorem dX5_expectOf_29 : decode cX5_expectOf 29 = .ok (.iconst 0, 1) := by decide +kernel
theorem dX5_expectOf_30 : decode cX5_expectOf 30 = .ok (.istore 4, 2) := by decide +kernel
theorem dX5_expectOf_32 : decode cX5_expectOf 32 = .ok (.iload 4, 2) := by decide +kernel
theorem dX5_expectOf_34 : decode cX5_expectOf 34 = .ok (.aload_n 0, 1) := by decide +kernel
theorem dX5_expectOf_35 : decode cX5_expectOf 35 = .ok (.getfield 25, 3) := by decide +kernel
theorem dX5_expectOf_38 : decode cX5_expectOf 38 = .ok (.if_icmp .ge 46, 3) := by decide +kernel
theorem dX5_expectOf_41 : decode cX5_expectOf 41 = .ok (.aload_n 0, 1) := by decide +kernel
theorem dX5_expectOf_42 : decode cX5_expectOf 42 = .ok (.getfield 9, 3) := by decide +kernel
theorem dX5_expectOf_45 : decode cX5_expectOf 45 = .ok (.iload 4, 2) := by decide +kernel
theorem dX5_expectOf_47 : decode cX5_expectOf 47 = .ok (.invokestatic 38, 3) := by decide +kernel
theorem dX5_expectOf_50 : decode cX5_expectOf 50 = .ok (.iload_n 1, 1) := by decide +kernel
theorem dX5_expectOf_51 : decode cX5_expectOf 51 = .ok (.isub, 1) := by decide +kernel
theorem dX5_expectOf_52 : decode cX5_expectOf 52 = .ok (.iconst 0, 1) := by decide +kernel
theorem dX5_expectOf_53 : decode cX5_expectOf 53 = .ok (.invokestatic 42, 3) := by decide +kernel
theorem dX5_expectOf_56 : decode cX5_expectOf 56 = .ok (.istore 5, 2) := by decide +kernel
theorem dX5_expectOf_58 : decode cX5_expectOf 58 = .ok (.iload_n 3, 1) := by decide +kernel
theorem dX5_expectOf_59 : decode cX5_expectOf 59 = .ok (.aload_n 0, 1) := by decide +kernel
theorem dX5_expectOf_60 : decode cX5_expectOf 60 = .ok (.getfield 15, 3) := by decide +kernel
theorem dX5_expectOf_63 : decode cX5_expectOf 63 = .ok (.iload 4, 2) := by decide +kernel
theorem dX5_expectOf_65 : decode cX5_expectOf 65 = .ok (.invokestatic 38, 3) := by decide +kernel
theorem dX5_expectOf_68 : decode cX5_expectOf 68 = .ok (.iload_n 2, 1) := by decide +kernel
theorem dX5_expectOf_69 : decode cX5_expectOf 69 = .ok (.bipush 15, 2) := by decide +kernel
theorem dX5_expectOf_71 : decode cX5_expectOf 71 = .ok (.iload 5, 2) := by decide +kernel
theorem dX5_expectOf_73 : decode cX5_expectOf 73 = .ok (.imul, 1) := by decide +kernel
theorem dX5_expectOf_74 : decode cX5_expectOf 74 = .ok (.iadd, 1) := by decide +kernel
theorem dX5_expectOf_75 : decode cX5_expectOf 75 = .ok (.imul, 1) := by decide +kernel
theorem dX5_expectOf_76 : decode cX5_expectOf 76 = .ok (.iadd, 1) := by decide +kernel
theorem dX5_expectOf_77 : decode cX5_expectOf 77 = .ok (.istore_n 3, 1) := by decide +kernel
theorem dX5_expectOf_78 : decode cX5_expectOf 78 = .ok (.iinc 4 1, 3) := by decide +kernel
theorem dX5_expectOf_81 : decode cX5_expectOf 81 = .ok (.goto (-49), 3) := by decide +kernel
theorem dX5_expectOf_84 : decode cX5_expectOf 84 = .ok (.iload_n 3, 1) := by decide +kernel
theorem dX5_expectOf_85 : decode cX5_expectOf 85 = .ok (.ireturn, 1) := by decide +kernel
theorem dX5_bestPacks_0 : decode cX5_bestPacks 0 = .ok (.iconst 0, 1) := by decide +kernel
theorem dX5_bestPacks_1 : decode cX5_bestPacks 1 = .ok (.istore_n 1, 1) := by decide +kernel
theorem dX5_bestPacks_2 : decode cX5_bestPacks 2 = .ok (.iconst 1, 1) := by decide +kernel
theorem dX5_bestPacks_3 : decode cX5_bestPacks 3 = .ok (.istore_n 2, 1) := by decide +kernel
theorem dX5_bestPacks_4 : decode cX5_bestPacks 4 = .ok (.iload_n 2, 1) := by decide +kernel
theorem dX5_bestPacks_5 : decode cX5_bestPacks 5 = .ok (.bipush 9, 2) := by decide +kernel
theorem dX5_bestPacks_7 : decode cX5_bestPacks 7 = .ok (.if_icmp .gt 24, 3) := by decide +kernel
theorem dX5_bestPacks_10 : decode cX5_bestPacks 10 = .ok (.aload_n 0, 1) := by decide +kernel
theorem dX5_bestPacks_11 : decode cX5_bestPacks 11 = .ok (.iload_n 2, 1) := by decide +kernel
theorem dX5_bestPacks_12 : decode cX5_bestPacks 12 = .ok (.invokevirtual 45, 3) := by decide +kernel
theorem dX5_bestPacks_15 : decode cX5_bestPacks 15 = .ok (.aload_n 0, 1) := by decide +kernel
theorem dX5_bestPacks_16 : decode cX5_bestPacks 16 = .ok (.iload_n 1, 1) := by decide +kernel
theorem dX5_bestPacks_17 : decode cX5_bestPacks 17 = .ok (.invokevirtual 45, 3) := by decide +kernel
theorem dX5_bestPacks_20 : decode cX5_bestPacks 20 = .ok (.if_icmp .ge 5, 3) := by decide +kernel
theorem dX5_bestPacks_23 : decode cX5_bestPacks 23 = .ok (.iload_n 2, 1) := by decide +kernel
theorem dX5_bestPacks_24 : decode cX5_bestPacks 24 = .ok (.istore_n 1, 1) := by decide +kernel
theorem dX5_bestPacks_25 : decode cX5_bestPacks 25 = .ok (.iinc 2 1, 3) := by decide +kernel
theorem dX5_bestPacks_28 : decode cX5_bestPacks 28 = .ok (.goto (-24), 3) := by decide +kernel
theorem dX5_bestPacks_31 : decode cX5_bestPacks 31 = .ok (.iload_n 1, 1) := by decide +kernel
theorem dX5_bestPacks_32 : decode cX5_bestPacks 32 = .ok (.ireturn, 1) := by decide +kernel
theorem dX6_init_0 : decode cX6_init 0 = .ok (.aload_n 0, 1) := by decide +kernel
theorem dX6_init_1 : decode cX6_init 1 = .ok (.invokespecial 3, 3) := by decide +kernel
theorem dX6_init_4 : decode cX6_init 4 = .ok (.aload_n 0, 1) := by decide +kernel
theorem dX6_init_5 : decode cX6_init 5 = .ok (.iconst 4, 1) := by decide +kernel
theorem dX6_init_6 : decode cX6_init 6 = .ok (.newarray .int, 2) := by decide +kernel
theorem dX6_init_8 : decode cX6_init 8 = .ok (.putfield 9, 3) := by decide +kernel
theorem dX6_init_11 : decode cX6_init 11 = .ok (.aload_n 0, 1) := by decide +kernel
theorem dX6_init_12 : decode cX6_init 12 = .ok (.iconst 4, 1) := by decide +kernel
theorem dX6_init_13 : decode cX6_init 13 = .ok (.newarray .int, 2) := by decide +kernel
theorem dX6_init_15 : decode cX6_init 15 = .ok (.putfield 15, 3) := by decide +kernel
theorem dX6_init_18 : decode cX6_init 18 = .ok (.aload_n 0, 1) := by decide +kernel
theorem dX6_init_19 : decode cX6_init 19 = .ok (.aload_n 1, 1) := by decide +kernel
theorem dX6_init_20 : decode cX6_init 20 = .ok (.putfield 18, 3) := by decide +kernel
theorem dX6_init_23 : decode cX6_init 23 = .ok (.aload_n 0, 1) := by decide +kernel
theorem dX6_init_24 : decode cX6_init 24 = .ok (.aload_n 2, 1) := by decide +kernel
theorem dX6_init_25 : decode cX6_init 25 = .ok (.putfield 22, 3) := by decide +kernel
theorem dX6_init_28 : decode cX6_init 28 = .ok (.return_, 1) := by decide +kernel
theorem dX6_findCheapest_0 : decode cX6_findCheapest 0 = .ok (.aload_n 0, 1) := by decide +kernel
theorem dX6_findCheapest_1 : decode cX6_findCheapest 1 = .ok (.iload_n 1, 1) := by decide +kernel
theorem dX6_findCheapest_2 : decode cX6_findCheapest 2 = .ok (.putfield 26, 3) := by decide +kernel
theorem dX6_findCheapest_5 : decode cX6_findCheapest 5 = .ok (.aload_n 0, 1) := by decide +kernel
theorem dX6_findCheapest_6 : decode cX6_findCheapest 6 = .ok (.ldc 30, 2) := by decide +kernel
theorem dX6_findCheapest_8 : decode cX6_findCheapest 8 = .ok (.putfield 31, 3) := by decide +kernel
theorem dX6_findCheapest_11 : decode cX6_findCheapest 11 = .ok (.aload_n 0, 1) := by decide +kernel
theorem dX6_findCheapest_12 : decode cX6_findCheapest 12 = .ok (.getfield 22, 3) := by decide +kernel
theorem dX6_findCheapest_15 : decode cX6_findCheapest 15 = .ok (.aload_n 0, 1) := by decide +kernel
theorem dX6_findCheapest_16 : decode cX6_findCheapest 16 = .ok (.getfield 26, 3) := by decide +kernel
theorem dX6_findCheapest_19 : decode cX6_findCheapest 19 = .ok (.invokevirtual 34, 3) := by decide +kernel
theorem dX6_findCheapest_22 : decode cX6_findCheapest 22 = .ok (.aload_n 0, 1) := by decide +kernel
theorem dX6_findCheapest_23 : decode cX6_findCheapest 23 = .ok (.iconst 0, 1) := by decide +kernel
theorem dX6_findCheapest_24 : decode cX6_findCheapest 24 = .ok (.aload_n 0, 1) := by decide +kernel
theorem dX6_findCheapest_25 : decode cX6_findCheapest 25 = .ok (.getfield 18, 3) := by decide +kernel
theorem dX6_findCheapest_28 : decode cX6_findCheapest 28 = .ok (.getfield 40, 3) := by decide +kernel
theorem dX6_findCheapest_31 : decode cX6_findCheapest 31 = .ok (.invokevirtual 46, 3) := by decide +kernel
theorem dX6_findCheapest_34 : decode cX6_findCheapest 34 = .ok (.iconst 0, 1) := by decide +kernel
theorem dX6_findCheapest_35 : decode cX6_findCheapest 35 = .ok (.invokevirtual 52, 3) := by decide +kernel
theorem dX6_findCheapest_38 : decode cX6_findCheapest 38 = .ok (.return_, 1) := by decide +kernel
theorem dX6_dishOn_0 : decode cX6_dishOn 0 = .ok (.aload_n 0, 1) := by decide +kernel
theorem dX6_dishOn_1 : decode cX6_dishOn 1 = .ok (.getfield 15, 3) := by decide +kernel
theorem dX6_dishOn_4 : decode cX6_dishOn 4 = .ok (.iload_n 1, 1) := by decide +kernel
theorem dX6_dishOn_5 : decode cX6_dishOn 5 = .ok (.invokestatic 56, 3) := by decide +kernel
theorem dX6_dishOn_8 : decode cX6_dishOn 8 = .ok (.ireturn, 1) := by decide +kernel
theorem dX6_tryEvening_0 : decode cX6_tryEvening 0 = .ok (.iload_n 3, 1) := by decide +kernel
theorem dX6_tryEvening_1 : decode cX6_tryEvening 1 = .ok (.aload_n 0, 1) := by decide +kernel
theorem dX6_tryEvening_2 : decode cX6_tryEvening 2 = .ok (.getfield 31, 3) := by decide +kernel
theorem dX6_tryEvening_5 : decode cX6_tryEvening 5 = .ok (.if_icmp .lt 4, 3) := by decide +kernel
theorem dX6_tryEvening_8 : decode cX6_tryEvening 8 = .ok (.return_, 1) := by decide +kernel
theorem dX6_tryEvening_9 : decode cX6_tryEvening 9 = .ok (.iload_n 1, 1) := by decide +kernel
theorem dX6_tryEvening_10 : decode cX6_tryEvening 10 = .ok (.aload_n 0, 1) := by decide +kernel
theorem dX6_tryEvening_11 : decode cX6_tryEvening 11 = .ok (.getfield 26, 3) := by decide +kernel
theorem dX6_tryEvening_14 : decode cX6_tryEvening 14 = .ok (.if_icmp .lt 38, 3) := by decide +kernel
theorem dX6_tryEvening_17 : decode cX6_tryEvening 17 = .ok (.aload_n 0, 1) := by decide +kernel
theorem dX6_tryEvening_18 : decode cX6_tryEvening 18 = .ok (.iload_n 3, 1) := by decide +kernel
theorem dX6_tryEvening_19 : decode cX6_tryEvening 19 = .ok (.aload_n 0, 1) := by decide +kernel
theorem dX6_tryEvening_20 : decode cX6_tryEvening 20 = .ok (.getfield 18, 3) := by decide +kernel
theorem dX6_tryEvening_23 : decode cX6_tryEvening 23 = .ok (.getfield 60, 3) := by decide +kernel
theorem dX6_tryEvening_26 : decode cX6_tryEvening 26 = .ok (.getfield 64, 3) := by decide +kernel
theorem dX6_tryEvening_29 : decode cX6_tryEvening 29 = .ok (.iload_n 2, 1) := by decide +kernel
theorem dX6_tryEvening_30 : decode cX6_tryEvening 30 = .ok (.aload_n 0, 1) := by decide +kernel
theorem dX6_tryEvening_31 : decode cX6_tryEvening 31 = .ok (.getfield 22, 3) := by decide +kernel
theorem dX6_tryEvening_34 : decode cX6_tryEvening 34 = .ok (.aload_n 0, 1) := by decide +kernel
theorem dX6_tryEvening_35 : decode cX6_tryEvening 35 = .ok (.getfield 26, 3) := by decide +kernel
theorem dX6_tryEvening_38 : decode cX6_tryEvening 38 = .ok (.iconst 1, 1) := by decide +kernel
theorem dX6_tryEvening_39 : decode cX6_tryEvening 39 = .ok (.isub, 1) := by decide +kernel
theorem dX6_tryEvening_40 : decode cX6_tryEvening 40 = .ok (.invokevirtual 70, 3) := by decide +kernel
theorem dX6_tryEvening_43 : decode cX6_tryEvening 43 = .ok (.iand, 1) := by decide +kernel
theorem dX6_tryEvening_44 : decode cX6_tryEvening 44 = .ok (.invokevirtual 74, 3) := by decide +kernel
theorem dX6_tryEvening_47 : decode cX6_tryEvening 47 = .ok (.iadd, 1) := by decide +kernel
theorem dX6_tryEvening_48 : decode cX6_tryEvening 48 = .ok (.invokevirtual 79, 3) := by decide +kernel
theorem dX6_tryEvening_51 : decode cX6_tryEvening 51 = .ok (.return_, 1) := by decide +kernel
theorem dX6_tryEvening_52 : decode cX6_tryEvening 52 = .ok (.aload_n 0, 1) := by decide +kernel
theorem dX6_tryEvening_53 : decode cX6_tryEvening 53 = .ok (.getfield 9, 3) := by decide +kernel
theorem dX6_tryEvening_56 : decode cX6_tryEvening 56 = .ok (.iload_n 1, 1) := by decide +kernel
theorem dX6_tryEvening_57 : decode cX6_tryEvening 57 = .ok (.bipush (-4), 2) := by decide +kernel
theorem dX6_tryEvening_59 : decode cX6_tryEvening 59 = .ok (.invokestatic 82, 3) := by decide +kernel
theorem dX6_tryEvening_62 : decode cX6_tryEvening 62 = .ok (.aload_n 0, 1) := by decide +kernel
theorem dX6_tryEvening_63 : decode cX6_tryEvening 63 = .ok (.iload_n 1, 1) := by decide +kernel
theorem dX6_tryEvening_64 : decode cX6_tryEvening 64 = .ok (.iconst 1, 1) := by decide +kernel
theorem dX6_tryEvening_65 : decode cX6_tryEvening 65 = .ok (.iadd, 1) := by decide +kernel
theorem dX6_tryEvening_66 : decode cX6_tryEvening 66 = .ok (.iload_n 2, 1) := by decide +kernel
theorem dX6_tryEvening_67 : decode cX6_tryEvening 67 = .ok (.iload_n 3, 1) := by decide +kernel
theorem dX6_tryEvening_68 : decode cX6_tryEvening 68 = .ok (.bipush 10, 2) := by decide +kernel
theorem dX6_tryEvening_70 : decode cX6_tryEvening 70 = .ok (.aload_n 0, 1) := by decide +kernel
theorem dX6_tryEvening_71 : decode cX6_tryEvening 71 = .ok (.getfield 18, 3) := by decide +kernel
theorem dX6_tryEvening_74 : decode cX6_tryEvening 74 = .ok (.getfield 60, 3) := by decide +kernel
theorem dX6_tryEvening_77 : decode cX6_tryEvening 77 = .ok (.iconst 0, 1) := by decide +kernel
theorem dX6_tryEvening_78 : decode cX6_tryEvening 78 = .ok (.invokevirtual 86, 3) := by decide +kernel
theorem dX6_tryEvening_81 : decode cX6_tryEvening 81 = .ok (.imul, 1) := by decide +kernel
theorem dX6_tryEvening_82 : decode cX6_tryEvening 82 = .ok (.iadd, 1) := by decide +kernel
theorem dX6_tryEvening_83 : decode cX6_tryEvening 83 = .ok (.invokevirtual 52, 3) := by decide +kernel
theorem dX6_tryEvening_86 : decode cX6_tryEvening 86 = .ok (.iconst 0, 1) := by decide +kernel
theorem dX6_tryEvening_87 : decode cX6_tryEvening 87 = .ok (.istore 4, 2) := by decide +kernel
theorem dX6_tryEvening_89 : decode cX6_tryEvening 89 = .ok (.iload 4, 2) := by decide +kernel
theorem dX6_tryEvening_91 : decode cX6_tryEvening 91 = .ok (.aload_n 0, 1) := by decide +kernel
theorem dX6_tryEvening_92 : decode cX6_tryEvening 92 = .ok (.getfield 18, 3) := by decide +kernel
theorem dX6_tryEvening_95 : decode cX6_tryEvening 95 = .ok (.getfield 60, 3) := by decide +kernel
theorem dX6_tryEvening_98 : decode cX6_tryEvening 98 = .ok (.getfield 89, 3) := by decide +kernel
theorem dX6_tryEvening_101 : decode cX6_tryEvening 101 = .ok (.if_icmp .ge 78, 3) := by decide +kernel
theorem dX6_tryEvening_104 : decode cX6_tryEvening 104 = .ok (.aload_n 0, 1) := by decide +kernel
theorem dX6_tryEvening_105 : decode cX6_tryEvening 105 = .ok (.getfield 18, 3) := by decide +kernel
theorem dX6_tryEvening_108 : decode cX6_tryEvening 108 = .ok (.getfield 60, 3) := by decide +kernel
theorem dX6_tryEvening_111 : decode cX6_tryEvening 111 = .ok (.iload 4, 2) := by decide +kernel
theorem dX6_tryEvening_113 : decode cX6_tryEvening 113 = .ok (.invokevirtual 92, 3) := by decide +kernel
theorem dX6_tryEvening_116 : decode cX6_tryEvening 116 = .ok (.istore 5, 2) := by decide +kernel
theorem dX6_tryEvening_118 : decode cX6_tryEvening 118 = .ok (.aload_n 0, 1) := by decide +kernel
theorem dX6_tryEvening_119 : decode cX6_tryEvening 119 = .ok (.iload_n 1, 1) := by decide +kernel
theorem dX6_tryEvening_120 : decode cX6_tryEvening 120 = .ok (.iload_n 2, 1) := by decide +kernel
theorem dX6_tryEvening_121 : decode cX6_tryEvening 121 = .ok (.iload 5, 2) := by decide +kernel
theorem dX6_tryEvening_123 : decode cX6_tryEvening 123 = .ok (.invokevirtual 95, 3) := by decide +kernel
theorem dX6_tryEvening_126 : decode cX6_tryEvening 126 = .ok (.istore 6, 2) := by decide +kernel
theorem dX6_tryEvening_128 : decode cX6_tryEvening 128 = .ok (.iload 6, 2) := by decide +kernel
theorem dX6_tryEvening_130 : decode cX6_tryEvening 130 = .ok (.ifCond .eq 43, 3) := by decide +kernel
theorem dX6_tryEvening_133 : decode cX6_tryEvening 133 = .ok (.aload_n 0, 1) := by decide +kernel
theorem dX6_tryEvening_134 : decode cX6_tryEvening 134 = .ok (.getfield 9, 3) := by decide +kernel
theorem dX6_tryEvening_137 : decode cX6_tryEvening 137 = .ok (.iload_n 1, 1) := by decide +kernel
theorem dX6_tryEvening_138 : decode cX6_tryEvening 138 = .ok (.iload 4, 2) := by decide +kernel
theorem dX6_tryEvening_140 : decode cX6_tryEvening 140 = .ok (.invokestatic 82, 3) := by decide +kernel
theorem dX6_tryEvening_143 : decode cX6_tryEvening 143 = .ok (.aload_n 0, 1) := by decide +kernel
theorem dX6_tryEvening_144 : decode cX6_tryEvening 144 = .ok (.iload_n 1, 1) := by decide +kernel
theorem dX6_tryEvening_145 : decode cX6_tryEvening 145 = .ok (.iconst 1, 1) := by decide +kernel
theorem dX6_tryEvening_146 : decode cX6_tryEvening 146 = .ok (.iadd, 1) := by decide +kernel
theorem dX6_tryEvening_147 : decode cX6_tryEvening 147 = .ok (.iload_n 2, 1) := by decide +kernel
theorem dX6_tryEvening_148 : decode cX6_tryEvening 148 = .ok (.iload 6, 2) := by decide +kernel
theorem dX6_tryEvening_150 : decode cX6_tryEvening 150 = .ok (.iconst (-1), 1) := by decide +kernel
theorem dX6_tryEvening_151 : decode cX6_tryEvening 151 = .ok (.ixor, 1) := by decide +kernel
theorem dX6_tryEvening_152 : decode cX6_tryEvening 152 = .ok (.iand, 1) := by decide +kernel
theorem dX6_tryEvening_153 : decode cX6_tryEvening 153 = .ok (.iload_n 3, 1) := by decide +kernel
theorem dX6_tryEvening_154 : decode cX6_tryEvening 154 = .ok (.bipush 10, 2) := by decide +kernel
theorem dX6_tryEvening_156 : decode cX6_tryEvening 156 = .ok (.aload_n 0, 1) := by decide +kernel
theorem dX6_tryEvening_157 : decode cX6_tryEvening 157 = .ok (.getfield 18, 3) := by decide +kernel
theorem dX6_tryEvening_160 : decode cX6_tryEvening 160 = .ok (.getfield 60, 3) := by decide +kernel
theorem dX6_tryEvening_163 : decode cX6_tryEvening 163 = .ok (.iload 5, 2) := by decide +kernel
theorem dX6_tryEvening_165 : decode cX6_tryEvening 165 = .ok (.invokevirtual 86, 3) := by decide +kernel
theorem dX6_tryEvening_168 : decode cX6_tryEvening 168 = .ok (.imul, 1) := by decide +kernel
theorem dX6_tryEvening_169 : decode cX6_tryEvening 169 = .ok (.iadd, 1) := by decide +kernel
theorem dX6_tryEvening_170 : decode cX6_tryEvening 170 = .ok (.invokevirtual 52, 3) := by decide +kernel
theorem dX6_tryEvening_173 : decode cX6_tryEvening 173 = .ok (.iinc 4 1, 3) := by decide +kernel
theorem dX6_tryEvening_176 : decode cX6_tryEvening 176 = .ok (.goto (-87), 3) := by decide +kernel
theorem dX6_tryEvening_179 : decode cX6_tryEvening 179 = .ok (.return_, 1) := by decide +kernel
theorem dX6_eatenOn_0 : decode cX6_eatenOn 0 = .ok (.iload_n 2, 1) := by decide +kernel
theorem dX6_eatenOn_1 : decode cX6_eatenOn 1 = .ok (.aload_n 0, 1) := by decide +kernel
theorem dX6_eatenOn_2 : decode cX6_eatenOn 2 = .ok (.getfield 22, 3) := by decide +kernel
theorem dX6_eatenOn_5 : decode cX6_eatenOn 5 = .ok (.iload_n 1, 1) := by decide +kernel
theorem dX6_eatenOn_6 : decode cX6_eatenOn 6 = .ok (.invokevirtual 70, 3) := by decide +kernel
theorem dX6_eatenOn_9 : decode cX6_eatenOn 9 = .ok (.iconst (-1), 1) := by decide +kernel
theorem dX6_eatenOn_10 : decode cX6_eatenOn 10 = .ok (.ixor, 1) := by decide +kernel
theorem dX6_eatenOn_11 : decode cX6_eatenOn 11 = .ok (.iand, 1) := by decide +kernel
theorem dX6_eatenOn_12 : decode cX6_eatenOn 12 = .ok (.istore 4, 2) := by decide +kernel
theorem dX6_eatenOn_14 : decode cX6_eatenOn 14 = .ok (.iconst 0, 1) := by decide +kernel
theorem dX6_eatenOn_15 : decode cX6_eatenOn 15 = .ok (.istore 5, 2) := by decide +kernel
theorem dX6_eatenOn_17 : decode cX6_eatenOn 17 = .ok (.iconst 0, 1) := by decide +kernel
theorem dX6_eatenOn_18 : decode cX6_eatenOn 18 = .ok (.istore 6, 2) := by decide +kernel
theorem dX6_eatenOn_20 : decode cX6_eatenOn 20 = .ok (.iload 6, 2) := by decide +kernel
theorem dX6_eatenOn_22 : decode cX6_eatenOn 22 = .ok (.iconst 4, 1) := by decide +kernel
theorem dX6_eatenOn_23 : decode cX6_eatenOn 23 = .ok (.if_icmp .ge 60, 3) := by decide +kernel
theorem dX6_eatenOn_26 : decode cX6_eatenOn 26 = .ok (.iload_n 3, 1) := by decide +kernel
theorem dX6_eatenOn_27 : decode cX6_eatenOn 27 = .ok (.iload 6, 2) := by decide +kernel
theorem dX6_eatenOn_29 : decode cX6_eatenOn 29 = .ok (.invokestatic 99, 3) := by decide +kernel
theorem dX6_eatenOn_32 : decode cX6_eatenOn 32 = .ok (.ifCond .eq 45, 3) := by decide +kernel
theorem dX6_eatenOn_35 : decode cX6_eatenOn 35 = .ok (.aload_n 0, 1) := by decide +kernel
theorem dX6_eatenOn_36 : decode cX6_eatenOn 36 = .ok (.getfield 22, 3) := by decide +kernel
theorem dX6_eatenOn_39 : decode cX6_eatenOn 39 = .ok (.iload_n 1, 1) := by decide +kernel
theorem dX6_eatenOn_40 : decode cX6_eatenOn 40 = .ok (.iload 4, 2) := by decide +kernel
theorem dX6_eatenOn_42 : decode cX6_eatenOn 42 = .ok (.aload_n 0, 1) := by decide +kernel
theorem dX6_eatenOn_43 : decode cX6_eatenOn 43 = .ok (.getfield 18, 3) := by decide +kernel
theorem dX6_eatenOn_46 : decode cX6_eatenOn 46 = .ok (.getfield 60, 3) := by decide +kernel
theorem dX6_eatenOn_49 : decode cX6_eatenOn 49 = .ok (.getfield 64, 3) := by decide +kernel
theorem dX6_eatenOn_52 : decode cX6_eatenOn 52 = .ok (.iload 6, 2) := by decide +kernel
theorem dX6_eatenOn_54 : decode cX6_eatenOn 54 = .ok (.invokevirtual 103, 3) := by decide +kernel
theorem dX6_eatenOn_57 : decode cX6_eatenOn 57 = .ok (.iand, 1) := by decide +kernel
theorem dX6_eatenOn_58 : decode cX6_eatenOn 58 = .ok (.invokevirtual 106, 3) := by decide +kernel
theorem dX6_eatenOn_61 : decode cX6_eatenOn 61 = .ok (.istore 7, 2) := by decide +kernel
theorem dX6_eatenOn_63 : decode cX6_eatenOn 63 = .ok (.iload 7, 2) := by decide +kernel
theorem dX6_eatenOn_65 : decode cX6_eatenOn 65 = .ok (.ifCond .ne 5, 3) := by decide +kernel
theorem dX6_eatenOn_68 : decode cX6_eatenOn 68 = .ok (.iconst 0, 1) := by decide +kernel
theorem dX6_eatenOn_69 : decode cX6_eatenOn 69 = .ok (.ireturn, 1) := by decide +kernel
theorem dX6_eatenOn_70 : decode cX6_eatenOn 70 = .ok (.iload 5, 2) := by decide +kernel
theorem dX6_eatenOn_72 : decode cX6_eatenOn 72 = .ok (.iload 7, 2) := by decide +kernel
theorem dX6_eatenOn_74 : decode cX6_eatenOn 74 = .ok (.ior, 1) := by decide +kernel
theorem dX6_eatenOn_75 : decode cX6_eatenOn 75 = .ok (.istore 5, 2) := by decide +kernel
theorem dX6_eatenOn_77 : decode cX6_eatenOn 77 = .ok (.iinc 6 1, 3) := by decide +kernel
theorem dX6_eatenOn_80 : decode cX6_eatenOn 80 = .ok (.goto (-60), 3) := by decide +kernel
theorem dX6_eatenOn_83 : decode cX6_eatenOn 83 = .ok (.iload 5, 2) := by decide +kernel
theorem dX6_eatenOn_85 : decode cX6_eatenOn 85 = .ok (.ireturn, 1) := by decide +kernel
theorem dX6_settle_0 : decode cX6_settle 0 = .ok (.iload_n 1, 1) := by decide +kernel
theorem dX6_settle_1 : decode cX6_settle 1 = .ok (.aload_n 0, 1) := by decide +kernel
theorem dX6_settle_2 : decode cX6_settle 2 = .ok (.getfield 31, 3) := by decide +kernel
theorem dX6_settle_5 : decode cX6_settle 5 = .ok (.if_icmp .lt 4, 3) := by decide +kernel
theorem dX6_settle_8 : decode cX6_settle 8 = .ok (.return_, 1) := by decide +kernel
theorem dX6_settle_9 : decode cX6_settle 9 = .ok (.aload_n 0, 1) := by decide +kernel
theorem dX6_settle_10 : decode cX6_settle 10 = .ok (.iload_n 1, 1) := by decide +kernel
theorem dX6_settle_11 : decode cX6_settle 11 = .ok (.putfield 31, 3) := by decide +kernel
theorem dX6_settle_14 : decode cX6_settle 14 = .ok (.iconst 0, 1) := by decide +kernel
theorem dX6_settle_15 : decode cX6_settle 15 = .ok (.istore_n 2, 1) := by decide +kernel
theorem dX6_settle_16 : decode cX6_settle 16 = .ok (.iload_n 2, 1) := by decide +kernel
theorem dX6_settle_17 : decode cX6_settle 17 = .ok (.aload_n 0, 1) := by decide +kernel
theorem dX6_settle_18 : decode cX6_settle 18 = .ok (.getfield 26, 3) := by decide +kernel
theorem dX6_settle_21 : decode cX6_settle 21 = .ok (.if_icmp .ge 25, 3) := by decide +kernel
theorem dX6_settle_24 : decode cX6_settle 24 = .ok (.aload_n 0, 1) := by decide +kernel
theorem dX6_settle_25 : decode cX6_settle 25 = .ok (.getfield 15, 3) := by decide +kernel
theorem dX6_settle_28 : decode cX6_settle 28 = .ok (.iload_n 2, 1) := by decide +kernel
theorem dX6_settle_29 : decode cX6_settle 29 = .ok (.aload_n 0, 1) := by decide +kernel
theorem dX6_settle_30 : decode cX6_settle 30 = .ok (.getfield 9, 3) := by decide +kernel
theorem dX6_settle_33 : decode cX6_settle 33 = .ok (.iload_n 2, 1) := by decide +kernel
theorem dX6_settle_34 : decode cX6_settle 34 = .ok (.invokestatic 56, 3) := by decide +kernel
theorem dX6_settle_37 : decode cX6_settle 37 = .ok (.invokestatic 82, 3) := by decide +kernel
theorem dX6_settle_40 : decode cX6_settle 40 = .ok (.iinc 2 1, 3) := by decide +kernel
theorem dX6_settle_43 : decode cX6_settle 43 = .ok (.goto (-27), 3) := by decide +kernel
theorem dX6_settle_46 : decode cX6_settle 46 = .ok (.return_, 1) := by decide +kernel
theorem dX7_init_0 : decode cX7_init 0 = .ok (.aload_n 0, 1) := by decide +kernel
theorem dX7_init_1 : decode cX7_init 1 = .ok (.invokespecial 3, 3) := by decide +kernel
theorem dX7_init_4 : decode cX7_init 4 = .ok (.aload_n 0, 1) := by decide +kernel
theorem dX7_init_5 : decode cX7_init 5 = .ok (.bipush 8, 2) := by decide +kernel
theorem dX7_init_7 : decode cX7_init 7 = .ok (.newarray .int, 2) := by decide +kernel
theorem dX7_init_9 : decode cX7_init 9 = .ok (.putfield 9, 3) := by decide +kernel
theorem dX7_init_12 : decode cX7_init 12 = .ok (.aload_n 0, 1) := by decide +kernel
theorem dX7_init_13 : decode cX7_init 13 = .ok (.bipush 8, 2) := by decide +kernel
theorem dX7_init_15 : decode cX7_init 15 = .ok (.newarray .int, 2) := by decide +kernel
theorem dX7_init_17 : decode cX7_init 17 = .ok (.putfield 15, 3) := by decide +kernel
theorem dX7_init_20 : decode cX7_init 20 = .ok (.return_, 1) := by decide +kernel
theorem dX7_add_0 : decode cX7_add 0 = .ok (.aload_n 0, 1) := by decide +kernel
theorem dX7_add_1 : decode cX7_add 1 = .ok (.getfield 18, 3) := by decide +kernel
theorem dX7_add_4 : decode cX7_add 4 = .ok (.bipush 8, 2) := by decide +kernel
theorem dX7_add_6 : decode cX7_add 6 = .ok (.if_icmp .lt 5, 3) := by decide +kernel
theorem dX7_add_9 : decode cX7_add 9 = .ok (.iconst 0, 1) := by decide +kernel
theorem dX7_add_10 : decode cX7_add 10 = .ok (.ireturn, 1) := by decide +kernel
theorem dX7_add_11 : decode cX7_add 11 = .ok (.aload_n 0, 1) := by decide +kernel
theorem dX7_add_12 : decode cX7_add 12 = .ok (.getfield 9, 3) := by decide +kernel
theorem dX7_add_15 : decode cX7_add 15 = .ok (.aload_n 0, 1) := by decide +kernel
theorem dX7_add_16 : decode cX7_add 16 = .ok (.getfield 18, 3) := by decide +kernel
theorem dX7_add_19 : decode cX7_add 19 = .ok (.iload_n 1, 1) := by decide +kernel
theorem dX7_add_20 : decode cX7_add 20 = .ok (.invokestatic 22, 3) := by decide +kernel
theorem dX7_add_23 : decode cX7_add 23 = .ok (.aload_n 0, 1) := by decide +kernel
theorem dX7_add_24 : decode cX7_add 24 = .ok (.getfield 15, 3) := by decide +kernel
theorem dX7_add_27 : decode cX7_add 27 = .ok (.aload_n 0, 1) := by decide +kernel
theorem dX7_add_28 : decode cX7_add 28 = .ok (.getfield 18, 3) := by decide +kernel
theorem dX7_add_31 : decode cX7_add 31 = .ok (.iload_n 2, 1) := by decide +kernel
theorem dX7_add_32 : decode cX7_add 32 = .ok (.invokestatic 22, 3) := by decide +kernel
theorem dX7_add_35 : decode cX7_add 35 = .ok (.aload_n 0, 1) := by decide +kernel
theorem dX7_add_36 : decode cX7_add 36 = .ok (.dup, 1) := by decide +kernel
theorem dX7_add_37 : decode cX7_add 37 = .ok (.getfield 18, 3) := by decide +kernel
theorem dX7_add_40 : decode cX7_add 40 = .ok (.iconst 1, 1) := by decide +kernel
theorem dX7_add_41 : decode cX7_add 41 = .ok (.iadd, 1) := by decide +kernel
theorem dX7_add_42 : decode cX7_add 42 = .ok (.putfield 18, 3) := by decide +kernel
theorem dX7_add_45 : decode cX7_add 45 = .ok (.iconst 1, 1) := by decide +kernel
theorem dX7_add_46 : decode cX7_add 46 = .ok (.ireturn, 1) := by decide +kernel
theorem dX7_fittedBy_0 : decode cX7_fittedBy 0 = .ok (.iconst 0, 1) := by decide +kernel
theorem dX7_fittedBy_1 : decode cX7_fittedBy 1 = .ok (.istore_n 2, 1) := by decide +kernel
theorem dX7_fittedBy_2 : decode cX7_fittedBy 2 = .ok (.iconst 0, 1) := by decide +kernel
theorem dX7_fittedBy_3 : decode cX7_fittedBy 3 = .ok (.istore_n 3, 1) := by decide +kernel
theorem dX7_fittedBy_4 : decode cX7_fittedBy 4 = .ok (.iload_n 3, 1) := by decide +kernel
theorem dX7_fittedBy_5 : decode cX7_fittedBy 5 = .ok (.aload_n 0, 1) := by decide +kernel
theorem dX7_fittedBy_6 : decode cX7_fittedBy 6 = .ok (.getfield 18, 3) := by decide +kernel
theorem dX7_fittedBy_9 : decode cX7_fittedBy 9 = .ok (.if_icmp .ge 58, 3) := by decide +kernel
theorem dX7_fittedBy_12 : decode cX7_fittedBy 12 = .ok (.iload_n 1, 1) := by decide +kernel
theorem dX7_fittedBy_13 : decode cX7_fittedBy 13 = .ok (.aload_n 0, 1) := by decide +kernel
theorem dX7_fittedBy_14 : decode cX7_fittedBy 14 = .ok (.getfield 9, 3) := by decide +kernel
theorem dX7_fittedBy_17 : decode cX7_fittedBy 17 = .ok (.iload_n 3, 1) := by decide +kernel
theorem dX7_fittedBy_18 : decode cX7_fittedBy 18 = .ok (.invokestatic 26, 3) := by decide +kernel
theorem dX7_fittedBy_21 : decode cX7_fittedBy 21 = .ok (.iadd, 1) := by decide +kernel
theorem dX7_fittedBy_22 : decode cX7_fittedBy 22 = .ok (.istore 4, 2) := by decide +kernel
theorem dX7_fittedBy_24 : decode cX7_fittedBy 24 = .ok (.aload_n 0, 1) := by decide +kernel
theorem dX7_fittedBy_25 : decode cX7_fittedBy 25 = .ok (.getfield 15, 3) := by decide +kernel
theorem dX7_fittedBy_28 : decode cX7_fittedBy 28 = .ok (.iload_n 3, 1) := by decide +kernel
theorem dX7_fittedBy_29 : decode cX7_fittedBy 29 = .ok (.invokestatic 26, 3) := by decide +kernel
theorem dX7_fittedBy_32 : decode cX7_fittedBy 32 = .ok (.istore 5, 2) := by decide +kernel
theorem dX7_fittedBy_34 : decode cX7_fittedBy 34 = .ok (.iload 4, 2) := by decide +kernel
theorem dX7_fittedBy_36 : decode cX7_fittedBy 36 = .ok (.iload 5, 2) := by decide +kernel
theorem dX7_fittedBy_38 : decode cX7_fittedBy 38 = .ok (.imul, 1) := by decide +kernel
theorem dX7_fittedBy_39 : decode cX7_fittedBy 39 = .ok (.sipush 2400, 3) := by decide +kernel
theorem dX7_fittedBy_42 : decode cX7_fittedBy 42 = .ok (.if_icmp .lt 19, 3) := by decide +kernel
theorem dX7_fittedBy_45 : decode cX7_fittedBy 45 = .ok (.iload 4, 2) := by decide +kernel
theorem dX7_fittedBy_47 : decode cX7_fittedBy 47 = .ok (.iload 5, 2) := by decide +kernel
theorem dX7_fittedBy_49 : decode cX7_fittedBy 49 = .ok (.iconst 1, 1) := by decide +kernel
theorem dX7_fittedBy_50 : decode cX7_fittedBy 50 = .ok (.isub, 1) := by decide +kernel
theorem dX7_fittedBy_51 : decode cX7_fittedBy 51 = .ok (.imul, 1) := by decide +kernel
theorem dX7_fittedBy_52 : decode cX7_fittedBy 52 = .ok (.sipush 2400, 3) := by decide +kernel
theorem dX7_fittedBy_55 : decode cX7_fittedBy 55 = .ok (.if_icmp .ge 6, 3) := by decide +kernel
theorem dX7_fittedBy_58 : decode cX7_fittedBy 58 = .ok (.iinc 2 1, 3) := by decide +kernel
theorem dX7_fittedBy_61 : decode cX7_fittedBy 61 = .ok (.iinc 3 1, 3) := by decide +kernel
theorem dX7_fittedBy_64 : decode cX7_fittedBy 64 = .ok (.goto (-60), 3) := by decide +kernel
theorem dX7_fittedBy_67 : decode cX7_fittedBy 67 = .ok (.iload_n 2, 1) := by decide +kernel
theorem dX7_fittedBy_68 : decode cX7_fittedBy 68 = .ok (.ireturn, 1) := by decide +kernel
theorem dX7_bestLaw_0 : decode cX7_bestLaw 0 = .ok (.iconst 0, 1) := by decide +kernel
theorem dX7_bestLaw_1 : decode cX7_bestLaw 1 = .ok (.istore_n 1, 1) := by decide +kernel
theorem dX7_bestLaw_2 : decode cX7_bestLaw 2 = .ok (.iconst 1, 1) := by decide +kernel
theorem dX7_bestLaw_3 : decode cX7_bestLaw 3 = .ok (.istore_n 2, 1) := by decide +kernel
theorem dX7_bestLaw_4 : decode cX7_bestLaw 4 = .ok (.iload_n 2, 1) := by decide +kernel
theorem dX7_bestLaw_5 : decode cX7_bestLaw 5 = .ok (.bipush 40, 2) := by decide +kernel
theorem dX7_bestLaw_7 : decode cX7_bestLaw 7 = .ok (.if_icmp .gt 24, 3) := by decide +kernel
theorem dX7_bestLaw_10 : decode cX7_bestLaw 10 = .ok (.aload_n 0, 1) := by decide +kernel
theorem dX7_bestLaw_11 : decode cX7_bestLaw 11 = .ok (.iload_n 2, 1) := by decide +kernel
theorem dX7_bestLaw_12 : decode cX7_bestLaw 12 = .ok (.invokevirtual 30, 3) := by decide +kernel
theorem dX7_bestLaw_15 : decode cX7_bestLaw 15 = .ok (.aload_n 0, 1) := by decide +kernel
theorem dX7_bestLaw_16 : decode cX7_bestLaw 16 = .ok (.iload_n 1, 1) := by decide +kernel
theorem dX7_bestLaw_17 : decode cX7_bestLaw 17 = .ok (.invokevirtual 30, 3) := by decide +kernel
theorem dX7_bestLaw_20 : decode cX7_bestLaw 20 = .ok (.if_icmp .le 5, 3) := by decide +kernel
theorem dX7_bestLaw_23 : decode cX7_bestLaw 23 = .ok (.iload_n 2, 1) := by decide +kernel
theorem dX7_bestLaw_24 : decode cX7_bestLaw 24 = .ok (.istore_n 1, 1) := by decide +kernel
theorem dX7_bestLaw_25 : decode cX7_bestLaw 25 = .ok (.iinc 2 1, 3) := by decide +kernel
theorem dX7_bestLaw_28 : decode cX7_bestLaw 28 = .ok (.goto (-24), 3) := by decide +kernel
theorem dX7_bestLaw_31 : decode cX7_bestLaw 31 = .ok (.iload_n 1, 1) := by decide +kernel
theorem dX7_bestLaw_32 : decode cX7_bestLaw 32 = .ok (.ireturn, 1) := by decide +kernel
theorem dX8_init_0 : decode cX8_init 0 = .ok (.aload_n 0, 1) := by decide +kernel
theorem dX8_init_1 : decode cX8_init 1 = .ok (.invokespecial 3, 3) := by decide +kernel
theorem dX8_init_4 : decode cX8_init 4 = .ok (.aload_n 0, 1) := by decide +kernel
theorem dX8_init_5 : decode cX8_init 5 = .ok (.bipush 10, 2) := by decide +kernel
theorem dX8_init_7 : decode cX8_init 7 = .ok (.newarray .int, 2) := by decide +kernel
theorem dX8_init_9 : decode cX8_init 9 = .ok (.putfield 9, 3) := by decide +kernel
theorem dX8_init_12 : decode cX8_init 12 = .ok (.aload_n 0, 1) := by decide +kernel
theorem dX8_init_13 : decode cX8_init 13 = .ok (.bipush 10, 2) := by decide +kernel
theorem dX8_init_15 : decode cX8_init 15 = .ok (.newarray .int, 2) := by decide +kernel
theorem dX8_init_17 : decode cX8_init 17 = .ok (.putfield 15, 3) := by decide +kernel
theorem dX8_init_20 : decode cX8_init 20 = .ok (.aload_n 0, 1) := by decide +kernel
theorem dX8_init_21 : decode cX8_init 21 = .ok (.bipush 10, 2) := by decide +kernel
theorem dX8_init_23 : decode cX8_init 23 = .ok (.newarray .int, 2) := by decide +kernel
theorem dX8_init_25 : decode cX8_init 25 = .ok (.putfield 18, 3) := by decide +kernel
theorem dX8_init_28 : decode cX8_init 28 = .ok (.aload_n 0, 1) := by decide +kernel
theorem dX8_init_29 : decode cX8_init 29 = .ok (.bipush 10, 2) := by decide +kernel
theorem dX8_init_31 : decode cX8_init 31 = .ok (.newarray .int, 2) := by decide +kernel
theorem dX8_init_33 : decode cX8_init 33 = .ok (.putfield 21, 3) := by decide +kernel
theorem dX8_init_36 : decode cX8_init 36 = .ok (.aload_n 0, 1) := by decide +kernel
theorem dX8_init_37 : decode cX8_init 37 = .ok (.bipush 10, 2) := by decide +kernel
theorem dX8_init_39 : decode cX8_init 39 = .ok (.newarray .int, 2) := by decide +kernel
theorem dX8_init_41 : decode cX8_init 41 = .ok (.putfield 24, 3) := by decide +kernel
theorem dX8_init_44 : decode cX8_init 44 = .ok (.return_, 1) := by decide +kernel
theorem dX8_start_0 : decode cX8_start 0 = .ok (.aload_n 0, 1) := by decide +kernel
theorem dX8_start_1 : decode cX8_start 1 = .ok (.aload_n 1, 1) := by decide +kernel
theorem dX8_start_2 : decode cX8_start 2 = .ok (.getfield 27, 3) := by decide +kernel
theorem dX8_start_5 : decode cX8_start 5 = .ok (.putfield 33, 3) := by decide +kernel
theorem dX8_start_8 : decode cX8_start 8 = .ok (.aload_n 0, 1) := by decide +kernel
theorem dX8_start_9 : decode cX8_start 9 = .ok (.iconst 0, 1) := by decide +kernel
theorem dX8_start_10 : decode cX8_start 10 = .ok (.putfield 34, 3) := by decide +kernel
theorem dX8_start_13 : decode cX8_start 13 = .ok (.iconst 0, 1) := by decide +kernel
theorem dX8_start_14 : decode cX8_start 14 = .ok (.istore_n 2, 1) := by decide +kernel
theorem dX8_start_15 : decode cX8_start 15 = .ok (.iload_n 2, 1) := by decide +kernel
theorem dX8_start_16 : decode cX8_start 16 = .ok (.aload_n 0, 1) := by decide +kernel
theorem dX8_start_17 : decode cX8_start 17 = .ok (.getfield 33, 3) := by decide +kernel
theorem dX8_start_20 : decode cX8_start 20 = .ok (.if_icmp .ge 62, 3) := by decide +kernel
theorem dX8_start_23 : decode cX8_start 23 = .ok (.aload_n 0, 1) := by decide +kernel
theorem dX8_start_24 : decode cX8_start 24 = .ok (.getfield 9, 3) := by decide +kernel
theorem dX8_start_27 : decode cX8_start 27 = .ok (.iload_n 2, 1) := by decide +kernel
theorem dX8_start_28 : decode cX8_start 28 = .ok (.aload_n 1, 1) := by decide +kernel
theorem dX8_start_29 : decode cX8_start 29 = .ok (.iload_n 2, 1) := by decide +kernel
theorem dX8_start_30 : decode cX8_start 30 = .ok (.invokevirtual 37, 3) := by decide +kernel
theorem dX8_start_33 : decode cX8_start 33 = .ok (.invokestatic 41, 3) := by decide +kernel
theorem dX8_start_36 : decode cX8_start 36 = .ok (.aload_n 0, 1) := by decide +kernel
theorem dX8_start_37 : decode cX8_start 37 = .ok (.getfield 15, 3) := by decide +kernel
theorem dX8_start_40 : decode cX8_start 40 = .ok (.iload_n 2, 1) := by decide +kernel
theorem dX8_start_41 : decode cX8_start 41 = .ok (.aload_n 1, 1) := by decide +kernel
theorem dX8_start_42 : decode cX8_start 42 = .ok (.iload_n 2, 1) := by decide +kernel
theorem dX8_start_43 : decode cX8_start 43 = .ok (.invokevirtual 45, 3) := by decide +kernel
theorem dX8_start_46 : decode cX8_start 46 = .ok (.invokestatic 41, 3) := by decide +kernel
theorem dX8_start_49 : decode cX8_start 49 = .ok (.aload_n 0, 1) := by decide +kernel
theorem dX8_start_50 : decode cX8_start 50 = .ok (.getfield 18, 3) := by decide +kernel
theorem dX8_start_53 : decode cX8_start 53 = .ok (.iload_n 2, 1) := by decide +kernel
theorem dX8_start_54 : decode cX8_start 54 = .ok (.iconst 0, 1) := by decide +kernel
theorem dX8_start_55 : decode cX8_start 55 = .ok (.invokestatic 41, 3) := by decide +kernel
theorem dX8_start_58 : decode cX8_start 58 = .ok (.aload_n 0, 1) := by decide +kernel
theorem dX8_start_59 : decode cX8_start 59 = .ok (.getfield 21, 3) := by decide +kernel
theorem dX8_start_62 : decode cX8_start 62 = .ok (.iload_n 2, 1) := by decide +kernel
theorem dX8_start_63 : decode cX8_start 63 = .ok (.iconst 0, 1) := by decide +kernel
theorem dX8_start_64 : decode cX8_start 64 = .ok (.invokestatic 41, 3) := by decide +kernel
theorem dX8_start_67 : decode cX8_start 67 = .ok (.aload_n 0, 1) := by decide +kernel
theorem dX8_start_68 : decode cX8_start 68 = .ok (.getfield 24, 3) := by decide +kernel
theorem dX8_start_71 : decode cX8_start 71 = .ok (.iload_n 2, 1) := by decide +kernel
theorem dX8_start_72 : decode cX8_start 72 = .ok (.iconst 0, 1) := by decide +kernel
theorem dX8_start_73 : decode cX8_start 73 = .ok (.invokestatic 41, 3) := by decide +kernel
theorem dX8_start_76 : decode cX8_start 76 = .ok (.iinc 2 1, 3) := by decide +kernel
theorem dX8_start_79 : decode cX8_start 79 = .ok (.goto (-64), 3) := by decide +kernel
theorem dX8_start_82 : decode cX8_start 82 = .ok (.return_, 1) := by decide +kernel
theorem dX8_copyFrom_0 : decode cX8_copyFrom 0 = .ok (.aload_n 0, 1) := by decide +kernel
theorem dX8_copyFrom_1 : decode cX8_copyFrom 1 = .ok (.aload_n 1, 1) := by decide +kernel
theorem dX8_copyFrom_2 : decode cX8_copyFrom 2 = .ok (.getfield 33, 3) := by decide +kernel
theorem dX8_copyFrom_5 : decode cX8_copyFrom 5 = .ok (.putfield 33, 3) := by decide +kernel
theorem dX8_copyFrom_8 : decode cX8_copyFrom 8 = .ok (.aload_n 0, 1) := by decide +kernel
theorem dX8_copyFrom_9 : decode cX8_copyFrom 9 = .ok (.aload_n 1, 1) := by decide +kernel
theorem dX8_copyFrom_10 : decode cX8_copyFrom 10 = .ok (.getfield 34, 3) := by decide +kernel
theorem dX8_copyFrom_13 : decode cX8_copyFrom 13 = .ok (.putfield 34, 3) := by decide +kernel
theorem dX8_copyFrom_16 : decode cX8_copyFrom 16 = .ok (.iconst 0, 1) := by decide +kernel
theorem dX8_copyFrom_17 : decode cX8_copyFrom 17 = .ok (.istore_n 2, 1) := by decide +kernel
theorem dX8_copyFrom_18 : decode cX8_copyFrom 18 = .ok (.iload_n 2, 1) := by decide +kernel
theorem dX8_copyFrom_19 : decode cX8_copyFrom 19 = .ok (.aload_n 0, 1) := by decide +kernel
theorem dX8_copyFrom_20 : decode cX8_copyFrom 20 = .ok (.getfield 33, 3) := by decide +kernel
theorem dX8_copyFrom_23 : decode cX8_copyFrom 23 = .ok (.if_icmp .ge 89, 3) := by decide +kernel
theorem dX8_copyFrom_26 : decode cX8_copyFrom 26 = .ok (.aload_n 0, 1) := by decide +kernel
theorem dX8_copyFrom_27 : decode cX8_copyFrom 27 = .ok (.getfield 9, 3) := by decide +kernel
theorem dX8_copyFrom_30 : decode cX8_copyFrom 30 = .ok (.iload_n 2, 1) := by decide +kernel
theorem dX8_copyFrom_31 : decode cX8_copyFrom 31 = .ok (.aload_n 1, 1) := by decide +kernel
theorem dX8_copyFrom_32 : decode cX8_copyFrom 32 = .ok (.getfield 9, 3) := by decide +kernel
theorem dX8_copyFrom_35 : decode cX8_copyFrom 35 = .ok (.iload_n 2, 1) := by decide +kernel
theorem dX8_copyFrom_36 : decode cX8_copyFrom 36 = .ok (.invokestatic 48, 3) := by decide +kernel
theorem dX8_copyFrom_39 : decode cX8_copyFrom 39 = .ok (.invokestatic 41, 3) := by decide +kernel
theorem dX8_copyFrom_42 : decode cX8_copyFrom 42 = .ok (.aload_n 0, 1) := by decide +kernel
theorem dX8_copyFrom_43 : decode cX8_copyFrom 43 = .ok (.getfield 15, 3) := by decide +kernel
theorem dX8_copyFrom_46 : decode cX8_copyFrom 46 = .ok (.iload_n 2, 1) := by decide +kernel
theorem dX8_copyFrom_47 : decode cX8_copyFrom 47 = .ok (.aload_n 1, 1) := by decide +kernel
theorem dX8_copyFrom_48 : decode cX8_copyFrom 48 = .ok (.getfield 15, 3) := by decide +kernel
theorem dX8_copyFrom_51 : decode cX8_copyFrom 51 = .ok (.iload_n 2, 1) := by decide +kernel
theorem dX8_copyFrom_52 : decode cX8_copyFrom 52 = .ok (.invokestatic 48, 3) := by decide +kernel
theorem dX8_copyFrom_55 : decode cX8_copyFrom 55 = .ok (.invokestatic 41, 3) := by decide +kernel
theorem dX8_copyFrom_58 : decode cX8_copyFrom 58 = .ok (.aload_n 0, 1) := by decide +kernel
theorem dX8_copyFrom_59 : decode cX8_copyFrom 59 = .ok (.getfield 18, 3) := by decide +kernel
theorem dX8_copyFrom_62 : decode cX8_copyFrom 62 = .ok (.iload_n 2, 1) := by decide +kernel
theorem dX8_copyFrom_63 : decode cX8_copyFrom 63 = .ok (.aload_n 1, 1) := by decide +kernel
theorem dX8_copyFrom_64 : decode cX8_copyFrom 64 = .ok (.getfield 18, 3) := by decide +kernel
theorem dX8_copyFrom_67 : decode cX8_copyFrom 67 = .ok (.iload_n 2, 1) := by decide +kernel
theorem dX8_copyFrom_68 : decode cX8_copyFrom 68 = .ok (.invokestatic 48, 3) := by decide +kernel
theorem dX8_copyFrom_71 : decode cX8_copyFrom 71 = .ok (.invokestatic 41, 3) := by decide +kernel
theorem dX8_copyFrom_74 : decode cX8_copyFrom 74 = .ok (.aload_n 0, 1) := by decide +kernel
theorem dX8_copyFrom_75 : decode cX8_copyFrom 75 = .ok (.getfield 21, 3) := by decide +kernel
theorem dX8_copyFrom_78 : decode cX8_copyFrom 78 = .ok (.iload_n 2, 1) := by decide +kernel
theorem dX8_copyFrom_79 : decode cX8_copyFrom 79 = .ok (.aload_n 1, 1) := by decide +kernel
theorem dX8_copyFrom_80 : decode cX8_copyFrom 80 = .ok (.getfield 21, 3) := by decide +kernel
theorem dX8_copyFrom_83 : decode cX8_copyFrom 83 = .ok (.iload_n 2, 1) := by decide +kernel
theorem dX8_copyFrom_84 : decode cX8_copyFrom 84 = .ok (.invokestatic 48, 3) := by decide +kernel
theorem dX8_copyFrom_87 : decode cX8_copyFrom 87 = .ok (.invokestatic 41, 3) := by decide +kernel
theorem dX8_copyFrom_90 : decode cX8_copyFrom 90 = .ok (.aload_n 0, 1) := by decide +kernel
theorem dX8_copyFrom_91 : decode cX8_copyFrom 91 = .ok (.getfield 24, 3) := by decide +kernel
theorem dX8_copyFrom_94 : decode cX8_copyFrom 94 = .ok (.iload_n 2, 1) := by decide +kernel
theorem dX8_copyFrom_95 : decode cX8_copyFrom 95 = .ok (.aload_n 1, 1) := by decide +kernel
theorem dX8_copyFrom_96 : decode cX8_copyFrom 96 = .ok (.getfield 24, 3) := by decide +kernel
theorem dX8_copyFrom_99 : decode cX8_copyFrom 99 = .ok (.iload_n 2, 1) := by decide +kernel
theorem dX8_copyFrom_100 : decode cX8_copyFrom 100 = .ok (.invokestatic 48, 3) := by decide +kernel
theorem dX8_copyFrom_103 : decode cX8_copyFrom 103 = .ok (.invokestatic 41, 3) := by decide +kernel
theorem dX8_copyFrom_106 : decode cX8_copyFrom 106 = .ok (.iinc 2 1, 3) := by decide +kernel
theorem dX8_copyFrom_109 : decode cX8_copyFrom 109 = .ok (.goto (-91), 3) := by decide +kernel
theorem dX8_copyFrom_112 : decode cX8_copyFrom 112 = .ok (.return_, 1) := by decide +kernel
theorem dX8_kindOf_0 : decode cX8_kindOf 0 = .ok (.aload_n 0, 1) := by decide +kernel
theorem dX8_kindOf_1 : decode cX8_kindOf 1 = .ok (.getfield 9, 3) := by decide +kernel
theorem dX8_kindOf_4 : decode cX8_kindOf 4 = .ok (.iload_n 1, 1) := by decide +kernel
theorem dX8_kindOf_5 : decode cX8_kindOf 5 = .ok (.invokestatic 48, 3) := by decide +kernel
theorem dX8_kindOf_8 : decode cX8_kindOf 8 = .ok (.ireturn, 1) := by decide +kernel
theorem dX8_turnInto_0 : decode cX8_turnInto 0 = .ok (.aload_n 0, 1) := by decide +kernel
theorem dX8_turnInto_1 : decode cX8_turnInto 1 = .ok (.getfield 9, 3) := by decide +kernel
theorem dX8_turnInto_4 : decode cX8_turnInto 4 = .ok (.iload_n 1, 1) := by decide +kernel
theorem dX8_turnInto_5 : decode cX8_turnInto 5 = .ok (.iload_n 2, 1) := by decide +kernel
theorem dX8_turnInto_6 : decode cX8_turnInto 6 = .ok (.invokestatic 41, 3) := by decide +kernel
theorem dX8_turnInto_9 : decode cX8_turnInto 9 = .ok (.return_, 1) := by decide +kernel
theorem dX8_cellOf_0 : decode cX8_cellOf 0 = .ok (.aload_n 0, 1) := by decide +kernel
theorem dX8_cellOf_1 : decode cX8_cellOf 1 = .ok (.getfield 15, 3) := by decide +kernel
theorem dX8_cellOf_4 : decode cX8_cellOf 4 = .ok (.iload_n 1, 1) := by decide +kernel
theorem dX8_cellOf_5 : decode cX8_cellOf 5 = .ok (.invokestatic 48, 3) := by decide +kernel
theorem dX8_cellOf_8 : decode cX8_cellOf 8 = .ok (.ireturn, 1) := by decide +kernel
theorem dX8_putInto_0 : decode cX8_putInto 0 = .ok (.aload_n 0, 1) := by decide +kernel
theorem dX8_putInto_1 : decode cX8_putInto 1 = .ok (.getfield 15, 3) := by decide +kernel
theorem dX8_putInto_4 : decode cX8_putInto 4 = .ok (.iload_n 1, 1) := by decide +kernel
theorem dX8_putInto_5 : decode cX8_putInto 5 = .ok (.iload_n 2, 1) := by decide +kernel
theorem dX8_putInto_6 : decode cX8_putInto 6 = .ok (.invokestatic 41, 3) := by decide +kernel
theorem dX8_putInto_9 : decode cX8_putInto 9 = .ok (.return_, 1) := by decide +kernel
theorem dX8_ageOf_0 : decode cX8_ageOf 0 = .ok (.aload_n 0, 1) := by decide +kernel
theorem dX8_ageOf_1 : decode cX8_ageOf 1 = .ok (.getfield 18, 3) := by decide +kernel
theorem dX8_ageOf_4 : decode cX8_ageOf 4 = .ok (.iload_n 1, 1) := by decide +kernel
theorem dX8_ageOf_5 : decode cX8_ageOf 5 = .ok (.invokestatic 48, 3) := by decide +kernel
theorem dX8_ageOf_8 : decode cX8_ageOf 8 = .ok (.ireturn, 1) := by decide +kernel
theorem dX8_ageTo_0 : decode cX8_ageTo 0 = .ok (.aload_n 0, 1) := by decide +kernel
theorem dX8_ageTo_1 : decode cX8_ageTo 1 = .ok (.getfield 18, 3) := by decide +kernel
theorem dX8_ageTo_4 : decode cX8_ageTo 4 = .ok (.iload_n 1, 1) := by decide +kernel
theorem dX8_ageTo_5 : decode cX8_ageTo 5 = .ok (.iload_n 2, 1) := by decide +kernel
theorem dX8_ageTo_6 : decode cX8_ageTo 6 = .ok (.invokestatic 41, 3) := by decide +kernel
theorem dX8_ageTo_9 : decode cX8_ageTo 9 = .ok (.return_, 1) := by decide +kernel
theorem dX8_fateOf_0 : decode cX8_fateOf 0 = .ok (.aload_n 0, 1) := by decide +kernel
theorem dX8_fateOf_1 : decode cX8_fateOf 1 = .ok (.getfield 21, 3) := by decide +kernel
theorem dX8_fateOf_4 : decode cX8_fateOf 4 = .ok (.iload_n 1, 1) := by decide +kernel
theorem dX8_fateOf_5 : decode cX8_fateOf 5 = .ok (.invokestatic 48, 3) := by decide +kernel
theorem dX8_fateOf_8 : decode cX8_fateOf 8 = .ok (.ireturn, 1) := by decide +kernel
theorem dX8_takeOut_0 : decode cX8_takeOut 0 = .ok (.aload_n 0, 1) := by decide +kernel
theorem dX8_takeOut_1 : decode cX8_takeOut 1 = .ok (.getfield 21, 3) := by decide +kernel
theorem dX8_takeOut_4 : decode cX8_takeOut 4 = .ok (.iload_n 1, 1) := by decide +kernel
theorem dX8_takeOut_5 : decode cX8_takeOut 5 = .ok (.iload_n 2, 1) := by decide +kernel
theorem dX8_takeOut_6 : decode cX8_takeOut 6 = .ok (.invokestatic 41, 3) := by decide +kernel
theorem dX8_takeOut_9 : decode cX8_takeOut 9 = .ok (.aload_n 0, 1) := by decide +kernel
theorem dX8_takeOut_10 : decode cX8_takeOut 10 = .ok (.getfield 24, 3) := by decide +kernel
theorem dX8_takeOut_13 : decode cX8_takeOut 13 = .ok (.iload_n 1, 1) := by decide +kernel
theorem dX8_takeOut_14 : decode cX8_takeOut 14 = .ok (.aload_n 0, 1) := by decide +kernel
theorem dX8_takeOut_15 : decode cX8_takeOut 15 = .ok (.getfield 34, 3) := by decide +kernel
theorem dX8_takeOut_18 : decode cX8_takeOut 18 = .ok (.invokestatic 41, 3) := by decide +kernel
theorem dX8_takeOut_21 : decode cX8_takeOut 21 = .ok (.return_, 1) := by decide +kernel
theorem dX8_hoursSinceLeft_0 : decode cX8_hoursSinceLeft 0 = .ok (.aload_n 0, 1) := by decide +kernel
theorem dX8_hoursSinceLeft_1 : decode cX8_hoursSinceLeft 1 = .ok (.getfield 34, 3) := by decide +kernel
theorem dX8_hoursSinceLeft_4 : decode cX8_hoursSinceLeft 4 = .ok (.aload_n 0, 1) := by decide +kernel
theorem dX8_hoursSinceLeft_5 : decode cX8_hoursSinceLeft 5 = .ok (.getfield 24, 3) := by decide +kernel
theorem dX8_hoursSinceLeft_8 : decode cX8_hoursSinceLeft 8 = .ok (.iload_n 1, 1) := by decide +kernel
theorem dX8_hoursSinceLeft_9 : decode cX8_hoursSinceLeft 9 = .ok (.invokestatic 48, 3) := by decide +kernel
theorem dX8_hoursSinceLeft_12 : decode cX8_hoursSinceLeft 12 = .ok (.isub, 1) := by decide +kernel
theorem dX8_hoursSinceLeft_13 : decode cX8_hoursSinceLeft 13 = .ok (.ireturn, 1) := by decide +kernel
theorem dX8_isThere_0 : decode cX8_isThere 0 = .ok (.iload_n 1, 1) := by decide +kernel
theorem dX8_isThere_1 : decode cX8_isThere 1 = .ok (.ifCond .lt 26, 3) := by decide +kernel
theorem dX8_isThere_4 : decode cX8_isThere 4 = .ok (.iload_n 1, 1) := by decide +kernel
theorem dX8_isThere_5 : decode cX8_isThere 5 = .ok (.aload_n 0, 1) := by decide +kernel
theorem dX8_isThere_6 : decode cX8_isThere 6 = .ok (.getfield 33, 3) := by decide +kernel
theorem dX8_isThere_9 : decode cX8_isThere 9 = .ok (.if_icmp .ge 18, 3) := by decide +kernel
theorem dX8_isThere_12 : decode cX8_isThere 12 = .ok (.aload_n 0, 1) := by decide +kernel
theorem dX8_isThere_13 : decode cX8_isThere 13 = .ok (.getfield 21, 3) := by decide +kernel
theorem dX8_isThere_16 : decode cX8_isThere 16 = .ok (.iload_n 1, 1) := by decide +kernel
theorem dX8_isThere_17 : decode cX8_isThere 17 = .ok (.invokestatic 48, 3) := by decide +kernel
theorem dX8_isThere_20 : decode cX8_isThere 20 = .ok (.ifCond .ne 7, 3) := by decide +kernel
theorem dX8_isThere_23 : decode cX8_isThere 23 = .ok (.iconst 1, 1) := by decide +kernel
theorem dX8_isThere_24 : decode cX8_isThere 24 = .ok (.goto 4, 3) := by decide +kernel
theorem dX8_isThere_27 : decode cX8_isThere 27 = .ok (.iconst 0, 1) := by decide +kernel
theorem dX8_isThere_28 : decode cX8_isThere 28 = .ok (.ireturn, 1) := by decide +kernel
theorem dX8_bitsThere_0 : decode cX8_bitsThere 0 = .ok (.iconst 0, 1) := by decide +kernel
theorem dX8_bitsThere_1 : decode cX8_bitsThere 1 = .ok (.istore_n 1, 1) := by decide +kernel
theorem dX8_bitsThere_2 : decode cX8_bitsThere 2 = .ok (.iconst 0, 1) := by decide +kernel
theorem dX8_bitsThere_3 : decode cX8_bitsThere 3 = .ok (.istore_n 2, 1) := by decide +kernel
theorem dX8_bitsThere_4 : decode cX8_bitsThere 4 = .ok (.iload_n 2, 1) := by decide +kernel
theorem dX8_bitsThere_5 : decode cX8_bitsThere 5 = .ok (.aload_n 0, 1) := by decide +kernel
theorem dX8_bitsThere_6 : decode cX8_bitsThere 6 = .ok (.getfield 33, 3) := by decide +kernel
theorem dX8_bitsThere_9 : decode cX8_bitsThere 9 = .ok (.if_icmp .ge 23, 3) := by decide +kernel
theorem dX8_bitsThere_12 : decode cX8_bitsThere 12 = .ok (.aload_n 0, 1) := by decide +kernel
theorem dX8_bitsThere_13 : decode cX8_bitsThere 13 = .ok (.iload_n 2, 1) := by decide +kernel
theorem dX8_bitsThere_14 : decode cX8_bitsThere 14 = .ok (.invokevirtual 52, 3) := by decide +kernel
theorem dX8_bitsThere_17 : decode cX8_bitsThere 17 = .ok (.ifCond .eq 9, 3) := by decide +kernel
theorem dX8_bitsThere_20 : decode cX8_bitsThere 20 = .ok (.iload_n 1, 1) := by decide +kernel
theorem dX8_bitsThere_21 : decode cX8_bitsThere 21 = .ok (.iconst 1, 1) := by decide +kernel
theorem dX8_bitsThere_22 : decode cX8_bitsThere 22 = .ok (.iload_n 2, 1) := by decide +kernel
theorem dX8_bitsThere_23 : decode cX8_bitsThere 23 = .ok (.ishl, 1) := by decide +kernel
theorem dX8_bitsThere_24 : decode cX8_bitsThere 24 = .ok (.ior, 1) := by decide +kernel
theorem dX8_bitsThere_25 : decode cX8_bitsThere 25 = .ok (.istore_n 1, 1) := by decide +kernel
theorem dX8_bitsThere_26 : decode cX8_bitsThere 26 = .ok (.iinc 2 1, 3) := by decide +kernel
theorem dX8_bitsThere_29 : decode cX8_bitsThere 29 = .ok (.goto (-25), 3) := by decide +kernel
theorem dX8_bitsThere_32 : decode cX8_bitsThere 32 = .ok (.iload_n 1, 1) := by decide +kernel
theorem dX8_bitsThere_33 : decode cX8_bitsThere 33 = .ok (.ireturn, 1) := by decide +kernel
theorem dX8_numberThere_0 : decode cX8_numberThere 0 = .ok (.aload_n 0, 1) := by decide +kernel
theorem dX8_numberThere_1 : decode cX8_numberThere 1 = .ok (.invokevirtual 56, 3) := by decide +kernel
theorem dX8_numberThere_4 : decode cX8_numberThere 4 = .ok (.invokestatic 60, 3) := by decide +kernel
theorem dX8_numberThere_7 : decode cX8_numberThere 7 = .ok (.ireturn, 1) := by decide +kernel
theorem dX8_numberIn_0 : decode cX8_numberIn 0 = .ok (.iconst 0, 1) := by decide +kernel
theorem dX8_numberIn_1 : decode cX8_numberIn 1 = .ok (.istore_n 2, 1) := by decide +kernel
theorem dX8_numberIn_2 : decode cX8_numberIn 2 = .ok (.iconst 0, 1) := by decide +kernel
theorem dX8_numberIn_3 : decode cX8_numberIn 3 = .ok (.istore_n 3, 1) := by decide +kernel
theorem dX8_numberIn_4 : decode cX8_numberIn 4 = .ok (.iload_n 3, 1) := by decide +kernel
theorem dX8_numberIn_5 : decode cX8_numberIn 5 = .ok (.aload_n 0, 1) := by decide +kernel
theorem dX8_numberIn_6 : decode cX8_numberIn 6 = .ok (.getfield 33, 3) := by decide +kernel
theorem dX8_numberIn_9 : decode cX8_numberIn 9 = .ok (.if_icmp .ge 32, 3) := by decide +kernel
theorem dX8_numberIn_12 : decode cX8_numberIn 12 = .ok (.aload_n 0, 1) := by decide +kernel
theorem dX8_numberIn_13 : decode cX8_numberIn 13 = .ok (.iload_n 3, 1) := by decide +kernel
theorem dX8_numberIn_14 : decode cX8_numberIn 14 = .ok (.invokevirtual 52, 3) := by decide +kernel
theorem dX8_numberIn_17 : decode cX8_numberIn 17 = .ok (.ifCond .eq 18, 3) := by decide +kernel
theorem dX8_numberIn_20 : decode cX8_numberIn 20 = .ok (.aload_n 0, 1) := by decide +kernel
theorem dX8_numberIn_21 : decode cX8_numberIn 21 = .ok (.getfield 15, 3) := by decide +kernel
theorem dX8_numberIn_24 : decode cX8_numberIn 24 = .ok (.iload_n 3, 1) := by decide +kernel
theorem dX8_numberIn_25 : decode cX8_numberIn 25 = .ok (.invokestatic 48, 3) := by decide +kernel
theorem dX8_numberIn_28 : decode cX8_numberIn 28 = .ok (.iload_n 1, 1) := by decide +kernel
theorem dX8_numberIn_29 : decode cX8_numberIn 29 = .ok (.if_icmp .ne 6, 3) := by decide +kernel
theorem dX8_numberIn_32 : decode cX8_numberIn 32 = .ok (.iinc 2 1, 3) := by decide +kernel
theorem dX8_numberIn_35 : decode cX8_numberIn 35 = .ok (.iinc 3 1, 3) := by decide +kernel
theorem dX8_numberIn_38 : decode cX8_numberIn 38 = .ok (.goto (-34), 3) := by decide +kernel
theorem dX8_numberIn_41 : decode cX8_numberIn 41 = .ok (.iload_n 2, 1) := by decide +kernel
theorem dX8_numberIn_42 : decode cX8_numberIn 42 = .ok (.ireturn, 1) := by decide +kernel
theorem dX9_init_0 : decode cX9_init 0 = .ok (.aload_n 0, 1) := by decide +kernel
theorem dX9_init_1 : decode cX9_init 1 = .ok (.invokespecial 3, 3) := by decide +kernel
theorem dX9_init_4 : decode cX9_init 4 = .ok (.aload_n 0, 1) := by decide +kernel
theorem dX9_init_5 : decode cX9_init 5 = .ok (.sipush 400, 3) := by decide +kernel
theorem dX9_init_8 : decode cX9_init 8 = .ok (.newarray .int, 2) := by decide +kernel
theorem dX9_init_10 : decode cX9_init 10 = .ok (.putfield 9, 3) := by decide +kernel
theorem dX9_init_13 : decode cX9_init 13 = .ok (.aload_n 0, 1) := by decide +kernel
theorem dX9_init_14 : decode cX9_init 14 = .ok (.bipush 6, 2) := by decide +kernel
theorem dX9_init_16 : decode cX9_init 16 = .ok (.newarray .int, 2) := by decide +kernel
theorem dX9_init_18 : decode cX9_init 18 = .ok (.putfield 15, 3) := by decide +kernel
theorem dX9_init_21 : decode cX9_init 21 = .ok (.return_, 1) := by decide +kernel
theorem dX9_append_0 : decode cX9_append 0 = .ok (.iload_n 1, 1) := by decide +kernel
theorem dX9_append_1 : decode cX9_append 1 = .ok (.sipush 400, 3) := by decide +kernel
theorem dX9_append_4 : decode cX9_append 4 = .ok (.aload_n 0, 1) := by decide +kernel
theorem dX9_append_5 : decode cX9_append 5 = .ok (.getfield 18, 3) := by decide +kernel
theorem dX9_append_8 : decode cX9_append 8 = .ok (.isub, 1) := by decide +kernel
theorem dX9_append_9 : decode cX9_append 9 = .ok (.if_icmp .le 5, 3) := by decide +kernel
theorem dX9_append_12 : decode cX9_append 12 = .ok (.iconst 0, 1) := by decide +kernel
theorem dX9_append_13 : decode cX9_append 13 = .ok (.ireturn, 1) := by decide +kernel
theorem dX9_append_14 : decode cX9_append 14 = .ok (.iload_n 1, 1) := by decide +kernel
theorem dX9_append_15 : decode cX9_append 15 = .ok (.iconst 1, 1) := by decide +kernel
theorem dX9_append_16 : decode cX9_append 16 = .ok (.isub, 1) := by decide +kernel
theorem dX9_append_17 : decode cX9_append 17 = .ok (.istore 4, 2) := by decide +kernel
theorem dX9_append_19 : decode cX9_append 19 = .ok (.iload 4, 2) := by decide +kernel
theorem dX9_append_21 : decode cX9_append 21 = .ok (.ifCond .lt 42, 3) := by decide +kernel
theorem dX9_append_24 : decode cX9_append 24 = .ok (.aload_n 0, 1) := by decide +kernel
theorem dX9_append_25 : decode cX9_append 25 = .ok (.getfield 9, 3) := by decide +kernel
theorem dX9_append_28 : decode cX9_append 28 = .ok (.aload_n 0, 1) := by decide +kernel
theorem dX9_append_29 : decode cX9_append 29 = .ok (.getfield 18, 3) := by decide +kernel
theorem dX9_append_32 : decode cX9_append 32 = .ok (.lload_n 2, 1) := by decide +kernel
theorem dX9_append_33 : decode cX9_append 33 = .ok (.bipush 8, 2) := by decide +kernel
theorem dX9_append_35 : decode cX9_append 35 = .ok (.iload 4, 2) := by decide +kernel
theorem dX9_append_37 : decode cX9_append 37 = .ok (.imul, 1) := by decide +kernel
theorem dX9_append_38 : decode cX9_append 38 = .ok (.lushr, 1) := by decide +kernel
theorem dX9_append_39 : decode cX9_append 39 = .ok (.ldc2_w 22, 3) := by decide +kernel
theorem dX9_append_42 : decode cX9_append 42 = .ok (.land, 1) := by decide +kernel
theorem dX9_append_43 : decode cX9_append 43 = .ok (.l2i, 1) := by decide +kernel
theorem dX9_append_44 : decode cX9_append 44 = .ok (.invokestatic 24, 3) := by decide +kernel
theorem dX9_append_47 : decode cX9_append 47 = .ok (.aload_n 0, 1) := by decide +kernel
theorem dX9_append_48 : decode cX9_append 48 = .ok (.dup, 1) := by decide +kernel
theorem dX9_append_49 : decode cX9_append 49 = .ok (.getfield 18, 3) := by decide +kernel
theorem dX9_append_52 : decode cX9_append 52 = .ok (.iconst 1, 1) := by decide +kernel
theorem dX9_append_53 : decode cX9_append 53 = .ok (.iadd, 1) := by decide +kernel
theorem dX9_append_54 : decode cX9_append 54 = .ok (.putfield 18, 3) := by decide +kernel
theorem dX9_append_57 : decode cX9_append 57 = .ok (.iinc 4 (-1), 3) := by decide +kernel
theorem dX9_append_60 : decode cX9_append 60 = .ok (.goto (-41), 3) := by decide +kernel
theorem dX9_append_63 : decode cX9_append 63 = .ok (.iconst 1, 1) := by decide +kernel
theorem dX9_append_64 : decode cX9_append 64 = .ok (.ireturn, 1) := by decide +kernel
theorem dX9_byteAt_0 : decode cX9_byteAt 0 = .ok (.iload_n 1, 1) := by decide +kernel
theorem dX9_byteAt_1 : decode cX9_byteAt 1 = .ok (.aload_n 0, 1) := by decide +kernel
theorem dX9_byteAt_2 : decode cX9_byteAt 2 = .ok (.getfield 18, 3) := by decide +kernel
theorem dX9_byteAt_5 : decode cX9_byteAt 5 = .ok (.if_icmp .ge 14, 3) := by decide +kernel
theorem dX9_byteAt_8 : decode cX9_byteAt 8 = .ok (.aload_n 0, 1) := by decide +kernel
theorem dX9_byteAt_9 : decode cX9_byteAt 9 = .ok (.getfield 9, 3) := by decide +kernel
theorem dX9_byteAt_12 : decode cX9_byteAt 12 = .ok (.iload_n 1, 1) := by decide +kernel
theorem dX9_byteAt_13 : decode cX9_byteAt 13 = .ok (.invokestatic 28, 3) := by decide +kernel
theorem dX9_byteAt_16 : decode cX9_byteAt 16 = .ok (.goto 4, 3) := by decide +kernel
theorem dX9_byteAt_19 : decode cX9_byteAt 19 = .ok (.iconst 0, 1) := by decide +kernel
theorem dX9_byteAt_20 : decode cX9_byteAt 20 = .ok (.ireturn, 1) := by decide +kernel
theorem dX9_readItem_0 : decode cX9_readItem 0 = .ok (.aload_n 0, 1) := by decide +kernel
theorem dX9_readItem_1 : decode cX9_readItem 1 = .ok (.aload_n 0, 1) := by decide +kernel
theorem dX9_readItem_2 : decode cX9_readItem 2 = .ok (.iload_n 1, 1) := by decide +kernel
theorem dX9_readItem_3 : decode cX9_readItem 3 = .ok (.invokevirtual 32, 3) := by decide +kernel
theorem dX9_readItem_6 : decode cX9_readItem 6 = .ok (.putfield 36, 3) := by decide +kernel
theorem dX9_readItem_9 : decode cX9_readItem 9 = .ok (.aload_n 0, 1) := by decide +kernel
theorem dX9_readItem_10 : decode cX9_readItem 10 = .ok (.iconst 0, 1) := by decide +kernel
theorem dX9_readItem_11 : decode cX9_readItem 11 = .ok (.putfield 39, 3) := by decide +kernel
theorem dX9_readItem_14 : decode cX9_readItem 14 = .ok (.iload_n 1, 1) := by decide +kernel
theorem dX9_readItem_15 : decode cX9_readItem 15 = .ok (.iconst 1, 1) := by decide +kernel
theorem dX9_readItem_16 : decode cX9_readItem 16 = .ok (.iadd, 1) := by decide +kernel
theorem dX9_readItem_17 : decode cX9_readItem 17 = .ok (.istore_n 2, 1) := by decide +kernel
theorem dX9_readItem_18 : decode cX9_readItem 18 = .ok (.iconst 0, 1) := by decide +kernel
theorem dX9_readItem_19 : decode cX9_readItem 19 = .ok (.istore_n 3, 1) := by decide +kernel
theorem dX9_readItem_20 : decode cX9_readItem 20 = .ok (.iload_n 3, 1) := by decide +kernel
theorem dX9_readItem_21 : decode cX9_readItem 21 = .ok (.bipush 6, 2) := by decide +kernel
theorem dX9_readItem_23 : decode cX9_readItem 23 = .ok (.if_icmp .ge 57, 3) := by decide +kernel
theorem dX9_readItem_26 : decode cX9_readItem 26 = .ok (.aload_n 0, 1) := by decide +kernel
theorem dX9_readItem_27 : decode cX9_readItem 27 = .ok (.iload_n 2, 1) := by decide +kernel
theorem dX9_readItem_28 : decode cX9_readItem 28 = .ok (.invokevirtual 42, 3) := by decide +kernel
theorem dX9_readItem_31 : decode cX9_readItem 31 = .ok (.istore 4, 2) := by decide +kernel
theorem dX9_readItem_33 : decode cX9_readItem 33 = .ok (.iload 4, 2) := by decide +kernel
theorem dX9_readItem_35 : decode cX9_readItem 35 = .ok (.iload_n 2, 1) := by decide +kernel
theorem dX9_readItem_36 : decode cX9_readItem 36 = .ok (.if_icmp .ne 6, 3) := by decide +kernel
theorem dX9_readItem_39 : decode cX9_readItem 39 = .ok (.bipush (-4), 2) := by decide +kernel
theorem dX9_readItem_41 : decode cX9_readItem 41 = .ok (.ireturn, 1) := by decide +kernel
theorem dX9_readItem_42 : decode cX9_readItem 42 = .ok (.aload_n 0, 1) := by decide +kernel
theorem dX9_readItem_43 : decode cX9_readItem 43 = .ok (.iload 4, 2) := by decide +kernel
theorem dX9_readItem_45 : decode cX9_readItem 45 = .ok (.invokevirtual 32, 3) := by decide +kernel
theorem dX9_readItem_48 : decode cX9_readItem 48 = .ok (.istore 5, 2) := by decide +kernel
theorem dX9_readItem_50 : decode cX9_readItem 50 = .ok (.iload 4, 2) := by decide +kernel
theorem dX9_readItem_52 : decode cX9_readItem 52 = .ok (.iconst 1, 1) := by decide +kernel
theorem dX9_readItem_53 : decode cX9_readItem 53 = .ok (.iadd, 1) := by decide +kernel
theorem dX9_readItem_54 : decode cX9_readItem 54 = .ok (.istore_n 2, 1) := by decide +kernel
theorem dX9_readItem_55 : decode cX9_readItem 55 = .ok (.iload 5, 2) := by decide +kernel
theorem dX9_readItem_57 : decode cX9_readItem 57 = .ok (.bipush 59, 2) := by decide +kernel
theorem dX9_readItem_59 : decode cX9_readItem 59 = .ok (.if_icmp .ne 5, 3) := by decide +kernel
theorem dX9_readItem_62 : decode cX9_readItem 62 = .ok (.iload_n 2, 1) := by decide +kernel
theorem dX9_readItem_63 : decode cX9_readItem 63 = .ok (.ireturn, 1) := by decide +kernel
theorem dX9_readItem_64 : decode cX9_readItem 64 = .ok (.iload 5, 2) := by decide +kernel
theorem dX9_readItem_66 : decode cX9_readItem 66 = .ok (.bipush 44, 2) := by decide +kernel
theorem dX9_readItem_68 : decode cX9_readItem 68 = .ok (.if_icmp .eq 6, 3) := by decide +kernel
theorem dX9_readItem_71 : decode cX9_readItem 71 = .ok (.bipush (-4), 2) := by decide +kernel
theorem dX9_readItem_73 : decode cX9_readItem 73 = .ok (.ireturn, 1) := by decide +kernel
theorem dX9_readItem_74 : decode cX9_readItem 74 = .ok (.iinc 3 1, 3) := by decide +kernel
theorem dX9_readItem_77 : decode cX9_readItem 77 = .ok (.goto (-57), 3) := by decide +kernel
theorem dX9_readItem_80 : decode cX9_readItem 80 = .ok (.bipush (-4), 2) := by decide +kernel
theorem dX9_readItem_82 : decode cX9_readItem 82 = .ok (.ireturn, 1) := by decide +kernel
theorem dX9_readNumber_0 : decode cX9_readNumber 0 = .ok (.iconst 0, 1) := by decide +kernel
theorem dX9_readNumber_1 : decode cX9_readNumber 1 = .ok (.istore_n 2, 1) := by decide +kernel
theorem dX9_readNumber_2 : decode cX9_readNumber 2 = .ok (.iconst 0, 1) := by decide +kernel
theorem dX9_readNumber_3 : decode cX9_readNumber 3 = .ok (.istore_n 3, 1) := by decide +kernel
theorem dX9_readNumber_4 : decode cX9_readNumber 4 = .ok (.iconst 0, 1) := by decide +kernel
theorem dX9_readNumber_5 : decode cX9_readNumber 5 = .ok (.istore 4, 2) := by decide +kernel
theorem dX9_readNumber_7 : decode cX9_readNumber 7 = .ok (.iload 4, 2) := by decide +kernel
theorem dX9_readNumber_9 : decode cX9_readNumber 9 = .ok (.iconst 3, 1) := by decide +kernel
theorem dX9_readNumber_10 : decode cX9_readNumber 10 = .ok (.if_icmp .ge 43, 3) := by decide +kernel
theorem dX9_readNumber_13 : decode cX9_readNumber 13 = .ok (.aload_n 0, 1) := by decide +kernel
theorem dX9_readNumber_14 : decode cX9_readNumber 14 = .ok (.iload_n 1, 1) := by decide +kernel
theorem dX9_readNumber_15 : decode cX9_readNumber 15 = .ok (.iload 4, 2) := by decide +kernel
theorem dX9_readNumber_17 : decode cX9_readNumber 17 = .ok (.iadd, 1) := by decide +kernel
theorem dX9_readNumber_18 : decode cX9_readNumber 18 = .ok (.invokevirtual 32, 3) := by decide +kernel
theorem dX9_readNumber_21 : decode cX9_readNumber 21 = .ok (.invokestatic 45, 3) := by decide +kernel
theorem dX9_readNumber_24 : decode cX9_readNumber 24 = .ok (.ifCond .eq 29, 3) := by decide +kernel
theorem dX9_readNumber_27 : decode cX9_readNumber 27 = .ok (.bipush 10, 2) := by decide +kernel
theorem dX9_readNumber_29 : decode cX9_readNumber 29 = .ok (.iload_n 2, 1) := by decide +kernel
theorem dX9_readNumber_30 : decode cX9_readNumber 30 = .ok (.imul, 1) := by decide +kernel
theorem dX9_readNumber_31 : decode cX9_readNumber 31 = .ok (.aload_n 0, 1) := by decide +kernel
theorem dX9_readNumber_32 : decode cX9_readNumber 32 = .ok (.iload_n 1, 1) := by decide +kernel
theorem dX9_readNumber_33 : decode cX9_readNumber 33 = .ok (.iload 4, 2) := by decide +kernel
theorem dX9_readNumber_35 : decode cX9_readNumber 35 = .ok (.iadd, 1) := by decide +kernel
theorem dX9_readNumber_36 : decode cX9_readNumber 36 = .ok (.invokevirtual 32, 3) := by decide +kernel
theorem dX9_readNumber_39 : decode cX9_readNumber 39 = .ok (.iadd, 1) := by decide +kernel
theorem dX9_readNumber_40 : decode cX9_readNumber 40 = .ok (.bipush 48, 2) := by decide +kernel
theorem dX9_readNumber_42 : decode cX9_readNumber 42 = .ok (.isub, 1) := by decide +kernel
theorem dX9_readNumber_43 : decode cX9_readNumber 43 = .ok (.istore_n 2, 1) := by decide +kernel
theorem dX9_readNumber_44 : decode cX9_readNumber 44 = .ok (.iinc 3 1, 3) := by decide +kernel
theorem dX9_readNumber_47 : decode cX9_readNumber 47 = .ok (.iinc 4 1, 3) := by decide +kernel
theorem dX9_readNumber_50 : decode cX9_readNumber 50 = .ok (.goto (-43), 3) := by decide +kernel
theorem dX9_readNumber_53 : decode cX9_readNumber 53 = .ok (.iload_n 3, 1) := by decide +kernel
theorem dX9_readNumber_54 : decode cX9_readNumber 54 = .ok (.ifCond .le 25, 3) := by decide +kernel
theorem dX9_readNumber_57 : decode cX9_readNumber 57 = .ok (.aload_n 0, 1) := by decide +kernel
theorem dX9_readNumber_58 : decode cX9_readNumber 58 = .ok (.getfield 15, 3) := by decide +kernel
theorem dX9_readNumber_61 : decode cX9_readNumber 61 = .ok (.aload_n 0, 1) := by decide +kernel
theorem dX9_readNumber_62 : decode cX9_readNumber 62 = .ok (.getfield 39, 3) := by decide +kernel
theorem dX9_readNumber_65 : decode cX9_readNumber 65 = .ok (.iload_n 2, 1) := by decide +kernel
theorem dX9_readNumber_66 : decode cX9_readNumber 66 = .ok (.invokestatic 24, 3) := by decide +kernel
theorem dX9_readNumber_69 : decode cX9_readNumber 69 = .ok (.aload_n 0, 1) := by decide +kernel
theorem dX9_readNumber_70 : decode cX9_readNumber 70 = .ok (.dup, 1) := by decide +kernel
theorem dX9_readNumber_71 : decode cX9_readNumber 71 = .ok (.getfield 39, 3) := by decide +kernel
theorem dX9_readNumber_74 : decode cX9_readNumber 74 = .ok (.iconst 1, 1) := by decide +kernel
theorem dX9_readNumber_75 : decode cX9_readNumber 75 = .ok (.iadd, 1) := by decide +kernel
theorem dX9_readNumber_76 : decode cX9_readNumber 76 = .ok (.putfield 39, 3) := by decide +kernel
theorem dX9_readNumber_79 : decode cX9_readNumber 79 = .ok (.iload_n 1, 1) := by decide +kernel
theorem dX9_readNumber_80 : decode cX9_readNumber 80 = .ok (.iload_n 3, 1) := by decide +kernel
theorem dX9_readNumber_81 : decode cX9_readNumber 81 = .ok (.iadd, 1) := by decide +kernel
theorem dX9_readNumber_82 : decode cX9_readNumber 82 = .ok (.ireturn, 1) := by decide +kernel
theorem dX9_isFigure_0 : decode cX9_isFigure 0 = .ok (.iload_n 0, 1) := by decide +kernel
theorem dX9_isFigure_1 : decode cX9_isFigure 1 = .ok (.bipush 48, 2) := by decide +kernel
theorem dX9_isFigure_3 : decode cX9_isFigure 3 = .ok (.if_icmp .lt 13, 3) := by decide +kernel
theorem dX9_isFigure_6 : decode cX9_isFigure 6 = .ok (.iload_n 0, 1) := by decide +kernel
theorem dX9_isFigure_7 : decode cX9_isFigure 7 = .ok (.bipush 57, 2) := by decide +kernel
theorem dX9_isFigure_9 : decode cX9_isFigure 9 = .ok (.if_icmp .gt 7, 3) := by decide +kernel
theorem dX9_isFigure_12 : decode cX9_isFigure 12 = .ok (.iconst 1, 1) := by decide +kernel
theorem dX9_isFigure_13 : decode cX9_isFigure 13 = .ok (.goto 4, 3) := by decide +kernel
theorem dX9_isFigure_16 : decode cX9_isFigure 16 = .ok (.iconst 0, 1) := by decide +kernel
theorem dX9_isFigure_17 : decode cX9_isFigure 17 = .ok (.ireturn, 1) := by decide +kernel
theorem dX9_number_0 : decode cX9_number 0 = .ok (.aload_n 0, 1) := by decide +kernel
theorem dX9_number_1 : decode cX9_number 1 = .ok (.getfield 15, 3) := by decide +kernel
theorem dX9_number_4 : decode cX9_number 4 = .ok (.iload_n 1, 1) := by decide +kernel
theorem dX9_number_5 : decode cX9_number 5 = .ok (.invokestatic 28, 3) := by decide +kernel
theorem dX9_number_8 : decode cX9_number 8 = .ok (.ireturn, 1) := by decide +kernel
theorem dX9_isNumberWithin_0 : decode cX9_isNumberWithin 0 = .ok (.iload_n 1, 1) := by decide +kernel
theorem dX9_isNumberWithin_1 : decode cX9_isNumberWithin 1 = .ok (.aload_n 0, 1) := by decide +kernel
theorem dX9_isNumberWithin_2 : decode cX9_isNumberWithin 2 = .ok (.getfield 39, 3) := by decide +kernel
theorem dX9_isNumberWithin_5 : decode cX9_isNumberWithin 5 = .ok (.if_icmp .ge 20, 3) := by decide +kernel
theorem dX9_isNumberWithin_8 : decode cX9_isNumberWithin 8 = .ok (.aload_n 0, 1) := by decide +kernel
theorem dX9_isNumberWithin_9 : decode cX9_isNumberWithin 9 = .ok (.iload_n 1, 1) := by decide +kernel
theorem dX9_isNumberWithin_10 : decode cX9_isNumberWithin 10 = .ok (.invokevirtual 49, 3) := by decide +kernel
theorem dX9_isNumberWithin_13 : decode cX9_isNumberWithin 13 = .ok (.iload_n 2, 1) := by decide +kernel
theorem dX9_isNumberWithin_14 : decode cX9_isNumberWithin 14 = .ok (.iload_n 3, 1) := by decide +kernel
theorem dX9_isNumberWithin_15 : decode cX9_isNumberWithin 15 = .ok (.invokestatic 52, 3) := by decide +kernel
theorem dX9_isNumberWithin_18 : decode cX9_isNumberWithin 18 = .ok (.ifCond .eq 7, 3) := by decide +kernel
theorem dX9_isNumberWithin_21 : decode cX9_isNumberWithin 21 = .ok (.iconst 1, 1) := by decide +kernel
theorem dX9_isNumberWithin_22 : decode cX9_isNumberWithin 22 = .ok (.goto 4, 3) := by decide +kernel
theorem dX9_isNumberWithin_25 : decode cX9_isNumberWithin 25 = .ok (.iconst 0, 1) := by decide +kernel
theorem dX9_isNumberWithin_26 : decode cX9_isNumberWithin 26 = .ok (.ireturn, 1) := by decide +kernel
theorem dX10_init_0 : decode cX10_init 0 = .ok (.aload_n 0, 1) := by decide +kernel
theorem dX10_init_1 : decode cX10_init 1 = .ok (.invokespecial 3, 3) := by decide +kernel
theorem dX10_init_4 : decode cX10_init 4 = .ok (.aload_n 0, 1) := by decide +kernel
theorem dX10_init_5 : decode cX10_init 5 = .ok (.new 9, 3) := by decide +kernel
theorem dX10_init_8 : decode cX10_init 8 = .ok (.dup, 1) := by decide +kernel
theorem dX10_init_9 : decode cX10_init 9 = .ok (.invokespecial 11, 3) := by decide +kernel
theorem dX10_init_12 : decode cX10_init 12 = .ok (.putfield 12, 3) := by decide +kernel
theorem dX10_init_15 : decode cX10_init 15 = .ok (.aload_n 0, 1) := by decide +kernel
theorem dX10_init_16 : decode cX10_init 16 = .ok (.new 18, 3) := by decide +kernel
theorem dX10_init_19 : decode cX10_init 19 = .ok (.dup, 1) := by decide +kernel
theorem dX10_init_20 : decode cX10_init 20 = .ok (.invokespecial 20, 3) := by decide +kernel
theorem dX10_init_23 : decode cX10_init 23 = .ok (.putfield 21, 3) := by decide +kernel
theorem dX10_init_26 : decode cX10_init 26 = .ok (.aload_n 0, 1) := by decide +kernel
theorem dX10_init_27 : decode cX10_init 27 = .ok (.iconst 5, 1) := by decide +kernel
theorem dX10_init_28 : decode cX10_init 28 = .ok (.newarray .int, 2) := by decide +kernel
theorem dX10_init_30 : decode cX10_init 30 = .ok (.putfield 25, 3) := by decide +kernel
theorem dX10_init_33 : decode cX10_init 33 = .ok (.aload_n 0, 1) := by decide +kernel
theorem dX10_init_34 : decode cX10_init 34 = .ok (.iconst 4, 1) := by decide +kernel
theorem dX10_init_35 : decode cX10_init 35 = .ok (.newarray .int, 2) := by decide +kernel
theorem dX10_init_37 : decode cX10_init 37 = .ok (.putfield 29, 3) := by decide +kernel
theorem dX10_init_40 : decode cX10_init 40 = .ok (.aload_n 0, 1) := by decide +kernel
theorem dX10_init_41 : decode cX10_init 41 = .ok (.new 32, 3) := by decide +kernel
theorem dX10_init_44 : decode cX10_init 44 = .ok (.dup, 1) := by decide +kernel
theorem dX10_init_45 : decode cX10_init 45 = .ok (.invokespecial 34, 3) := by decide +kernel
theorem dX10_init_48 : decode cX10_init 48 = .ok (.putfield 35, 3) := by decide +kernel
theorem dX10_init_51 : decode cX10_init 51 = .ok (.aload_n 0, 1) := by decide +kernel
theorem dX10_init_52 : decode cX10_init 52 = .ok (.iconst 1, 1) := by decide +kernel
theorem dX10_init_53 : decode cX10_init 53 = .ok (.putfield 39, 3) := by decide +kernel
theorem dX10_init_56 : decode cX10_init 56 = .ok (.return_, 1) := by decide +kernel
theorem dX10_read_0 : decode cX10_read 0 = .ok (.aload_n 0, 1) := by decide +kernel
theorem dX10_read_1 : decode cX10_read 1 = .ok (.invokevirtual 43, 3) := by decide +kernel
theorem dX10_read_4 : decode cX10_read 4 = .ok (.iconst 0, 1) := by decide +kernel
theorem dX10_read_5 : decode cX10_read 5 = .ok (.istore_n 2, 1) := by decide +kernel
theorem dX10_read_6 : decode cX10_read 6 = .ok (.iconst 0, 1) := by decide +kernel
theorem dX10_read_7 : decode cX10_read 7 = .ok (.istore_n 3, 1) := by decide +kernel
theorem dX10_read_8 : decode cX10_read 8 = .ok (.iload_n 3, 1) := by decide +kernel
theorem dX10_read_9 : decode cX10_read 9 = .ok (.sipush 400, 3) := by decide +kernel
theorem dX10_read_12 : decode cX10_read 12 = .ok (.if_icmp .ge 42, 3) := by decide +kernel
theorem dX10_read_15 : decode cX10_read 15 = .ok (.iload_n 2, 1) := by decide +kernel
theorem dX10_read_16 : decode cX10_read 16 = .ok (.aload_n 1, 1) := by decide +kernel
theorem dX10_read_17 : decode cX10_read 17 = .ok (.getfield 46, 3) := by decide +kernel
theorem dX10_read_20 : decode cX10_read 20 = .ok (.if_icmp .ge 34, 3) := by decide +kernel
theorem dX10_read_23 : decode cX10_read 23 = .ok (.aload_n 1, 1) := by decide +kernel
theorem dX10_read_24 : decode cX10_read 24 = .ok (.iload_n 2, 1) := by decide +kernel
theorem dX10_read_25 : decode cX10_read 25 = .ok (.invokevirtual 51, 3) := by decide +kernel
theorem dX10_read_28 : decode cX10_read 28 = .ok (.istore 4, 2) := by decide +kernel
theorem dX10_read_30 : decode cX10_read 30 = .ok (.iload 4, 2) := by decide +kernel
theorem dX10_read_32 : decode cX10_read 32 = .ok (.ifCond .lt 11, 3) := by decide +kernel
theorem dX10_read_35 : decode cX10_read 35 = .ok (.aload_n 0, 1) := by decide +kernel
theorem dX10_read_36 : decode cX10_read 36 = .ok (.aload_n 1, 1) := by decide +kernel
theorem dX10_read_37 : decode cX10_read 37 = .ok (.invokevirtual 55, 3) := by decide +kernel
theorem dX10_read_40 : decode cX10_read 40 = .ok (.ifCond .ne 5, 3) := by decide +kernel
theorem dX10_read_43 : decode cX10_read 43 = .ok (.iload_n 2, 1) := by decide +kernel
theorem dX10_read_44 : decode cX10_read 44 = .ok (.ireturn, 1) := by decide +kernel
theorem dX10_read_45 : decode cX10_read 45 = .ok (.iload 4, 2) := by decide +kernel
theorem dX10_read_47 : decode cX10_read 47 = .ok (.istore_n 2, 1) := by decide +kernel
theorem dX10_read_48 : decode cX10_read 48 = .ok (.iinc 3 1, 3) := by decide +kernel
theorem dX10_read_51 : decode cX10_read 51 = .ok (.goto (-43), 3) := by decide +kernel
theorem dX10_read_54 : decode cX10_read 54 = .ok (.bipush (-4), 2) := by decide +kernel
theorem dX10_read_56 : decode cX10_read 56 = .ok (.ireturn, 1) := by decide +kernel
theorem dX10_clear_0 : decode cX10_clear 0 = .ok (.aload_n 0, 1) := by decide +kernel
theorem dX10_clear_1 : decode cX10_clear 1 = .ok (.getfield 12, 3) := by decide +kernel
theorem dX10_clear_4 : decode cX10_clear 4 = .ok (.invokevirtual 59, 3) := by decide +kernel
theorem dX10_clear_7 : decode cX10_clear 7 = .ok (.aload_n 0, 1) := by decide +kernel
theorem dX10_clear_8 : decode cX10_clear 8 = .ok (.getfield 21, 3) := by decide +kernel
theorem dX10_clear_11 : decode cX10_clear 11 = .ok (.invokevirtual 60, 3) := by decide +kernel
theorem dX10_clear_14 : decode cX10_clear 14 = .ok (.aload_n 0, 1) := by decide +kernel
theorem dX10_clear_15 : decode cX10_clear 15 = .ok (.iconst 0, 1) := by decide +kernel
theorem dX10_clear_16 : decode cX10_clear 16 = .ok (.putfield 61, 3) := by decide +kernel
theorem dX10_clear_19 : decode cX10_clear 19 = .ok (.aload_n 0, 1) := by decide +kernel
theorem dX10_clear_20 : decode cX10_clear 20 = .ok (.iconst 0, 1) := by decide +kernel
theorem dX10_clear_21 : decode cX10_clear 21 = .ok (.putfield 64, 3) := by decide +kernel
theorem dX10_clear_24 : decode cX10_clear 24 = .ok (.aload_n 0, 1) := by decide +kernel
theorem dX10_clear_25 : decode cX10_clear 25 = .ok (.getfield 35, 3) := by decide +kernel
theorem dX10_clear_28 : decode cX10_clear 28 = .ok (.invokevirtual 67, 3) := by decide +kernel
theorem dX10_clear_31 : decode cX10_clear 31 = .ok (.aload_n 0, 1) := by decide +kernel
theorem dX10_clear_32 : decode cX10_clear 32 = .ok (.iconst 1, 1) := by decide +kernel
theorem dX10_clear_33 : decode cX10_clear 33 = .ok (.putfield 39, 3) := by decide +kernel
theorem dX10_clear_36 : decode cX10_clear 36 = .ok (.return_, 1) := by decide +kernel
theorem dX10_takeItem_0 : decode cX10_takeItem 0 = .ok (.aload_n 1, 1) := by decide +kernel
theorem dX10_takeItem_1 : decode cX10_takeItem 1 = .ok (.getfield 68, 3) := by decide +kernel
theorem dX10_takeItem_4 : decode cX10_takeItem 4 = .ok (.tableswitch 136 98 115 #[124, 88, 106, 112, 100, 118, 136, 136, 136, 136, 136, 136, 136, 94, 136, 136, 136, 130], 88) := by decide +kernel
theorem dX10_takeItem_92 : decode cX10_takeItem 92 = .ok (.aload_n 0, 1) := by decide +kernel
theorem dX10_takeItem_93 : decode cX10_takeItem 93 = .ok (.aload_n 1, 1) := by decide +kernel
theorem dX10_takeItem_94 : decode cX10_takeItem 94 = .ok (.invokevirtual 71, 3) := by decide +kernel
theorem dX10_takeItem_97 : decode cX10_takeItem 97 = .ok (.ireturn, 1) := by decide +kernel
theorem dX10_takeItem_98 : decode cX10_takeItem 98 = .ok (.aload_n 0, 1) := by decide +kernel
theorem dX10_takeItem_99 : decode cX10_takeItem 99 = .ok (.aload_n 1, 1) := by decide +kernel
theorem dX10_takeItem_100 : decode cX10_takeItem 100 = .ok (.invokevirtual 74, 3) := by decide +kernel
theorem dX10_takeItem_103 : decode cX10_takeItem 103 = .ok (.ireturn, 1) := by decide +kernel
theorem dX10_takeItem_104 : decode cX10_takeItem 104 = .ok (.aload_n 0, 1) := by decide +kernel
theorem dX10_takeItem_105 : decode cX10_takeItem 105 = .ok (.aload_n 1, 1) := by decide +kernel
theorem dX10_takeItem_106 : decode cX10_takeItem 106 = .ok (.invokevirtual 77, 3) := by decide +kernel
theorem dX10_takeItem_109 : decode cX10_takeItem 109 = .ok (.ireturn, 1) := by decide +kernel
theorem dX10_takeItem_110 : decode cX10_takeItem 110 = .ok (.aload_n 0, 1) := by decide +kernel
theorem dX10_takeItem_111 : decode cX10_takeItem 111 = .ok (.aload_n 1, 1) := by decide +kernel
theorem dX10_takeItem_112 : decode cX10_takeItem 112 = .ok (.invokevirtual 80, 3) := by decide +kernel
theorem dX10_takeItem_115 : decode cX10_takeItem 115 = .ok (.ireturn, 1) := by decide +kernel
theorem dX10_takeItem_116 : decode cX10_takeItem 116 = .ok (.aload_n 0, 1) := by decide +kernel
theorem dX10_takeItem_117 : decode cX10_takeItem 117 = .ok (.aload_n 1, 1) := by decide +kernel
theorem dX10_takeItem_118 : decode cX10_takeItem 118 = .ok (.invokevirtual 83, 3) := by decide +kernel
theorem dX10_takeItem_121 : decode cX10_takeItem 121 = .ok (.ireturn, 1) := by decide +kernel
theorem dX10_takeItem_122 : decode cX10_takeItem 122 = .ok (.aload_n 0, 1) := by decide +kernel
theorem dX10_takeItem_123 : decode cX10_takeItem 123 = .ok (.aload_n 1, 1) := by decide +kernel
theorem dX10_takeItem_124 : decode cX10_takeItem 124 = .ok (.invokevirtual 86, 3) := by decide +kernel
theorem dX10_takeItem_127 : decode cX10_takeItem 127 = .ok (.ireturn, 1) := by decide +kernel
theorem dX10_takeItem_128 : decode cX10_takeItem 128 = .ok (.aload_n 0, 1) := by decide +kernel
theorem dX10_takeItem_129 : decode cX10_takeItem 129 = .ok (.aload_n 1, 1) := by decide +kernel
theorem dX10_takeItem_130 : decode cX10_takeItem 130 = .ok (.invokevirtual 89, 3) := by decide +kernel
theorem dX10_takeItem_133 : decode cX10_takeItem 133 = .ok (.ireturn, 1) := by decide +kernel
theorem dX10_takeItem_134 : decode cX10_takeItem 134 = .ok (.aload_n 0, 1) := by decide +kernel
theorem dX10_takeItem_135 : decode cX10_takeItem 135 = .ok (.aload_n 1, 1) := by decide +kernel
theorem dX10_takeItem_136 : decode cX10_takeItem 136 = .ok (.invokevirtual 92, 3) := by decide +kernel
theorem dX10_takeItem_139 : decode cX10_takeItem 139 = .ok (.ireturn, 1) := by decide +kernel
theorem dX10_takeItem_140 : decode cX10_takeItem 140 = .ok (.iconst 0, 1) := by decide +kernel
theorem dX10_takeItem_141 : decode cX10_takeItem 141 = .ok (.ireturn, 1) := by decide +kernel
theorem dX10_takeCell_0 : decode cX10_takeCell 0 = .ok (.aload_n 1, 1) := by decide +kernel
theorem dX10_takeCell_1 : decode cX10_takeCell 1 = .ok (.getfield 95, 3) := by decide +kernel
theorem dX10_takeCell_4 : decode cX10_takeCell 4 = .ok (.iconst 3, 1) := by decide +kernel
theorem dX10_takeCell_5 : decode cX10_takeCell 5 = .ok (.if_icmp .ne 66, 3) := by decide +kernel
theorem dX10_takeCell_8 : decode cX10_takeCell 8 = .ok (.aload_n 1, 1) := by decide +kernel
theorem dX10_takeCell_9 : decode cX10_takeCell 9 = .ok (.iconst 0, 1) := by decide +kernel
theorem dX10_takeCell_10 : decode cX10_takeCell 10 = .ok (.iconst 0, 1) := by decide +kernel
theorem dX10_takeCell_11 : decode cX10_takeCell 11 = .ok (.sipush 200, 3) := by decide +kernel
theorem dX10_takeCell_14 : decode cX10_takeCell 14 = .ok (.invokevirtual 98, 3) := by decide +kernel
theorem dX10_takeCell_17 : decode cX10_takeCell 17 = .ok (.ifCond .eq 54, 3) := by decide +kernel
theorem dX10_takeCell_20 : decode cX10_takeCell 20 = .ok (.aload_n 1, 1) := by decide +kernel
theorem dX10_takeCell_21 : decode cX10_takeCell 21 = .ok (.iconst 1, 1) := by decide +kernel
theorem dX10_takeCell_22 : decode cX10_takeCell 22 = .ok (.iconst 0, 1) := by decide +kernel
theorem dX10_takeCell_23 : decode cX10_takeCell 23 = .ok (.bipush 99, 2) := by decide +kernel
theorem dX10_takeCell_25 : decode cX10_takeCell 25 = .ok (.invokevirtual 98, 3) := by decide +kernel
theorem dX10_takeCell_28 : decode cX10_takeCell 28 = .ok (.ifCond .eq 43, 3) := by decide +kernel
theorem dX10_takeCell_31 : decode cX10_takeCell 31 = .ok (.aload_n 1, 1) := by decide +kernel
theorem dX10_takeCell_32 : decode cX10_takeCell 32 = .ok (.iconst 2, 1) := by decide +kernel
theorem dX10_takeCell_33 : decode cX10_takeCell 33 = .ok (.iconst 1, 1) := by decide +kernel
theorem dX10_takeCell_34 : decode cX10_takeCell 34 = .ok (.bipush 10, 2) := by decide +kernel
theorem dX10_takeCell_36 : decode cX10_takeCell 36 = .ok (.invokevirtual 98, 3) := by decide +kernel
theorem dX10_takeCell_39 : decode cX10_takeCell 39 = .ok (.ifCond .eq 32, 3) := by decide +kernel
theorem dX10_takeCell_42 : decode cX10_takeCell 42 = .ok (.aload_n 0, 1) := by decide +kernel
theorem dX10_takeCell_43 : decode cX10_takeCell 43 = .ok (.getfield 12, 3) := by decide +kernel
theorem dX10_takeCell_46 : decode cX10_takeCell 46 = .ok (.aload_n 1, 1) := by decide +kernel
theorem dX10_takeCell_47 : decode cX10_takeCell 47 = .ok (.iconst 0, 1) := by decide +kernel
theorem dX10_takeCell_48 : decode cX10_takeCell 48 = .ok (.invokevirtual 102, 3) := by decide +kernel
theorem dX10_takeCell_51 : decode cX10_takeCell 51 = .ok (.aload_n 1, 1) := by decide +kernel
theorem dX10_takeCell_52 : decode cX10_takeCell 52 = .ok (.iconst 1, 1) := by decide +kernel
theorem dX10_takeCell_53 : decode cX10_takeCell 53 = .ok (.invokevirtual 102, 3) := by decide +kernel
theorem dX10_takeCell_56 : decode cX10_takeCell 56 = .ok (.aload_n 1, 1) := by decide +kernel
theorem dX10_takeCell_57 : decode cX10_takeCell 57 = .ok (.iconst 2, 1) := by decide +kernel
theorem dX10_takeCell_58 : decode cX10_takeCell 58 = .ok (.invokevirtual 102, 3) := by decide +kernel
theorem dX10_takeCell_61 : decode cX10_takeCell 61 = .ok (.invokevirtual 105, 3) := by decide +kernel
theorem dX10_takeCell_64 : decode cX10_takeCell 64 = .ok (.ifCond .eq 7, 3) := by decide +kernel
theorem dX10_takeCell_67 : decode cX10_takeCell 67 = .ok (.iconst 1, 1) := by decide +kernel
theorem dX10_takeCell_68 : decode cX10_takeCell 68 = .ok (.goto 4, 3) := by decide +kernel
theorem dX10_takeCell_71 : decode cX10_takeCell 71 = .ok (.iconst 0, 1) := by decide +kernel
theorem dX10_takeCell_72 : decode cX10_takeCell 72 = .ok (.ireturn, 1) := by decide +kernel
theorem dX10_takeOpenedHour_0 : decode cX10_takeOpenedHour 0 = .ok (.aload_n 1, 1) := by decide +kernel
theorem dX10_takeOpenedHour_1 : decode cX10_takeOpenedHour 1 = .ok (.getfield 95, 3) := by decide +kernel
theorem dX10_takeOpenedHour_4 : decode cX10_takeOpenedHour 4 = .ok (.iconst 1, 1) := by decide +kernel
theorem dX10_takeOpenedHour_5 : decode cX10_takeOpenedHour 5 = .ok (.if_icmp .ne 14, 3) := by decide +kernel
theorem dX10_takeOpenedHour_8 : decode cX10_takeOpenedHour 8 = .ok (.aload_n 1, 1) := by decide +kernel
theorem dX10_takeOpenedHour_9 : decode cX10_takeOpenedHour 9 = .ok (.iconst 0, 1) := by decide +kernel
theorem dX10_takeOpenedHour_10 : decode cX10_takeOpenedHour 10 = .ok (.iconst 0, 1) := by decide +kernel
theorem dX10_takeOpenedHour_11 : decode cX10_takeOpenedHour 11 = .ok (.bipush 23, 2) := by decide +kernel
theorem dX10_takeOpenedHour_13 : decode cX10_takeOpenedHour 13 = .ok (.invokevirtual 98, 3) := by decide +kernel
theorem dX10_takeOpenedHour_16 : decode cX10_takeOpenedHour 16 = .ok (.ifCond .ne 5, 3) := by decide +kernel
theorem dX10_takeOpenedHour_19 : decode cX10_takeOpenedHour 19 = .ok (.iconst 0, 1) := by decide +kernel
theorem dX10_takeOpenedHour_20 : decode cX10_takeOpenedHour 20 = .ok (.ireturn, 1) := by decide +kernel
theorem dX10_takeOpenedHour_21 : decode cX10_takeOpenedHour 21 = .ok (.aload_n 0, 1) := by decide +kernel
theorem dX10_takeOpenedHour_22 : decode cX10_takeOpenedHour 22 = .ok (.getfield 12, 3) := by decide +kernel
theorem dX10_takeOpenedHour_25 : decode cX10_takeOpenedHour 25 = .ok (.aload_n 1, 1) := by decide +kernel
theorem dX10_takeOpenedHour_26 : decode cX10_takeOpenedHour 26 = .ok (.iconst 0, 1) := by decide +kernel
theorem dX10_takeOpenedHour_27 : decode cX10_takeOpenedHour 27 = .ok (.invokevirtual 102, 3) := by decide +kernel
theorem dX10_takeOpenedHour_30 : decode cX10_takeOpenedHour 30 = .ok (.invokevirtual 108, 3) := by decide +kernel
theorem dX10_takeOpenedHour_33 : decode cX10_takeOpenedHour 33 = .ok (.iconst 1, 1) := by decide +kernel
theorem dX10_takeOpenedHour_34 : decode cX10_takeOpenedHour 34 = .ok (.ireturn, 1) := by decide +kernel
theorem dX10_takeFood_0 : decode cX10_takeFood 0 = .ok (.aload_n 1, 1) := by decide +kernel
theorem dX10_takeFood_1 : decode cX10_takeFood 1 = .ok (.getfield 95, 3) := by decide +kernel
theorem dX10_takeFood_4 : decode cX10_takeFood 4 = .ok (.bipush 6, 2) := by decide +kernel
theorem dX10_takeFood_6 : decode cX10_takeFood 6 = .ok (.if_icmp .ne 116, 3) := by decide +kernel
theorem dX10_takeFood_9 : decode cX10_takeFood 9 = .ok (.aload_n 1, 1) := by decide +kernel
theorem dX10_takeFood_10 : decode cX10_takeFood 10 = .ok (.iconst 0, 1) := by decide +kernel
theorem dX10_takeFood_11 : decode cX10_takeFood 11 = .ok (.iconst 0, 1) := by decide +kernel
theorem dX10_takeFood_12 : decode cX10_takeFood 12 = .ok (.iconst 3, 1) := by decide +kernel
theorem dX10_takeFood_13 : decode cX10_takeFood 13 = .ok (.invokevirtual 98, 3) := by decide +kernel
theorem dX10_takeFood_16 : decode cX10_takeFood 16 = .ok (.ifCond .eq 106, 3) := by decide +kernel
theorem dX10_takeFood_19 : decode cX10_takeFood 19 = .ok (.aload_n 0, 1) := by decide +kernel
theorem dX10_takeFood_20 : decode cX10_takeFood 20 = .ok (.getfield 12, 3) := by decide +kernel
theorem dX10_takeFood_23 : decode cX10_takeFood 23 = .ok (.aload_n 1, 1) := by decide +kernel
theorem dX10_takeFood_24 : decode cX10_takeFood 24 = .ok (.iconst 1, 1) := by decide +kernel
theorem dX10_takeFood_25 : decode cX10_takeFood 25 = .ok (.invokevirtual 102, 3) := by decide +kernel
theorem dX10_takeFood_28 : decode cX10_takeFood 28 = .ok (.invokevirtual 112, 3) := by decide +kernel
theorem dX10_takeFood_31 : decode cX10_takeFood 31 = .ok (.ifCond .eq 91, 3) := by decide +kernel
theorem dX10_takeFood_34 : decode cX10_takeFood 34 = .ok (.aload_n 1, 1) := by decide +kernel
theorem dX10_takeFood_35 : decode cX10_takeFood 35 = .ok (.iconst 2, 1) := by decide +kernel
theorem dX10_takeFood_36 : decode cX10_takeFood 36 = .ok (.iconst 0, 1) := by decide +kernel
theorem dX10_takeFood_37 : decode cX10_takeFood 37 = .ok (.bipush 99, 2) := by decide +kernel
theorem dX10_takeFood_39 : decode cX10_takeFood 39 = .ok (.invokevirtual 98, 3) := by decide +kernel
theorem dX10_takeFood_42 : decode cX10_takeFood 42 = .ok (.ifCond .eq 80, 3) := by decide +kernel
theorem dX10_takeFood_45 : decode cX10_takeFood 45 = .ok (.aload_n 1, 1) := by decide +kernel
theorem dX10_takeFood_46 : decode cX10_takeFood 46 = .ok (.iconst 3, 1) := by decide +kernel
theorem dX10_takeFood_47 : decode cX10_takeFood 47 = .ok (.iconst 1, 1) := by decide +kernel
theorem dX10_takeFood_48 : decode cX10_takeFood 48 = .ok (.sipush 240, 3) := by decide +kernel
theorem dX10_takeFood_51 : decode cX10_takeFood 51 = .ok (.invokevirtual 98, 3) := by decide +kernel
theorem dX10_takeFood_54 : decode cX10_takeFood 54 = .ok (.ifCond .eq 68, 3) := by decide +kernel
theorem dX10_takeFood_57 : decode cX10_takeFood 57 = .ok (.aload_n 1, 1) := by decide +kernel
theorem dX10_takeFood_58 : decode cX10_takeFood 58 = .ok (.iconst 4, 1) := by decide +kernel
theorem dX10_takeFood_59 : decode cX10_takeFood 59 = .ok (.iconst 0, 1) := by decide +kernel
theorem dX10_takeFood_60 : decode cX10_takeFood 60 = .ok (.bipush 99, 2) := by decide +kernel
theorem dX10_takeFood_62 : decode cX10_takeFood 62 = .ok (.invokevirtual 98, 3) := by decide +kernel
theorem dX10_takeFood_65 : decode cX10_takeFood 65 = .ok (.ifCond .eq 57, 3) := by decide +kernel
theorem dX10_takeFood_68 : decode cX10_takeFood 68 = .ok (.aload_n 1, 1) := by decide +kernel
theorem dX10_takeFood_69 : decode cX10_takeFood 69 = .ok (.iconst 5, 1) := by decide +kernel
theorem dX10_takeFood_70 : decode cX10_takeFood 70 = .ok (.iconst 0, 1) := by decide +kernel
theorem dX10_takeFood_71 : decode cX10_takeFood 71 = .ok (.iconst 3, 1) := by decide +kernel
theorem dX10_takeFood_72 : decode cX10_takeFood 72 = .ok (.invokevirtual 98, 3) := by decide +kernel
theorem dX10_takeFood_75 : decode cX10_takeFood 75 = .ok (.ifCond .eq 47, 3) := by decide +kernel
theorem dX10_takeFood_78 : decode cX10_takeFood 78 = .ok (.aload_n 0, 1) := by decide +kernel
theorem dX10_takeFood_79 : decode cX10_takeFood 79 = .ok (.getfield 21, 3) := by decide +kernel
theorem dX10_takeFood_82 : decode cX10_takeFood 82 = .ok (.aload_n 1, 1) := by decide +kernel
theorem dX10_takeFood_83 : decode cX10_takeFood 83 = .ok (.iconst 0, 1) := by decide +kernel
theorem dX10_takeFood_84 : decode cX10_takeFood 84 = .ok (.invokevirtual 102, 3) := by decide +kernel
theorem dX10_takeFood_87 : decode cX10_takeFood 87 = .ok (.aload_n 1, 1) := by decide +kernel
theorem dX10_takeFood_88 : decode cX10_takeFood 88 = .ok (.iconst 1, 1) := by decide +kernel
theorem dX10_takeFood_89 : decode cX10_takeFood 89 = .ok (.invokevirtual 102, 3) := by decide +kernel
theorem dX10_takeFood_92 : decode cX10_takeFood 92 = .ok (.aload_n 1, 1) := by decide +kernel
theorem dX10_takeFood_93 : decode cX10_takeFood 93 = .ok (.iconst 2, 1) := by decide +kernel
theorem dX10_takeFood_94 : decode cX10_takeFood 94 = .ok (.invokevirtual 102, 3) := by decide +kernel
theorem dX10_takeFood_97 : decode cX10_takeFood 97 = .ok (.aload_n 1, 1) := by decide +kernel
theorem dX10_takeFood_98 : decode cX10_takeFood 98 = .ok (.iconst 3, 1) := by decide +kernel
theorem dX10_takeFood_99 : decode cX10_takeFood 99 = .ok (.invokevirtual 102, 3) := by decide +kernel
theorem dX10_takeFood_102 : decode cX10_takeFood 102 = .ok (.aload_n 1, 1) := by decide +kernel
theorem dX10_takeFood_103 : decode cX10_takeFood 103 = .ok (.iconst 4, 1) := by decide +kernel
theorem dX10_takeFood_104 : decode cX10_takeFood 104 = .ok (.invokevirtual 102, 3) := by decide +kernel
theorem dX10_takeFood_107 : decode cX10_takeFood 107 = .ok (.aload_n 1, 1) := by decide +kernel
theorem dX10_takeFood_108 : decode cX10_takeFood 108 = .ok (.iconst 5, 1) := by decide +kernel
theorem dX10_takeFood_109 : decode cX10_takeFood 109 = .ok (.invokevirtual 102, 3) := by decide +kernel
theorem dX10_takeFood_112 : decode cX10_takeFood 112 = .ok (.invokevirtual 116, 3) := by decide +kernel
theorem dX10_takeFood_115 : decode cX10_takeFood 115 = .ok (.ifCond .eq 7, 3) := by decide +kernel
theorem dX10_takeFood_118 : decode cX10_takeFood 118 = .ok (.iconst 1, 1) := by decide +kernel
theorem dX10_takeFood_119 : decode cX10_takeFood 119 = .ok (.goto 4, 3) := by decide +kernel
theorem dX10_takeFood_122 : decode cX10_takeFood 122 = .ok (.iconst 0, 1) := by decide +kernel
theorem dX10_takeFood_123 : decode cX10_takeFood 123 = .ok (.ireturn, 1) := by decide +kernel
theorem dX10_takeDish_0 : decode cX10_takeDish 0 = .ok (.aload_n 1, 1) := by decide +kernel
theorem dX10_takeDish_1 : decode cX10_takeDish 1 = .ok (.getfield 95, 3) := by decide +kernel
theorem dX10_takeDish_4 : decode cX10_takeDish 4 = .ok (.iconst 1, 1) := by decide +kernel
theorem dX10_takeDish_5 : decode cX10_takeDish 5 = .ok (.if_icmp .ne 22, 3) := by decide +kernel
theorem dX10_takeDish_8 : decode cX10_takeDish 8 = .ok (.aload_n 1, 1) := by decide +kernel
theorem dX10_takeDish_9 : decode cX10_takeDish 9 = .ok (.iconst 0, 1) := by decide +kernel
theorem dX10_takeDish_10 : decode cX10_takeDish 10 = .ok (.iconst 1, 1) := by decide +kernel
theorem dX10_takeDish_11 : decode cX10_takeDish 11 = .ok (.bipush 15, 2) := by decide +kernel
theorem dX10_takeDish_13 : decode cX10_takeDish 13 = .ok (.invokevirtual 98, 3) := by decide +kernel
theorem dX10_takeDish_16 : decode cX10_takeDish 16 = .ok (.ifCond .eq 11, 3) := by decide +kernel
theorem dX10_takeDish_19 : decode cX10_takeDish 19 = .ok (.aload_n 0, 1) := by decide +kernel
theorem dX10_takeDish_20 : decode cX10_takeDish 20 = .ok (.getfield 61, 3) := by decide +kernel
theorem dX10_takeDish_23 : decode cX10_takeDish 23 = .ok (.iconst 5, 1) := by decide +kernel
theorem dX10_takeDish_24 : decode cX10_takeDish 24 = .ok (.if_icmp .lt 5, 3) := by decide +kernel
theorem dX10_takeDish_27 : decode cX10_takeDish 27 = .ok (.iconst 0, 1) := by decide +kernel
theorem dX10_takeDish_28 : decode cX10_takeDish 28 = .ok (.ireturn, 1) := by decide +kernel
theorem dX10_takeDish_29 : decode cX10_takeDish 29 = .ok (.aload_n 0, 1) := by decide +kernel
theorem dX10_takeDish_30 : decode cX10_takeDish 30 = .ok (.getfield 25, 3) := by decide +kernel
theorem dX10_takeDish_33 : decode cX10_takeDish 33 = .ok (.aload_n 0, 1) := by decide +kernel
theorem dX10_takeDish_34 : decode cX10_takeDish 34 = .ok (.getfield 61, 3) := by decide +kernel
theorem dX10_takeDish_37 : decode cX10_takeDish 37 = .ok (.aload_n 1, 1) := by decide +kernel
theorem dX10_takeDish_38 : decode cX10_takeDish 38 = .ok (.iconst 0, 1) := by decide +kernel
theorem dX10_takeDish_39 : decode cX10_takeDish 39 = .ok (.invokevirtual 102, 3) := by decide +kernel
theorem dX10_takeDish_42 : decode cX10_takeDish 42 = .ok (.invokestatic 119, 3) := by decide +kernel
theorem dX10_takeDish_45 : decode cX10_takeDish 45 = .ok (.aload_n 0, 1) := by decide +kernel
theorem dX10_takeDish_46 : decode cX10_takeDish 46 = .ok (.dup, 1) := by decide +kernel
theorem dX10_takeDish_47 : decode cX10_takeDish 47 = .ok (.getfield 61, 3) := by decide +kernel
theorem dX10_takeDish_50 : decode cX10_takeDish 50 = .ok (.iconst 1, 1) := by decide +kernel
theorem dX10_takeDish_51 : decode cX10_takeDish 51 = .ok (.iadd, 1) := by decide +kernel
theorem dX10_takeDish_52 : decode cX10_takeDish 52 = .ok (.putfield 61, 3) := by decide +kernel
end
section
theorem dX10_takeDish_55 : decode cX10_takeDish 55 = .ok (.iconst 1, 1) := by decide +kernel
theorem dX10_takeDish_56 : decode cX10_takeDish 56 = .ok (.ireturn, 1) := by decide +kernel
theorem dX10_takeEater_0 : decode cX10_takeEater 0 = .ok (.aload_n 1, 1) := by decide +kernel
theorem dX10_takeEater_1 : decode cX10_takeEater 1 = .ok (.getfield 95, 3) := by decide +kernel
theorem dX10_takeEater_4 : decode cX10_takeEater 4 = .ok (.iconst 1, 1) := by decide +kernel
theorem dX10_takeEater_5 : decode cX10_takeEater 5 = .ok (.if_icmp .ne 22, 3) := by decide +kernel
theorem dX10_takeEater_8 : decode cX10_takeEater 8 = .ok (.aload_n 1, 1) := by decide +kernel
theorem dX10_takeEater_9 : decode cX10_takeEater 9 = .ok (.iconst 0, 1) := by decide +kernel
theorem dX10_takeEater_10 : decode cX10_takeEater 10 = .ok (.iconst 0, 1) := by decide +kernel
theorem dX10_takeEater_11 : decode cX10_takeEater 11 = .ok (.bipush 15, 2) := by decide +kernel
theorem dX10_takeEater_13 : decode cX10_takeEater 13 = .ok (.invokevirtual 98, 3) := by decide +kernel
theorem dX10_takeEater_16 : decode cX10_takeEater 16 = .ok (.ifCond .eq 11, 3) := by decide +kernel
theorem dX10_takeEater_19 : decode cX10_takeEater 19 = .ok (.aload_n 0, 1) := by decide +kernel
theorem dX10_takeEater_20 : decode cX10_takeEater 20 = .ok (.getfield 64, 3) := by decide +kernel
theorem dX10_takeEater_23 : decode cX10_takeEater 23 = .ok (.iconst 4, 1) := by decide +kernel
theorem dX10_takeEater_24 : decode cX10_takeEater 24 = .ok (.if_icmp .lt 5, 3) := by decide +kernel
theorem dX10_takeEater_27 : decode cX10_takeEater 27 = .ok (.iconst 0, 1) := by decide +kernel
theorem dX10_takeEater_28 : decode cX10_takeEater 28 = .ok (.ireturn, 1) := by decide +kernel
theorem dX10_takeEater_29 : decode cX10_takeEater 29 = .ok (.aload_n 0, 1) := by decide +kernel
theorem dX10_takeEater_30 : decode cX10_takeEater 30 = .ok (.getfield 29, 3) := by decide +kernel
theorem dX10_takeEater_33 : decode cX10_takeEater 33 = .ok (.aload_n 0, 1) := by decide +kernel
theorem dX10_takeEater_34 : decode cX10_takeEater 34 = .ok (.getfield 64, 3) := by decide +kernel
theorem dX10_takeEater_37 : decode cX10_takeEater 37 = .ok (.aload_n 1, 1) := by decide +kernel
theorem dX10_takeEater_38 : decode cX10_takeEater 38 = .ok (.iconst 0, 1) := by decide +kernel
theorem dX10_takeEater_39 : decode cX10_takeEater 39 = .ok (.invokevirtual 102, 3) := by decide +kernel
theorem dX10_takeEater_42 : decode cX10_takeEater 42 = .ok (.invokestatic 119, 3) := by decide +kernel
theorem dX10_takeEater_45 : decode cX10_takeEater 45 = .ok (.aload_n 0, 1) := by decide +kernel
theorem dX10_takeEater_46 : decode cX10_takeEater 46 = .ok (.dup, 1) := by decide +kernel
theorem dX10_takeEater_47 : decode cX10_takeEater 47 = .ok (.getfield 64, 3) := by decide +kernel
theorem dX10_takeEater_50 : decode cX10_takeEater 50 = .ok (.iconst 1, 1) := by decide +kernel
theorem dX10_takeEater_51 : decode cX10_takeEater 51 = .ok (.iadd, 1) := by decide +kernel
theorem dX10_takeEater_52 : decode cX10_takeEater 52 = .ok (.putfield 64, 3) := by decide +kernel
theorem dX10_takeEater_55 : decode cX10_takeEater 55 = .ok (.iconst 1, 1) := by decide +kernel
theorem dX10_takeEater_56 : decode cX10_takeEater 56 = .ok (.ireturn, 1) := by decide +kernel
theorem dX10_takeGuests_0 : decode cX10_takeGuests 0 = .ok (.aload_n 1, 1) := by decide +kernel
theorem dX10_takeGuests_1 : decode cX10_takeGuests 1 = .ok (.getfield 95, 3) := by decide +kernel
theorem dX10_takeGuests_4 : decode cX10_takeGuests 4 = .ok (.iconst 2, 1) := by decide +kernel
theorem dX10_takeGuests_5 : decode cX10_takeGuests 5 = .ok (.if_icmp .ne 49, 3) := by decide +kernel
theorem dX10_takeGuests_8 : decode cX10_takeGuests 8 = .ok (.aload_n 1, 1) := by decide +kernel
theorem dX10_takeGuests_9 : decode cX10_takeGuests 9 = .ok (.iconst 0, 1) := by decide +kernel
theorem dX10_takeGuests_10 : decode cX10_takeGuests 10 = .ok (.iconst 0, 1) := by decide +kernel
theorem dX10_takeGuests_11 : decode cX10_takeGuests 11 = .ok (.bipush 9, 2) := by decide +kernel
theorem dX10_takeGuests_13 : decode cX10_takeGuests 13 = .ok (.invokevirtual 98, 3) := by decide +kernel
theorem dX10_takeGuests_16 : decode cX10_takeGuests 16 = .ok (.ifCond .eq 38, 3) := by decide +kernel
theorem dX10_takeGuests_19 : decode cX10_takeGuests 19 = .ok (.aload_n 1, 1) := by decide +kernel
theorem dX10_takeGuests_20 : decode cX10_takeGuests 20 = .ok (.iconst 1, 1) := by decide +kernel
theorem dX10_takeGuests_21 : decode cX10_takeGuests 21 = .ok (.iconst 1, 1) := by decide +kernel
theorem dX10_takeGuests_22 : decode cX10_takeGuests 22 = .ok (.bipush 99, 2) := by decide +kernel
theorem dX10_takeGuests_24 : decode cX10_takeGuests 24 = .ok (.invokevirtual 98, 3) := by decide +kernel
theorem dX10_takeGuests_27 : decode cX10_takeGuests 27 = .ok (.ifCond .eq 27, 3) := by decide +kernel
theorem dX10_takeGuests_30 : decode cX10_takeGuests 30 = .ok (.aload_n 0, 1) := by decide +kernel
theorem dX10_takeGuests_31 : decode cX10_takeGuests 31 = .ok (.getfield 35, 3) := by decide +kernel
theorem dX10_takeGuests_34 : decode cX10_takeGuests 34 = .ok (.aload_n 1, 1) := by decide +kernel
theorem dX10_takeGuests_35 : decode cX10_takeGuests 35 = .ok (.iconst 0, 1) := by decide +kernel
theorem dX10_takeGuests_36 : decode cX10_takeGuests 36 = .ok (.invokevirtual 102, 3) := by decide +kernel
theorem dX10_takeGuests_39 : decode cX10_takeGuests 39 = .ok (.aload_n 1, 1) := by decide +kernel
theorem dX10_takeGuests_40 : decode cX10_takeGuests 40 = .ok (.iconst 1, 1) := by decide +kernel
theorem dX10_takeGuests_41 : decode cX10_takeGuests 41 = .ok (.invokevirtual 102, 3) := by decide +kernel
theorem dX10_takeGuests_44 : decode cX10_takeGuests 44 = .ok (.invokevirtual 123, 3) := by decide +kernel
theorem dX10_takeGuests_47 : decode cX10_takeGuests 47 = .ok (.ifCond .eq 7, 3) := by decide +kernel
theorem dX10_takeGuests_50 : decode cX10_takeGuests 50 = .ok (.iconst 1, 1) := by decide +kernel
theorem dX10_takeGuests_51 : decode cX10_takeGuests 51 = .ok (.goto 4, 3) := by decide +kernel
theorem dX10_takeGuests_54 : decode cX10_takeGuests 54 = .ok (.iconst 0, 1) := by decide +kernel
theorem dX10_takeGuests_55 : decode cX10_takeGuests 55 = .ok (.ireturn, 1) := by decide +kernel
theorem dX10_takePacks_0 : decode cX10_takePacks 0 = .ok (.aload_n 1, 1) := by decide +kernel
theorem dX10_takePacks_1 : decode cX10_takePacks 1 = .ok (.getfield 95, 3) := by decide +kernel
theorem dX10_takePacks_4 : decode cX10_takePacks 4 = .ok (.iconst 2, 1) := by decide +kernel
theorem dX10_takePacks_5 : decode cX10_takePacks 5 = .ok (.if_icmp .ne 26, 3) := by decide +kernel
theorem dX10_takePacks_8 : decode cX10_takePacks 8 = .ok (.aload_n 1, 1) := by decide +kernel
theorem dX10_takePacks_9 : decode cX10_takePacks 9 = .ok (.iconst 0, 1) := by decide +kernel
theorem dX10_takePacks_10 : decode cX10_takePacks 10 = .ok (.iconst 1, 1) := by decide +kernel
theorem dX10_takePacks_11 : decode cX10_takePacks 11 = .ok (.bipush 99, 2) := by decide +kernel
theorem dX10_takePacks_13 : decode cX10_takePacks 13 = .ok (.invokevirtual 98, 3) := by decide +kernel
theorem dX10_takePacks_16 : decode cX10_takePacks 16 = .ok (.ifCond .eq 15, 3) := by decide +kernel
theorem dX10_takePacks_19 : decode cX10_takePacks 19 = .ok (.aload_n 1, 1) := by decide +kernel
theorem dX10_takePacks_20 : decode cX10_takePacks 20 = .ok (.iconst 1, 1) := by decide +kernel
theorem dX10_takePacks_21 : decode cX10_takePacks 21 = .ok (.iconst 1, 1) := by decide +kernel
theorem dX10_takePacks_22 : decode cX10_takePacks 22 = .ok (.sipush 198, 3) := by decide +kernel
theorem dX10_takePacks_25 : decode cX10_takePacks 25 = .ok (.invokevirtual 98, 3) := by decide +kernel
theorem dX10_takePacks_28 : decode cX10_takePacks 28 = .ok (.ifCond .ne 5, 3) := by decide +kernel
theorem dX10_takePacks_31 : decode cX10_takePacks 31 = .ok (.iconst 0, 1) := by decide +kernel
theorem dX10_takePacks_32 : decode cX10_takePacks 32 = .ok (.ireturn, 1) := by decide +kernel
theorem dX10_takePacks_33 : decode cX10_takePacks 33 = .ok (.aload_n 0, 1) := by decide +kernel
theorem dX10_takePacks_34 : decode cX10_takePacks 34 = .ok (.getfield 35, 3) := by decide +kernel
theorem dX10_takePacks_37 : decode cX10_takePacks 37 = .ok (.aload_n 1, 1) := by decide +kernel
theorem dX10_takePacks_38 : decode cX10_takePacks 38 = .ok (.iconst 0, 1) := by decide +kernel
theorem dX10_takePacks_39 : decode cX10_takePacks 39 = .ok (.invokevirtual 102, 3) := by decide +kernel
theorem dX10_takePacks_42 : decode cX10_takePacks 42 = .ok (.putfield 126, 3) := by decide +kernel
theorem dX10_takePacks_45 : decode cX10_takePacks 45 = .ok (.aload_n 0, 1) := by decide +kernel
theorem dX10_takePacks_46 : decode cX10_takePacks 46 = .ok (.getfield 35, 3) := by decide +kernel
theorem dX10_takePacks_49 : decode cX10_takePacks 49 = .ok (.aload_n 1, 1) := by decide +kernel
theorem dX10_takePacks_50 : decode cX10_takePacks 50 = .ok (.iconst 1, 1) := by decide +kernel
theorem dX10_takePacks_51 : decode cX10_takePacks 51 = .ok (.invokevirtual 102, 3) := by decide +kernel
theorem dX10_takePacks_54 : decode cX10_takePacks 54 = .ok (.putfield 129, 3) := by decide +kernel
theorem dX10_takePacks_57 : decode cX10_takePacks 57 = .ok (.iconst 1, 1) := by decide +kernel
theorem dX10_takePacks_58 : decode cX10_takePacks 58 = .ok (.ireturn, 1) := by decide +kernel
theorem dX10_takeSlip_0 : decode cX10_takeSlip 0 = .ok (.aload_n 1, 1) := by decide +kernel
theorem dX10_takeSlip_1 : decode cX10_takeSlip 1 = .ok (.getfield 95, 3) := by decide +kernel
theorem dX10_takeSlip_4 : decode cX10_takeSlip 4 = .ok (.iconst 1, 1) := by decide +kernel
theorem dX10_takeSlip_5 : decode cX10_takeSlip 5 = .ok (.if_icmp .ne 13, 3) := by decide +kernel
theorem dX10_takeSlip_8 : decode cX10_takeSlip 8 = .ok (.aload_n 1, 1) := by decide +kernel
theorem dX10_takeSlip_9 : decode cX10_takeSlip 9 = .ok (.iconst 0, 1) := by decide +kernel
theorem dX10_takeSlip_10 : decode cX10_takeSlip 10 = .ok (.iconst 0, 1) := by decide +kernel
theorem dX10_takeSlip_11 : decode cX10_takeSlip 11 = .ok (.iconst 4, 1) := by decide +kernel
theorem dX10_takeSlip_12 : decode cX10_takeSlip 12 = .ok (.invokevirtual 98, 3) := by decide +kernel
theorem dX10_takeSlip_15 : decode cX10_takeSlip 15 = .ok (.ifCond .ne 5, 3) := by decide +kernel
theorem dX10_takeSlip_18 : decode cX10_takeSlip 18 = .ok (.iconst 0, 1) := by decide +kernel
theorem dX10_takeSlip_19 : decode cX10_takeSlip 19 = .ok (.ireturn, 1) := by decide +kernel
theorem dX10_takeSlip_20 : decode cX10_takeSlip 20 = .ok (.aload_n 0, 1) := by decide +kernel
theorem dX10_takeSlip_21 : decode cX10_takeSlip 21 = .ok (.aload_n 1, 1) := by decide +kernel
theorem dX10_takeSlip_22 : decode cX10_takeSlip 22 = .ok (.iconst 0, 1) := by decide +kernel
theorem dX10_takeSlip_23 : decode cX10_takeSlip 23 = .ok (.invokevirtual 102, 3) := by decide +kernel
theorem dX10_takeSlip_26 : decode cX10_takeSlip 26 = .ok (.putfield 39, 3) := by decide +kernel
theorem dX10_takeSlip_29 : decode cX10_takeSlip 29 = .ok (.iconst 1, 1) := by decide +kernel
theorem dX10_takeSlip_30 : decode cX10_takeSlip 30 = .ok (.ireturn, 1) := by decide +kernel
theorem dX10_canBeLaid_0 : decode cX10_canBeLaid 0 = .ok (.iconst 0, 1) := by decide +kernel
theorem dX10_canBeLaid_1 : decode cX10_canBeLaid 1 = .ok (.istore_n 1, 1) := by decide +kernel
theorem dX10_canBeLaid_2 : decode cX10_canBeLaid 2 = .ok (.iload_n 1, 1) := by decide +kernel
theorem dX10_canBeLaid_3 : decode cX10_canBeLaid 3 = .ok (.aload_n 0, 1) := by decide +kernel
theorem dX10_canBeLaid_4 : decode cX10_canBeLaid 4 = .ok (.getfield 12, 3) := by decide +kernel
theorem dX10_canBeLaid_7 : decode cX10_canBeLaid 7 = .ok (.getfield 132, 3) := by decide +kernel
theorem dX10_canBeLaid_10 : decode cX10_canBeLaid 10 = .ok (.if_icmp .ge 30, 3) := by decide +kernel
theorem dX10_canBeLaid_13 : decode cX10_canBeLaid 13 = .ok (.aload_n 0, 1) := by decide +kernel
theorem dX10_canBeLaid_14 : decode cX10_canBeLaid 14 = .ok (.getfield 21, 3) := by decide +kernel
theorem dX10_canBeLaid_17 : decode cX10_canBeLaid 17 = .ok (.iload_n 1, 1) := by decide +kernel
theorem dX10_canBeLaid_18 : decode cX10_canBeLaid 18 = .ok (.invokevirtual 134, 3) := by decide +kernel
theorem dX10_canBeLaid_21 : decode cX10_canBeLaid 21 = .ok (.aload_n 0, 1) := by decide +kernel
theorem dX10_canBeLaid_22 : decode cX10_canBeLaid 22 = .ok (.getfield 12, 3) := by decide +kernel
theorem dX10_canBeLaid_25 : decode cX10_canBeLaid 25 = .ok (.iload_n 1, 1) := by decide +kernel
theorem dX10_canBeLaid_26 : decode cX10_canBeLaid 26 = .ok (.invokevirtual 137, 3) := by decide +kernel
theorem dX10_canBeLaid_29 : decode cX10_canBeLaid 29 = .ok (.if_icmp .le 5, 3) := by decide +kernel
theorem dX10_canBeLaid_32 : decode cX10_canBeLaid 32 = .ok (.iconst 0, 1) := by decide +kernel
theorem dX10_canBeLaid_33 : decode cX10_canBeLaid 33 = .ok (.ireturn, 1) := by decide +kernel
theorem dX10_canBeLaid_34 : decode cX10_canBeLaid 34 = .ok (.iinc 1 1, 3) := by decide +kernel
theorem dX10_canBeLaid_37 : decode cX10_canBeLaid 37 = .ok (.goto (-35), 3) := by decide +kernel
theorem dX10_canBeLaid_40 : decode cX10_canBeLaid 40 = .ok (.aload_n 0, 1) := by decide +kernel
theorem dX10_canBeLaid_41 : decode cX10_canBeLaid 41 = .ok (.getfield 12, 3) := by decide +kernel
theorem dX10_canBeLaid_44 : decode cX10_canBeLaid 44 = .ok (.getfield 132, 3) := by decide +kernel
theorem dX10_canBeLaid_47 : decode cX10_canBeLaid 47 = .ok (.ifCond .le 17, 3) := by decide +kernel
theorem dX10_canBeLaid_50 : decode cX10_canBeLaid 50 = .ok (.aload_n 0, 1) := by decide +kernel
theorem dX10_canBeLaid_51 : decode cX10_canBeLaid 51 = .ok (.getfield 21, 3) := by decide +kernel
theorem dX10_canBeLaid_54 : decode cX10_canBeLaid 54 = .ok (.getfield 140, 3) := by decide +kernel
theorem dX10_canBeLaid_57 : decode cX10_canBeLaid 57 = .ok (.ifCond .le 7, 3) := by decide +kernel
theorem dX10_canBeLaid_60 : decode cX10_canBeLaid 60 = .ok (.iconst 1, 1) := by decide +kernel
theorem dX10_canBeLaid_61 : decode cX10_canBeLaid 61 = .ok (.goto 4, 3) := by decide +kernel
theorem dX10_canBeLaid_64 : decode cX10_canBeLaid 64 = .ok (.iconst 0, 1) := by decide +kernel
theorem dX10_canBeLaid_65 : decode cX10_canBeLaid 65 = .ok (.ireturn, 1) := by decide +kernel
theorem dX10_sortsOfDish_0 : decode cX10_sortsOfDish 0 = .ok (.aload_n 0, 1) := by decide +kernel
theorem dX10_sortsOfDish_1 : decode cX10_sortsOfDish 1 = .ok (.getfield 25, 3) := by decide +kernel
theorem dX10_sortsOfDish_4 : decode cX10_sortsOfDish 4 = .ok (.iload_n 1, 1) := by decide +kernel
theorem dX10_sortsOfDish_5 : decode cX10_sortsOfDish 5 = .ok (.invokestatic 141, 3) := by decide +kernel
theorem dX10_sortsOfDish_8 : decode cX10_sortsOfDish 8 = .ok (.ireturn, 1) := by decide +kernel
theorem dX10_hungryWith_0 : decode cX10_hungryWith 0 = .ok (.iconst 0, 1) := by decide +kernel
theorem dX10_hungryWith_1 : decode cX10_hungryWith 1 = .ok (.istore_n 2, 1) := by decide +kernel
theorem dX10_hungryWith_2 : decode cX10_hungryWith 2 = .ok (.iconst 0, 1) := by decide +kernel
theorem dX10_hungryWith_3 : decode cX10_hungryWith 3 = .ok (.istore_n 3, 1) := by decide +kernel
theorem dX10_hungryWith_4 : decode cX10_hungryWith 4 = .ok (.iload_n 3, 1) := by decide +kernel
theorem dX10_hungryWith_5 : decode cX10_hungryWith 5 = .ok (.aload_n 0, 1) := by decide +kernel
theorem dX10_hungryWith_6 : decode cX10_hungryWith 6 = .ok (.getfield 64, 3) := by decide +kernel
theorem dX10_hungryWith_9 : decode cX10_hungryWith 9 = .ok (.if_icmp .ge 29, 3) := by decide +kernel
theorem dX10_hungryWith_12 : decode cX10_hungryWith 12 = .ok (.iload_n 1, 1) := by decide +kernel
theorem dX10_hungryWith_13 : decode cX10_hungryWith 13 = .ok (.ifCond .eq 16, 3) := by decide +kernel
theorem dX10_hungryWith_16 : decode cX10_hungryWith 16 = .ok (.aload_n 0, 1) := by decide +kernel
theorem dX10_hungryWith_17 : decode cX10_hungryWith 17 = .ok (.getfield 29, 3) := by decide +kernel
theorem dX10_hungryWith_20 : decode cX10_hungryWith 20 = .ok (.iload_n 3, 1) := by decide +kernel
theorem dX10_hungryWith_21 : decode cX10_hungryWith 21 = .ok (.invokestatic 141, 3) := by decide +kernel
theorem dX10_hungryWith_24 : decode cX10_hungryWith 24 = .ok (.iload_n 1, 1) := by decide +kernel
theorem dX10_hungryWith_25 : decode cX10_hungryWith 25 = .ok (.iand, 1) := by decide +kernel
theorem dX10_hungryWith_26 : decode cX10_hungryWith 26 = .ok (.ifCond .eq 6, 3) := by decide +kernel
theorem dX10_hungryWith_29 : decode cX10_hungryWith 29 = .ok (.iinc 2 1, 3) := by decide +kernel
theorem dX10_hungryWith_32 : decode cX10_hungryWith 32 = .ok (.iinc 3 1, 3) := by decide +kernel
theorem dX10_hungryWith_35 : decode cX10_hungryWith 35 = .ok (.goto (-31), 3) := by decide +kernel
theorem dX10_hungryWith_38 : decode cX10_hungryWith 38 = .ok (.iload_n 2, 1) := by decide +kernel
theorem dX10_hungryWith_39 : decode cX10_hungryWith 39 = .ok (.ireturn, 1) := by decide +kernel
theorem dX11_init_0 : decode cX11_init 0 = .ok (.aload_n 0, 1) := by decide +kernel
theorem dX11_init_1 : decode cX11_init 1 = .ok (.invokespecial 1, 3) := by decide +kernel
theorem dX11_init_4 : decode cX11_init 4 = .ok (.aload_n 0, 1) := by decide +kernel
theorem dX11_init_5 : decode cX11_init 5 = .ok (.new 7, 3) := by decide +kernel
theorem dX11_init_8 : decode cX11_init 8 = .ok (.dup, 1) := by decide +kernel
theorem dX11_init_9 : decode cX11_init 9 = .ok (.invokespecial 9, 3) := by decide +kernel
theorem dX11_init_12 : decode cX11_init 12 = .ok (.putfield 10, 3) := by decide +kernel
theorem dX11_init_15 : decode cX11_init 15 = .ok (.aload_n 0, 1) := by decide +kernel
theorem dX11_init_16 : decode cX11_init 16 = .ok (.new 16, 3) := by decide +kernel
theorem dX11_init_19 : decode cX11_init 19 = .ok (.dup, 1) := by decide +kernel
theorem dX11_init_20 : decode cX11_init 20 = .ok (.invokespecial 18, 3) := by decide +kernel
theorem dX11_init_23 : decode cX11_init 23 = .ok (.putfield 19, 3) := by decide +kernel
theorem dX11_init_26 : decode cX11_init 26 = .ok (.aload_n 0, 1) := by decide +kernel
theorem dX11_init_27 : decode cX11_init 27 = .ok (.new 16, 3) := by decide +kernel
theorem dX11_init_30 : decode cX11_init 30 = .ok (.dup, 1) := by decide +kernel
theorem dX11_init_31 : decode cX11_init 31 = .ok (.invokespecial 18, 3) := by decide +kernel
theorem dX11_init_34 : decode cX11_init 34 = .ok (.putfield 23, 3) := by decide +kernel
theorem dX11_init_37 : decode cX11_init 37 = .ok (.aload_n 0, 1) := by decide +kernel
theorem dX11_init_38 : decode cX11_init 38 = .ok (.new 26, 3) := by decide +kernel
theorem dX11_init_41 : decode cX11_init 41 = .ok (.dup, 1) := by decide +kernel
theorem dX11_init_42 : decode cX11_init 42 = .ok (.invokespecial 28, 3) := by decide +kernel
theorem dX11_init_45 : decode cX11_init 45 = .ok (.putfield 29, 3) := by decide +kernel
theorem dX11_init_48 : decode cX11_init 48 = .ok (.aload_n 0, 1) := by decide +kernel
theorem dX11_init_49 : decode cX11_init 49 = .ok (.new 26, 3) := by decide +kernel
theorem dX11_init_52 : decode cX11_init 52 = .ok (.dup, 1) := by decide +kernel
theorem dX11_init_53 : decode cX11_init 53 = .ok (.invokespecial 28, 3) := by decide +kernel
theorem dX11_init_56 : decode cX11_init 56 = .ok (.putfield 33, 3) := by decide +kernel
theorem dX11_init_59 : decode cX11_init 59 = .ok (.aload_n 0, 1) := by decide +kernel
theorem dX11_init_60 : decode cX11_init 60 = .ok (.new 26, 3) := by decide +kernel
theorem dX11_init_63 : decode cX11_init 63 = .ok (.dup, 1) := by decide +kernel
theorem dX11_init_64 : decode cX11_init 64 = .ok (.invokespecial 28, 3) := by decide +kernel
theorem dX11_init_67 : decode cX11_init 67 = .ok (.putfield 36, 3) := by decide +kernel
theorem dX11_init_70 : decode cX11_init 70 = .ok (.aload_n 0, 1) := by decide +kernel
theorem dX11_init_71 : decode cX11_init 71 = .ok (.new 39, 3) := by decide +kernel
theorem dX11_init_74 : decode cX11_init 74 = .ok (.dup, 1) := by decide +kernel
theorem dX11_init_75 : decode cX11_init 75 = .ok (.aload_n 0, 1) := by decide +kernel
theorem dX11_init_76 : decode cX11_init 76 = .ok (.getfield 23, 3) := by decide +kernel
theorem dX11_init_79 : decode cX11_init 79 = .ok (.aload_n 0, 1) := by decide +kernel
theorem dX11_init_80 : decode cX11_init 80 = .ok (.getfield 29, 3) := by decide +kernel
theorem dX11_init_83 : decode cX11_init 83 = .ok (.invokespecial 41, 3) := by decide +kernel
theorem dX11_init_86 : decode cX11_init 86 = .ok (.putfield 44, 3) := by decide +kernel
theorem dX11_init_89 : decode cX11_init 89 = .ok (.aload_n 0, 1) := by decide +kernel
theorem dX11_init_90 : decode cX11_init 90 = .ok (.new 48, 3) := by decide +kernel
theorem dX11_init_93 : decode cX11_init 93 = .ok (.dup, 1) := by decide +kernel
theorem dX11_init_94 : decode cX11_init 94 = .ok (.aload_n 0, 1) := by decide +kernel
theorem dX11_init_95 : decode cX11_init 95 = .ok (.getfield 44, 3) := by decide +kernel
theorem dX11_init_98 : decode cX11_init 98 = .ok (.invokespecial 50, 3) := by decide +kernel
theorem dX11_init_101 : decode cX11_init 101 = .ok (.putfield 53, 3) := by decide +kernel
theorem dX11_init_104 : decode cX11_init 104 = .ok (.aload_n 0, 1) := by decide +kernel
theorem dX11_init_105 : decode cX11_init 105 = .ok (.new 57, 3) := by decide +kernel
theorem dX11_init_108 : decode cX11_init 108 = .ok (.dup, 1) := by decide +kernel
theorem dX11_init_109 : decode cX11_init 109 = .ok (.aload_n 0, 1) := by decide +kernel
theorem dX11_init_110 : decode cX11_init 110 = .ok (.getfield 44, 3) := by decide +kernel
theorem dX11_init_113 : decode cX11_init 113 = .ok (.aload_n 0, 1) := by decide +kernel
theorem dX11_init_114 : decode cX11_init 114 = .ok (.getfield 53, 3) := by decide +kernel
theorem dX11_init_117 : decode cX11_init 117 = .ok (.invokespecial 59, 3) := by decide +kernel
theorem dX11_init_120 : decode cX11_init 120 = .ok (.putfield 62, 3) := by decide +kernel
theorem dX11_init_123 : decode cX11_init 123 = .ok (.aload_n 0, 1) := by decide +kernel
theorem dX11_init_124 : decode cX11_init 124 = .ok (.new 66, 3) := by decide +kernel
theorem dX11_init_127 : decode cX11_init 127 = .ok (.dup, 1) := by decide +kernel
theorem dX11_init_128 : decode cX11_init 128 = .ok (.aload_n 0, 1) := by decide +kernel
theorem dX11_init_129 : decode cX11_init 129 = .ok (.getfield 44, 3) := by decide +kernel
theorem dX11_init_132 : decode cX11_init 132 = .ok (.invokespecial 68, 3) := by decide +kernel
theorem dX11_init_135 : decode cX11_init 135 = .ok (.putfield 69, 3) := by decide +kernel
theorem dX11_init_138 : decode cX11_init 138 = .ok (.aload_n 0, 1) := by decide +kernel
theorem dX11_init_139 : decode cX11_init 139 = .ok (.new 73, 3) := by decide +kernel
theorem dX11_init_142 : decode cX11_init 142 = .ok (.dup, 1) := by decide +kernel
theorem dX11_init_143 : decode cX11_init 143 = .ok (.invokespecial 75, 3) := by decide +kernel
theorem dX11_init_146 : decode cX11_init 146 = .ok (.putfield 76, 3) := by decide +kernel
theorem dX11_init_149 : decode cX11_init 149 = .ok (.aload_n 0, 1) := by decide +kernel
theorem dX11_init_150 : decode cX11_init 150 = .ok (.getfield 23, 3) := by decide +kernel
theorem dX11_init_153 : decode cX11_init 153 = .ok (.getfield 80, 3) := by decide +kernel
theorem dX11_init_156 : decode cX11_init 156 = .ok (.bipush 40, 2) := by decide +kernel
theorem dX11_init_158 : decode cX11_init 158 = .ok (.iconst 5, 1) := by decide +kernel
theorem dX11_init_159 : decode cX11_init 159 = .ok (.bipush 10, 2) := by decide +kernel
theorem dX11_init_161 : decode cX11_init 161 = .ok (.invokevirtual 84, 3) := by decide +kernel
theorem dX11_init_164 : decode cX11_init 164 = .ok (.pop, 1) := by decide +kernel
theorem dX11_init_165 : decode cX11_init 165 = .ok (.aload_n 0, 1) := by decide +kernel
theorem dX11_init_166 : decode cX11_init 166 = .ok (.getfield 23, 3) := by decide +kernel
theorem dX11_init_169 : decode cX11_init 169 = .ok (.getfield 90, 3) := by decide +kernel
theorem dX11_init_172 : decode cX11_init 172 = .ok (.iconst 0, 1) := by decide +kernel
theorem dX11_init_173 : decode cX11_init 173 = .ok (.iconst 0, 1) := by decide +kernel
theorem dX11_init_174 : decode cX11_init 174 = .ok (.bipush 9, 2) := by decide +kernel
theorem dX11_init_176 : decode cX11_init 176 = .ok (.bipush 48, 2) := by decide +kernel
theorem dX11_init_178 : decode cX11_init 178 = .ok (.iconst 3, 1) := by decide +kernel
theorem dX11_init_179 : decode cX11_init 179 = .ok (.iconst 0, 1) := by decide +kernel
theorem dX11_init_180 : decode cX11_init 180 = .ok (.invokevirtual 94, 3) := by decide +kernel
theorem dX11_init_183 : decode cX11_init 183 = .ok (.pop, 1) := by decide +kernel
theorem dX11_init_184 : decode cX11_init 184 = .ok (.aload_n 0, 1) := by decide +kernel
theorem dX11_init_185 : decode cX11_init 185 = .ok (.getfield 29, 3) := by decide +kernel
theorem dX11_init_188 : decode cX11_init 188 = .ok (.aload_n 0, 1) := by decide +kernel
theorem dX11_init_189 : decode cX11_init 189 = .ok (.getfield 23, 3) := by decide +kernel
theorem dX11_init_192 : decode cX11_init 192 = .ok (.getfield 90, 3) := by decide +kernel
theorem dX11_init_195 : decode cX11_init 195 = .ok (.invokevirtual 99, 3) := by decide +kernel
theorem dX11_init_198 : decode cX11_init 198 = .ok (.return_, 1) := by decide +kernel
theorem dX11_write_0 : decode cX11_write 0 = .ok (.iload_n 1, 1) := by decide +kernel
theorem dX11_write_1 : decode cX11_write 1 = .ok (.iconst 1, 1) := by decide +kernel
theorem dX11_write_2 : decode cX11_write 2 = .ok (.bipush 8, 2) := by decide +kernel
theorem dX11_write_4 : decode cX11_write 4 = .ok (.invokestatic 103, 3) := by decide +kernel
theorem dX11_write_7 : decode cX11_write 7 = .ok (.ifCond .ne 5, 3) := by decide +kernel
theorem dX11_write_10 : decode cX11_write 10 = .ok (.iconst (-1), 1) := by decide +kernel
theorem dX11_write_11 : decode cX11_write 11 = .ok (.ireturn, 1) := by decide +kernel
theorem dX11_write_12 : decode cX11_write 12 = .ok (.aload_n 0, 1) := by decide +kernel
theorem dX11_write_13 : decode cX11_write 13 = .ok (.getfield 10, 3) := by decide +kernel
theorem dX11_write_16 : decode cX11_write 16 = .ok (.iload_n 1, 1) := by decide +kernel
theorem dX11_write_17 : decode cX11_write 17 = .ok (.lload_n 2, 1) := by decide +kernel
theorem dX11_write_18 : decode cX11_write 18 = .ok (.invokevirtual 106, 3) := by decide +kernel
theorem dX11_write_21 : decode cX11_write 21 = .ok (.ifCond .eq 13, 3) := by decide +kernel
theorem dX11_write_24 : decode cX11_write 24 = .ok (.aload_n 0, 1) := by decide +kernel
theorem dX11_write_25 : decode cX11_write 25 = .ok (.getfield 10, 3) := by decide +kernel
theorem dX11_write_28 : decode cX11_write 28 = .ok (.getfield 110, 3) := by decide +kernel
theorem dX11_write_31 : decode cX11_write 31 = .ok (.goto 5, 3) := by decide +kernel
theorem dX11_write_34 : decode cX11_write 34 = .ok (.bipush (-3), 2) := by decide +kernel
theorem dX11_write_36 : decode cX11_write 36 = .ok (.ireturn, 1) := by decide +kernel
theorem dX11_wipe_0 : decode cX11_wipe 0 = .ok (.aload_n 0, 1) := by decide +kernel
theorem dX11_wipe_1 : decode cX11_wipe 1 = .ok (.getfield 10, 3) := by decide +kernel
theorem dX11_wipe_4 : decode cX11_wipe 4 = .ok (.getfield 110, 3) := by decide +kernel
theorem dX11_wipe_7 : decode cX11_wipe 7 = .ok (.istore_n 1, 1) := by decide +kernel
theorem dX11_wipe_8 : decode cX11_wipe 8 = .ok (.aload_n 0, 1) := by decide +kernel
theorem dX11_wipe_9 : decode cX11_wipe 9 = .ok (.getfield 10, 3) := by decide +kernel
theorem dX11_wipe_12 : decode cX11_wipe 12 = .ok (.iconst 0, 1) := by decide +kernel
theorem dX11_wipe_13 : decode cX11_wipe 13 = .ok (.putfield 110, 3) := by decide +kernel
theorem dX11_wipe_16 : decode cX11_wipe 16 = .ok (.iload_n 1, 1) := by decide +kernel
theorem dX11_wipe_17 : decode cX11_wipe 17 = .ok (.ireturn, 1) := by decide +kernel
theorem dX11_fault_0 : decode cX11_fault 0 = .ok (.aload_n 0, 1) := by decide +kernel
theorem dX11_fault_1 : decode cX11_fault 1 = .ok (.getfield 19, 3) := by decide +kernel
theorem dX11_fault_4 : decode cX11_fault 4 = .ok (.aload_n 0, 1) := by decide +kernel
theorem dX11_fault_5 : decode cX11_fault 5 = .ok (.getfield 10, 3) := by decide +kernel
theorem dX11_fault_8 : decode cX11_fault 8 = .ok (.invokevirtual 114, 3) := by decide +kernel
theorem dX11_fault_11 : decode cX11_fault 11 = .ok (.ireturn, 1) := by decide +kernel
theorem dX11_lay_0 : decode cX11_lay 0 = .ok (.aload_n 0, 1) := by decide +kernel
theorem dX11_lay_1 : decode cX11_lay 1 = .ok (.getfield 19, 3) := by decide +kernel
theorem dX11_lay_4 : decode cX11_lay 4 = .ok (.aload_n 0, 1) := by decide +kernel
theorem dX11_lay_5 : decode cX11_lay 5 = .ok (.getfield 10, 3) := by decide +kernel
theorem dX11_lay_8 : decode cX11_lay 8 = .ok (.invokevirtual 114, 3) := by decide +kernel
theorem dX11_lay_11 : decode cX11_lay 11 = .ok (.bipush (-4), 2) := by decide +kernel
theorem dX11_lay_13 : decode cX11_lay 13 = .ok (.if_icmp .ne 13, 3) := by decide +kernel
theorem dX11_lay_16 : decode cX11_lay 16 = .ok (.aload_n 0, 1) := by decide +kernel
theorem dX11_lay_17 : decode cX11_lay 17 = .ok (.getfield 19, 3) := by decide +kernel
theorem dX11_lay_20 : decode cX11_lay 20 = .ok (.invokevirtual 118, 3) := by decide +kernel
theorem dX11_lay_23 : decode cX11_lay 23 = .ok (.ifCond .ne 6, 3) := by decide +kernel
theorem dX11_lay_26 : decode cX11_lay 26 = .ok (.bipush (-2), 2) := by decide +kernel
theorem dX11_lay_28 : decode cX11_lay 28 = .ok (.ireturn, 1) := by decide +kernel
theorem dX11_lay_29 : decode cX11_lay 29 = .ok (.aload_n 0, 1) := by decide +kernel
theorem dX11_lay_30 : decode cX11_lay 30 = .ok (.getfield 23, 3) := by decide +kernel
theorem dX11_lay_33 : decode cX11_lay 33 = .ok (.aload_n 0, 1) := by decide +kernel
theorem dX11_lay_34 : decode cX11_lay 34 = .ok (.getfield 10, 3) := by decide +kernel
theorem dX11_lay_37 : decode cX11_lay 37 = .ok (.invokevirtual 114, 3) := by decide +kernel
theorem dX11_lay_40 : decode cX11_lay 40 = .ok (.pop, 1) := by decide +kernel
theorem dX11_lay_41 : decode cX11_lay 41 = .ok (.aload_n 0, 1) := by decide +kernel
theorem dX11_lay_42 : decode cX11_lay 42 = .ok (.getfield 29, 3) := by decide +kernel
theorem dX11_lay_45 : decode cX11_lay 45 = .ok (.aload_n 0, 1) := by decide +kernel
theorem dX11_lay_46 : decode cX11_lay 46 = .ok (.getfield 23, 3) := by decide +kernel
theorem dX11_lay_49 : decode cX11_lay 49 = .ok (.getfield 90, 3) := by decide +kernel
theorem dX11_lay_52 : decode cX11_lay 52 = .ok (.invokevirtual 99, 3) := by decide +kernel
theorem dX11_lay_55 : decode cX11_lay 55 = .ok (.aload_n 0, 1) := by decide +kernel
theorem dX11_lay_56 : decode cX11_lay 56 = .ok (.getfield 76, 3) := by decide +kernel
theorem dX11_lay_59 : decode cX11_lay 59 = .ok (.iconst 0, 1) := by decide +kernel
theorem dX11_lay_60 : decode cX11_lay 60 = .ok (.putfield 122, 3) := by decide +kernel
theorem dX11_lay_63 : decode cX11_lay 63 = .ok (.aload_n 0, 1) := by decide +kernel
theorem dX11_lay_64 : decode cX11_lay 64 = .ok (.iconst 0, 1) := by decide +kernel
theorem dX11_lay_65 : decode cX11_lay 65 = .ok (.putfield 125, 3) := by decide +kernel
theorem dX11_lay_68 : decode cX11_lay 68 = .ok (.aload_n 0, 1) := by decide +kernel
theorem dX11_lay_69 : decode cX11_lay 69 = .ok (.getfield 23, 3) := by decide +kernel
theorem dX11_lay_72 : decode cX11_lay 72 = .ok (.getfield 90, 3) := by decide +kernel
theorem dX11_lay_75 : decode cX11_lay 75 = .ok (.getfield 128, 3) := by decide +kernel
theorem dX11_lay_78 : decode cX11_lay 78 = .ok (.ireturn, 1) := by decide +kernel
theorem dX11_food_0 : decode cX11_food 0 = .ok (.aload_n 0, 1) := by decide +kernel
theorem dX11_food_1 : decode cX11_food 1 = .ok (.getfield 44, 3) := by decide +kernel
theorem dX11_food_4 : decode cX11_food 4 = .ok (.iload_n 1, 1) := by decide +kernel
theorem dX11_food_5 : decode cX11_food 5 = .ok (.invokevirtual 129, 3) := by decide +kernel
theorem dX11_food_8 : decode cX11_food 8 = .ok (.ifCond .ne 5, 3) := by decide +kernel
theorem dX11_food_11 : decode cX11_food 11 = .ok (.iconst (-1), 1) := by decide +kernel
theorem dX11_food_12 : decode cX11_food 12 = .ok (.ireturn, 1) := by decide +kernel
theorem dX11_food_13 : decode cX11_food 13 = .ok (.iload_n 2, 1) := by decide +kernel
theorem dX11_food_14 : decode cX11_food 14 = .ok (.tableswitch 116 0 6 #[42, 51, 60, 69, 78, 87, 104], 42) := by decide +kernel
theorem dX11_food_56 : decode cX11_food 56 = .ok (.aload_n 0, 1) := by decide +kernel
theorem dX11_food_57 : decode cX11_food 57 = .ok (.getfield 29, 3) := by decide +kernel
theorem dX11_food_60 : decode cX11_food 60 = .ok (.iload_n 1, 1) := by decide +kernel
theorem dX11_food_61 : decode cX11_food 61 = .ok (.invokevirtual 133, 3) := by decide +kernel
theorem dX11_food_64 : decode cX11_food 64 = .ok (.ireturn, 1) := by decide +kernel
theorem dX11_food_65 : decode cX11_food 65 = .ok (.aload_n 0, 1) := by decide +kernel
theorem dX11_food_66 : decode cX11_food 66 = .ok (.getfield 29, 3) := by decide +kernel
theorem dX11_food_69 : decode cX11_food 69 = .ok (.iload_n 1, 1) := by decide +kernel
theorem dX11_food_70 : decode cX11_food 70 = .ok (.invokevirtual 137, 3) := by decide +kernel
theorem dX11_food_73 : decode cX11_food 73 = .ok (.ireturn, 1) := by decide +kernel
theorem dX11_food_74 : decode cX11_food 74 = .ok (.aload_n 0, 1) := by decide +kernel
theorem dX11_food_75 : decode cX11_food 75 = .ok (.getfield 29, 3) := by decide +kernel
theorem dX11_food_78 : decode cX11_food 78 = .ok (.iload_n 1, 1) := by decide +kernel
theorem dX11_food_79 : decode cX11_food 79 = .ok (.invokevirtual 140, 3) := by decide +kernel
theorem dX11_food_82 : decode cX11_food 82 = .ok (.ireturn, 1) := by decide +kernel
theorem dX11_food_83 : decode cX11_food 83 = .ok (.aload_n 0, 1) := by decide +kernel
theorem dX11_food_84 : decode cX11_food 84 = .ok (.getfield 44, 3) := by decide +kernel
theorem dX11_food_87 : decode cX11_food 87 = .ok (.iload_n 1, 1) := by decide +kernel
theorem dX11_food_88 : decode cX11_food 88 = .ok (.invokevirtual 143, 3) := by decide +kernel
theorem dX11_food_91 : decode cX11_food 91 = .ok (.ireturn, 1) := by decide +kernel
theorem dX11_food_92 : decode cX11_food 92 = .ok (.aload_n 0, 1) := by decide +kernel
theorem dX11_food_93 : decode cX11_food 93 = .ok (.getfield 29, 3) := by decide +kernel
theorem dX11_food_96 : decode cX11_food 96 = .ok (.iload_n 1, 1) := by decide +kernel
theorem dX11_food_97 : decode cX11_food 97 = .ok (.invokevirtual 146, 3) := by decide +kernel
theorem dX11_food_100 : decode cX11_food 100 = .ok (.ireturn, 1) := by decide +kernel
theorem dX11_food_101 : decode cX11_food 101 = .ok (.aload_n 0, 1) := by decide +kernel
theorem dX11_food_102 : decode cX11_food 102 = .ok (.getfield 44, 3) := by decide +kernel
theorem dX11_food_105 : decode cX11_food 105 = .ok (.iload_n 1, 1) := by decide +kernel
theorem dX11_food_106 : decode cX11_food 106 = .ok (.invokevirtual 149, 3) := by decide +kernel
theorem dX11_food_109 : decode cX11_food 109 = .ok (.ifCond .eq 7, 3) := by decide +kernel
theorem dX11_food_112 : decode cX11_food 112 = .ok (.iconst 1, 1) := by decide +kernel
theorem dX11_food_113 : decode cX11_food 113 = .ok (.goto 4, 3) := by decide +kernel
theorem dX11_food_116 : decode cX11_food 116 = .ok (.iconst 0, 1) := by decide +kernel
theorem dX11_food_117 : decode cX11_food 117 = .ok (.ireturn, 1) := by decide +kernel
theorem dX11_food_118 : decode cX11_food 118 = .ok (.aload_n 0, 1) := by decide +kernel
theorem dX11_food_119 : decode cX11_food 119 = .ok (.getfield 23, 3) := by decide +kernel
theorem dX11_food_122 : decode cX11_food 122 = .ok (.getfield 90, 3) := by decide +kernel
theorem dX11_food_125 : decode cX11_food 125 = .ok (.iload_n 1, 1) := by decide +kernel
theorem dX11_food_126 : decode cX11_food 126 = .ok (.invokevirtual 152, 3) := by decide +kernel
theorem dX11_food_129 : decode cX11_food 129 = .ok (.ireturn, 1) := by decide +kernel
theorem dX11_food_130 : decode cX11_food 130 = .ok (.iconst (-1), 1) := by decide +kernel
theorem dX11_food_131 : decode cX11_food 131 = .ok (.ireturn, 1) := by decide +kernel
theorem dX11_warmth_0 : decode cX11_warmth 0 = .ok (.aload_n 0, 1) := by decide +kernel
theorem dX11_warmth_1 : decode cX11_warmth 1 = .ok (.getfield 23, 3) := by decide +kernel
theorem dX11_warmth_4 : decode cX11_warmth 4 = .ok (.getfield 80, 3) := by decide +kernel
theorem dX11_warmth_7 : decode cX11_warmth 7 = .ok (.iload_n 1, 1) := by decide +kernel
theorem dX11_warmth_8 : decode cX11_warmth 8 = .ok (.invokevirtual 155, 3) := by decide +kernel
theorem dX11_warmth_11 : decode cX11_warmth 11 = .ok (.ifCond .eq 13, 3) := by decide +kernel
theorem dX11_warmth_14 : decode cX11_warmth 14 = .ok (.iload_n 2, 1) := by decide +kernel
theorem dX11_warmth_15 : decode cX11_warmth 15 = .ok (.iconst 0, 1) := by decide +kernel
theorem dX11_warmth_16 : decode cX11_warmth 16 = .ok (.ldc 158, 2) := by decide +kernel
theorem dX11_warmth_18 : decode cX11_warmth 18 = .ok (.invokestatic 103, 3) := by decide +kernel
theorem dX11_warmth_21 : decode cX11_warmth 21 = .ok (.ifCond .ne 5, 3) := by decide +kernel
theorem dX11_warmth_24 : decode cX11_warmth 24 = .ok (.iconst (-1), 1) := by decide +kernel
theorem dX11_warmth_25 : decode cX11_warmth 25 = .ok (.ireturn, 1) := by decide +kernel
theorem dX11_warmth_26 : decode cX11_warmth 26 = .ok (.aload_n 0, 1) := by decide +kernel
theorem dX11_warmth_27 : decode cX11_warmth 27 = .ok (.getfield 23, 3) := by decide +kernel
theorem dX11_warmth_30 : decode cX11_warmth 30 = .ok (.getfield 80, 3) := by decide +kernel
theorem dX11_warmth_33 : decode cX11_warmth 33 = .ok (.iload_n 1, 1) := by decide +kernel
theorem dX11_warmth_34 : decode cX11_warmth 34 = .ok (.iload_n 2, 1) := by decide +kernel
theorem dX11_warmth_35 : decode cX11_warmth 35 = .ok (.invokevirtual 159, 3) := by decide +kernel
theorem dX11_warmth_38 : decode cX11_warmth 38 = .ok (.ireturn, 1) := by decide +kernel
theorem dX11_hours_0 : decode cX11_hours 0 = .ok (.iload_n 1, 1) := by decide +kernel
theorem dX11_hours_1 : decode cX11_hours 1 = .ok (.iconst 1, 1) := by decide +kernel
theorem dX11_hours_2 : decode cX11_hours 2 = .ok (.sipush 999, 3) := by decide +kernel
theorem dX11_hours_5 : decode cX11_hours 5 = .ok (.invokestatic 103, 3) := by decide +kernel
theorem dX11_hours_8 : decode cX11_hours 8 = .ok (.ifCond .ne 5, 3) := by decide +kernel
theorem dX11_hours_11 : decode cX11_hours 11 = .ok (.iconst (-1), 1) := by decide +kernel
theorem dX11_hours_12 : decode cX11_hours 12 = .ok (.ireturn, 1) := by decide +kernel
theorem dX11_hours_13 : decode cX11_hours 13 = .ok (.aload_n 0, 1) := by decide +kernel
theorem dX11_hours_14 : decode cX11_hours 14 = .ok (.getfield 29, 3) := by decide +kernel
theorem dX11_hours_17 : decode cX11_hours 17 = .ok (.getfield 163, 3) := by decide +kernel
theorem dX11_hours_20 : decode cX11_hours 20 = .ok (.iload_n 1, 1) := by decide +kernel
theorem dX11_hours_21 : decode cX11_hours 21 = .ok (.iadd, 1) := by decide +kernel
theorem dX11_hours_22 : decode cX11_hours 22 = .ok (.ldc 158, 2) := by decide +kernel
theorem dX11_hours_24 : decode cX11_hours 24 = .ok (.if_icmp .le 6, 3) := by decide +kernel
theorem dX11_hours_27 : decode cX11_hours 27 = .ok (.bipush (-2), 2) := by decide +kernel
theorem dX11_hours_29 : decode cX11_hours 29 = .ok (.ireturn, 1) := by decide +kernel
theorem dX11_hours_30 : decode cX11_hours 30 = .ok (.aload_n 0, 1) := by decide +kernel
theorem dX11_hours_31 : decode cX11_hours 31 = .ok (.getfield 44, 3) := by decide +kernel
theorem dX11_hours_34 : decode cX11_hours 34 = .ok (.iload_n 1, 1) := by decide +kernel
theorem dX11_hours_35 : decode cX11_hours 35 = .ok (.invokevirtual 166, 3) := by decide +kernel
theorem dX11_hours_38 : decode cX11_hours 38 = .ok (.aload_n 0, 1) := by decide +kernel
theorem dX11_hours_39 : decode cX11_hours 39 = .ok (.getfield 44, 3) := by decide +kernel
theorem dX11_hours_42 : decode cX11_hours 42 = .ok (.invokevirtual 170, 3) := by decide +kernel
theorem dX11_hours_45 : decode cX11_hours 45 = .ok (.invokestatic 174, 3) := by decide +kernel
theorem dX11_hours_48 : decode cX11_hours 48 = .ok (.ireturn, 1) := by decide +kernel
theorem dX11_move_0 : decode cX11_move 0 = .ok (.aload_n 0, 1) := by decide +kernel
theorem dX11_move_1 : decode cX11_move 1 = .ok (.getfield 44, 3) := by decide +kernel
theorem dX11_move_4 : decode cX11_move 4 = .ok (.iload_n 1, 1) := by decide +kernel
theorem dX11_move_5 : decode cX11_move 5 = .ok (.invokevirtual 129, 3) := by decide +kernel
theorem dX11_move_8 : decode cX11_move 8 = .ok (.ifCond .eq 17, 3) := by decide +kernel
theorem dX11_move_11 : decode cX11_move 11 = .ok (.aload_n 0, 1) := by decide +kernel
theorem dX11_move_12 : decode cX11_move 12 = .ok (.getfield 23, 3) := by decide +kernel
theorem dX11_move_15 : decode cX11_move 15 = .ok (.getfield 80, 3) := by decide +kernel
theorem dX11_move_18 : decode cX11_move 18 = .ok (.iload_n 2, 1) := by decide +kernel
theorem dX11_move_19 : decode cX11_move 19 = .ok (.invokevirtual 155, 3) := by decide +kernel
theorem dX11_move_22 : decode cX11_move 22 = .ok (.ifCond .ne 5, 3) := by decide +kernel
theorem dX11_move_25 : decode cX11_move 25 = .ok (.iconst (-1), 1) := by decide +kernel
theorem dX11_move_26 : decode cX11_move 26 = .ok (.ireturn, 1) := by decide +kernel
theorem dX11_move_27 : decode cX11_move 27 = .ok (.aload_n 0, 1) := by decide +kernel
theorem dX11_move_28 : decode cX11_move 28 = .ok (.getfield 29, 3) := by decide +kernel
theorem dX11_move_31 : decode cX11_move 31 = .ok (.iload_n 1, 1) := by decide +kernel
theorem dX11_move_32 : decode cX11_move 32 = .ok (.invokevirtual 179, 3) := by decide +kernel
theorem dX11_move_35 : decode cX11_move 35 = .ok (.ifCond .eq 37, 3) := by decide +kernel
theorem dX11_move_38 : decode cX11_move 38 = .ok (.aload_n 0, 1) := by decide +kernel
theorem dX11_move_39 : decode cX11_move 39 = .ok (.getfield 29, 3) := by decide +kernel
theorem dX11_move_42 : decode cX11_move 42 = .ok (.iload_n 1, 1) := by decide +kernel
theorem dX11_move_43 : decode cX11_move 43 = .ok (.invokevirtual 137, 3) := by decide +kernel
theorem dX11_move_46 : decode cX11_move 46 = .ok (.iload_n 2, 1) := by decide +kernel
theorem dX11_move_47 : decode cX11_move 47 = .ok (.if_icmp .eq 25, 3) := by decide +kernel
theorem dX11_move_50 : decode cX11_move 50 = .ok (.aload_n 0, 1) := by decide +kernel
theorem dX11_move_51 : decode cX11_move 51 = .ok (.getfield 29, 3) := by decide +kernel
theorem dX11_move_54 : decode cX11_move 54 = .ok (.iload_n 2, 1) := by decide +kernel
theorem dX11_move_55 : decode cX11_move 55 = .ok (.invokevirtual 182, 3) := by decide +kernel
theorem dX11_move_58 : decode cX11_move 58 = .ok (.aload_n 0, 1) := by decide +kernel
theorem dX11_move_59 : decode cX11_move 59 = .ok (.getfield 23, 3) := by decide +kernel
theorem dX11_move_62 : decode cX11_move 62 = .ok (.getfield 80, 3) := by decide +kernel
theorem dX11_move_65 : decode cX11_move 65 = .ok (.iload_n 2, 1) := by decide +kernel
theorem dX11_move_66 : decode cX11_move 66 = .ok (.invokevirtual 185, 3) := by decide +kernel
theorem dX11_move_69 : decode cX11_move 69 = .ok (.if_icmp .lt 6, 3) := by decide +kernel
theorem dX11_move_72 : decode cX11_move 72 = .ok (.bipush (-2), 2) := by decide +kernel
theorem dX11_move_74 : decode cX11_move 74 = .ok (.ireturn, 1) := by decide +kernel
theorem dX11_move_75 : decode cX11_move 75 = .ok (.aload_n 0, 1) := by decide +kernel
theorem dX11_move_76 : decode cX11_move 76 = .ok (.getfield 29, 3) := by decide +kernel
theorem dX11_move_79 : decode cX11_move 79 = .ok (.iload_n 1, 1) := by decide +kernel
theorem dX11_move_80 : decode cX11_move 80 = .ok (.iload_n 2, 1) := by decide +kernel
theorem dX11_move_81 : decode cX11_move 81 = .ok (.invokevirtual 188, 3) := by decide +kernel
theorem dX11_move_84 : decode cX11_move 84 = .ok (.aload_n 0, 1) := by decide +kernel
theorem dX11_move_85 : decode cX11_move 85 = .ok (.getfield 29, 3) := by decide +kernel
theorem dX11_move_88 : decode cX11_move 88 = .ok (.iload_n 2, 1) := by decide +kernel
theorem dX11_move_89 : decode cX11_move 89 = .ok (.invokevirtual 182, 3) := by decide +kernel
theorem dX11_move_92 : decode cX11_move 92 = .ok (.ireturn, 1) := by decide +kernel
theorem dX11_make_0 : decode cX11_make 0 = .ok (.aload_n 0, 1) := by decide +kernel
theorem dX11_make_1 : decode cX11_make 1 = .ok (.getfield 44, 3) := by decide +kernel
theorem dX11_make_4 : decode cX11_make 4 = .ok (.iload_n 1, 1) := by decide +kernel
theorem dX11_make_5 : decode cX11_make 5 = .ok (.invokevirtual 129, 3) := by decide +kernel
theorem dX11_make_8 : decode cX11_make 8 = .ok (.ifCond .eq 12, 3) := by decide +kernel
theorem dX11_make_11 : decode cX11_make 11 = .ok (.iload_n 2, 1) := by decide +kernel
theorem dX11_make_12 : decode cX11_make 12 = .ok (.iconst 0, 1) := by decide +kernel
theorem dX11_make_13 : decode cX11_make 13 = .ok (.iconst 3, 1) := by decide +kernel
theorem dX11_make_14 : decode cX11_make 14 = .ok (.invokestatic 103, 3) := by decide +kernel
theorem dX11_make_17 : decode cX11_make 17 = .ok (.ifCond .ne 5, 3) := by decide +kernel
theorem dX11_make_20 : decode cX11_make 20 = .ok (.iconst (-1), 1) := by decide +kernel
theorem dX11_make_21 : decode cX11_make 21 = .ok (.ireturn, 1) := by decide +kernel
theorem dX11_make_22 : decode cX11_make 22 = .ok (.aload_n 0, 1) := by decide +kernel
theorem dX11_make_23 : decode cX11_make 23 = .ok (.getfield 29, 3) := by decide +kernel
theorem dX11_make_26 : decode cX11_make 26 = .ok (.iload_n 1, 1) := by decide +kernel
theorem dX11_make_27 : decode cX11_make 27 = .ok (.invokevirtual 133, 3) := by decide +kernel
theorem dX11_make_30 : decode cX11_make 30 = .ok (.istore_n 3, 1) := by decide +kernel
theorem dX11_make_31 : decode cX11_make 31 = .ok (.aload_n 0, 1) := by decide +kernel
theorem dX11_make_32 : decode cX11_make 32 = .ok (.getfield 29, 3) := by decide +kernel
theorem dX11_make_35 : decode cX11_make 35 = .ok (.iload_n 1, 1) := by decide +kernel
theorem dX11_make_36 : decode cX11_make 36 = .ok (.invokevirtual 179, 3) := by decide +kernel
theorem dX11_make_39 : decode cX11_make 39 = .ok (.ifCond .eq 11, 3) := by decide +kernel
theorem dX11_make_42 : decode cX11_make 42 = .ok (.iload_n 3, 1) := by decide +kernel
theorem dX11_make_43 : decode cX11_make 43 = .ok (.iload_n 2, 1) := by decide +kernel
theorem dX11_make_44 : decode cX11_make 44 = .ok (.invokestatic 192, 3) := by decide +kernel
theorem dX11_make_47 : decode cX11_make 47 = .ok (.ifCond .ne 6, 3) := by decide +kernel
theorem dX11_make_50 : decode cX11_make 50 = .ok (.bipush (-2), 2) := by decide +kernel
theorem dX11_make_52 : decode cX11_make 52 = .ok (.ireturn, 1) := by decide +kernel
theorem dX11_make_53 : decode cX11_make 53 = .ok (.aload_n 0, 1) := by decide +kernel
theorem dX11_make_54 : decode cX11_make 54 = .ok (.getfield 29, 3) := by decide +kernel
theorem dX11_make_57 : decode cX11_make 57 = .ok (.iload_n 1, 1) := by decide +kernel
theorem dX11_make_58 : decode cX11_make 58 = .ok (.iload_n 2, 1) := by decide +kernel
theorem dX11_make_59 : decode cX11_make 59 = .ok (.ifCond .ne 7, 3) := by decide +kernel
theorem dX11_make_62 : decode cX11_make 62 = .ok (.iconst 1, 1) := by decide +kernel
theorem dX11_make_63 : decode cX11_make 63 = .ok (.goto 4, 3) := by decide +kernel
theorem dX11_make_66 : decode cX11_make 66 = .ok (.iload_n 2, 1) := by decide +kernel
theorem dX11_make_67 : decode cX11_make 67 = .ok (.invokevirtual 196, 3) := by decide +kernel
theorem dX11_make_70 : decode cX11_make 70 = .ok (.iload_n 3, 1) := by decide +kernel
theorem dX11_make_71 : decode cX11_make 71 = .ok (.ireturn, 1) := by decide +kernel
theorem dX11_eat_0 : decode cX11_eat 0 = .ok (.aload_n 0, 1) := by decide +kernel
theorem dX11_eat_1 : decode cX11_eat 1 = .ok (.iload_n 1, 1) := by decide +kernel
theorem dX11_eat_2 : decode cX11_eat 2 = .ok (.iconst 1, 1) := by decide +kernel
theorem dX11_eat_3 : decode cX11_eat 3 = .ok (.invokevirtual 199, 3) := by decide +kernel
theorem dX11_eat_6 : decode cX11_eat 6 = .ok (.ireturn, 1) := by decide +kernel
theorem dX11_throwOut_0 : decode cX11_throwOut 0 = .ok (.aload_n 0, 1) := by decide +kernel
theorem dX11_throwOut_1 : decode cX11_throwOut 1 = .ok (.iload_n 1, 1) := by decide +kernel
theorem dX11_throwOut_2 : decode cX11_throwOut 2 = .ok (.iconst 2, 1) := by decide +kernel
theorem dX11_throwOut_3 : decode cX11_throwOut 3 = .ok (.invokevirtual 199, 3) := by decide +kernel
theorem dX11_throwOut_6 : decode cX11_throwOut 6 = .ok (.ireturn, 1) := by decide +kernel
theorem dX11_offIn_0 : decode cX11_offIn 0 = .ok (.aload_n 0, 1) := by decide +kernel
theorem dX11_offIn_1 : decode cX11_offIn 1 = .ok (.getfield 44, 3) := by decide +kernel
theorem dX11_offIn_4 : decode cX11_offIn 4 = .ok (.iload_n 1, 1) := by decide +kernel
theorem dX11_offIn_5 : decode cX11_offIn 5 = .ok (.invokevirtual 129, 3) := by decide +kernel
theorem dX11_offIn_8 : decode cX11_offIn 8 = .ok (.ifCond .eq 17, 3) := by decide +kernel
theorem dX11_offIn_11 : decode cX11_offIn 11 = .ok (.aload_n 0, 1) := by decide +kernel
theorem dX11_offIn_12 : decode cX11_offIn 12 = .ok (.getfield 23, 3) := by decide +kernel
theorem dX11_offIn_15 : decode cX11_offIn 15 = .ok (.getfield 80, 3) := by decide +kernel
theorem dX11_offIn_18 : decode cX11_offIn 18 = .ok (.iload_n 2, 1) := by decide +kernel
theorem dX11_offIn_19 : decode cX11_offIn 19 = .ok (.invokevirtual 155, 3) := by decide +kernel
theorem dX11_offIn_22 : decode cX11_offIn 22 = .ok (.ifCond .ne 5, 3) := by decide +kernel
theorem dX11_offIn_25 : decode cX11_offIn 25 = .ok (.iconst (-1), 1) := by decide +kernel
theorem dX11_offIn_26 : decode cX11_offIn 26 = .ok (.ireturn, 1) := by decide +kernel
theorem dX11_offIn_27 : decode cX11_offIn 27 = .ok (.aload_n 0, 1) := by decide +kernel
theorem dX11_offIn_28 : decode cX11_offIn 28 = .ok (.getfield 29, 3) := by decide +kernel
theorem dX11_offIn_31 : decode cX11_offIn 31 = .ok (.iload_n 1, 1) := by decide +kernel
theorem dX11_offIn_32 : decode cX11_offIn 32 = .ok (.invokevirtual 179, 3) := by decide +kernel
theorem dX11_offIn_35 : decode cX11_offIn 35 = .ok (.ifCond .eq 15, 3) := by decide +kernel
theorem dX11_offIn_38 : decode cX11_offIn 38 = .ok (.aload_n 0, 1) := by decide +kernel
theorem dX11_offIn_39 : decode cX11_offIn 39 = .ok (.getfield 44, 3) := by decide +kernel
theorem dX11_offIn_42 : decode cX11_offIn 42 = .ok (.iload_n 1, 1) := by decide +kernel
theorem dX11_offIn_43 : decode cX11_offIn 43 = .ok (.iload_n 2, 1) := by decide +kernel
theorem dX11_offIn_44 : decode cX11_offIn 44 = .ok (.invokevirtual 202, 3) := by decide +kernel
theorem dX11_offIn_47 : decode cX11_offIn 47 = .ok (.goto 5, 3) := by decide +kernel
theorem dX11_offIn_50 : decode cX11_offIn 50 = .ok (.bipush (-2), 2) := by decide +kernel
theorem dX11_offIn_52 : decode cX11_offIn 52 = .ok (.ireturn, 1) := by decide +kernel
theorem dX11_lost_0 : decode cX11_lost 0 = .ok (.iload_n 1, 1) := by decide +kernel
theorem dX11_lost_1 : decode cX11_lost 1 = .ok (.iconst 0, 1) := by decide +kernel
theorem dX11_lost_2 : decode cX11_lost 2 = .ok (.sipush 500, 3) := by decide +kernel
theorem dX11_lost_5 : decode cX11_lost 5 = .ok (.invokestatic 103, 3) := by decide +kernel
theorem dX11_lost_8 : decode cX11_lost 8 = .ok (.ifCond .eq 14, 3) := by decide +kernel
theorem dX11_lost_11 : decode cX11_lost 11 = .ok (.aload_n 0, 1) := by decide +kernel
theorem dX11_lost_12 : decode cX11_lost 12 = .ok (.getfield 44, 3) := by decide +kernel
theorem dX11_lost_15 : decode cX11_lost 15 = .ok (.iload_n 1, 1) := by decide +kernel
theorem dX11_lost_16 : decode cX11_lost 16 = .ok (.invokevirtual 205, 3) := by decide +kernel
theorem dX11_lost_19 : decode cX11_lost 19 = .ok (.goto 4, 3) := by decide +kernel
theorem dX11_lost_22 : decode cX11_lost 22 = .ok (.iconst (-1), 1) := by decide +kernel
theorem dX11_lost_23 : decode cX11_lost 23 = .ok (.ireturn, 1) := by decide +kernel
theorem dX11_plan_0 : decode cX11_plan 0 = .ok (.iload_n 1, 1) := by decide +kernel
theorem dX11_plan_1 : decode cX11_plan 1 = .ok (.iconst 1, 1) := by decide +kernel
theorem dX11_plan_2 : decode cX11_plan 2 = .ok (.iconst 4, 1) := by decide +kernel
theorem dX11_plan_3 : decode cX11_plan 3 = .ok (.invokestatic 103, 3) := by decide +kernel
theorem dX11_plan_6 : decode cX11_plan 6 = .ok (.ifCond .eq 14, 3) := by decide +kernel
theorem dX11_plan_9 : decode cX11_plan 9 = .ok (.iload_n 2, 1) := by decide +kernel
theorem dX11_plan_10 : decode cX11_plan 10 = .ok (.iconst (-1), 1) := by decide +kernel
theorem dX11_plan_11 : decode cX11_plan 11 = .ok (.iload_n 1, 1) := by decide +kernel
theorem dX11_plan_12 : decode cX11_plan 12 = .ok (.iconst 1, 1) := by decide +kernel
theorem dX11_plan_13 : decode cX11_plan 13 = .ok (.isub, 1) := by decide +kernel
theorem dX11_plan_14 : decode cX11_plan 14 = .ok (.invokestatic 103, 3) := by decide +kernel
theorem dX11_plan_17 : decode cX11_plan 17 = .ok (.ifCond .ne 5, 3) := by decide +kernel
theorem dX11_plan_20 : decode cX11_plan 20 = .ok (.iconst (-1), 1) := by decide +kernel
theorem dX11_plan_21 : decode cX11_plan 21 = .ok (.ireturn, 1) := by decide +kernel
theorem dX11_plan_22 : decode cX11_plan 22 = .ok (.aload_n 0, 1) := by decide +kernel
theorem dX11_plan_23 : decode cX11_plan 23 = .ok (.getfield 62, 3) := by decide +kernel
theorem dX11_plan_26 : decode cX11_plan 26 = .ok (.iload_n 1, 1) := by decide +kernel
theorem dX11_plan_27 : decode cX11_plan 27 = .ok (.invokevirtual 208, 3) := by decide +kernel
theorem dX11_plan_30 : decode cX11_plan 30 = .ok (.iload_n 2, 1) := by decide +kernel
theorem dX11_plan_31 : decode cX11_plan 31 = .ok (.ifCond .ge 13, 3) := by decide +kernel
theorem dX11_plan_34 : decode cX11_plan 34 = .ok (.aload_n 0, 1) := by decide +kernel
theorem dX11_plan_35 : decode cX11_plan 35 = .ok (.getfield 62, 3) := by decide +kernel
theorem dX11_plan_38 : decode cX11_plan 38 = .ok (.getfield 211, 3) := by decide +kernel
theorem dX11_plan_41 : decode cX11_plan 41 = .ok (.goto 11, 3) := by decide +kernel
theorem dX11_plan_44 : decode cX11_plan 44 = .ok (.aload_n 0, 1) := by decide +kernel
theorem dX11_plan_45 : decode cX11_plan 45 = .ok (.getfield 62, 3) := by decide +kernel
theorem dX11_plan_48 : decode cX11_plan 48 = .ok (.iload_n 2, 1) := by decide +kernel
theorem dX11_plan_49 : decode cX11_plan 49 = .ok (.invokevirtual 214, 3) := by decide +kernel
theorem dX11_plan_52 : decode cX11_plan 52 = .ok (.ireturn, 1) := by decide +kernel
theorem dX11_freeze_0 : decode cX11_freeze 0 = .ok (.iload_n 1, 1) := by decide +kernel
theorem dX11_freeze_1 : decode cX11_freeze 1 = .ok (.iconst 0, 1) := by decide +kernel
theorem dX11_freeze_2 : decode cX11_freeze 2 = .ok (.sipush 500, 3) := by decide +kernel
theorem dX11_freeze_5 : decode cX11_freeze 5 = .ok (.invokestatic 103, 3) := by decide +kernel
theorem dX11_freeze_8 : decode cX11_freeze 8 = .ok (.ifCond .eq 12, 3) := by decide +kernel
theorem dX11_freeze_11 : decode cX11_freeze 11 = .ok (.iload_n 2, 1) := by decide +kernel
theorem dX11_freeze_12 : decode cX11_freeze 12 = .ok (.iconst 0, 1) := by decide +kernel
theorem dX11_freeze_13 : decode cX11_freeze 13 = .ok (.iconst 1, 1) := by decide +kernel
theorem dX11_freeze_14 : decode cX11_freeze 14 = .ok (.invokestatic 103, 3) := by decide +kernel
theorem dX11_freeze_17 : decode cX11_freeze 17 = .ok (.ifCond .ne 5, 3) := by decide +kernel
theorem dX11_freeze_20 : decode cX11_freeze 20 = .ok (.iconst (-1), 1) := by decide +kernel
theorem dX11_freeze_21 : decode cX11_freeze 21 = .ok (.ireturn, 1) := by decide +kernel
theorem dX11_freeze_22 : decode cX11_freeze 22 = .ok (.aload_n 0, 1) := by decide +kernel
theorem dX11_freeze_23 : decode cX11_freeze 23 = .ok (.getfield 44, 3) := by decide +kernel
theorem dX11_freeze_26 : decode cX11_freeze 26 = .ok (.iload_n 1, 1) := by decide +kernel
theorem dX11_freeze_27 : decode cX11_freeze 27 = .ok (.invokevirtual 217, 3) := by decide +kernel
theorem dX11_freeze_30 : decode cX11_freeze 30 = .ok (.istore_n 3, 1) := by decide +kernel
theorem dX11_freeze_31 : decode cX11_freeze 31 = .ok (.iload_n 3, 1) := by decide +kernel
theorem dX11_freeze_32 : decode cX11_freeze 32 = .ok (.ifCond .ge 6, 3) := by decide +kernel
theorem dX11_freeze_35 : decode cX11_freeze 35 = .ok (.bipush (-4), 2) := by decide +kernel
theorem dX11_freeze_37 : decode cX11_freeze 37 = .ok (.ireturn, 1) := by decide +kernel
theorem dX11_freeze_38 : decode cX11_freeze 38 = .ok (.iload_n 2, 1) := by decide +kernel
theorem dX11_freeze_39 : decode cX11_freeze 39 = .ok (.ifCond .ne 7, 3) := by decide +kernel
theorem dX11_freeze_42 : decode cX11_freeze 42 = .ok (.iload_n 3, 1) := by decide +kernel
theorem dX11_freeze_43 : decode cX11_freeze 43 = .ok (.goto 12, 3) := by decide +kernel
theorem dX11_freeze_46 : decode cX11_freeze 46 = .ok (.aload_n 0, 1) := by decide +kernel
theorem dX11_freeze_47 : decode cX11_freeze 47 = .ok (.getfield 44, 3) := by decide +kernel
theorem dX11_freeze_50 : decode cX11_freeze 50 = .ok (.iload_n 3, 1) := by decide +kernel
theorem dX11_freeze_51 : decode cX11_freeze 51 = .ok (.iload_n 1, 1) := by decide +kernel
theorem dX11_freeze_52 : decode cX11_freeze 52 = .ok (.invokevirtual 220, 3) := by decide +kernel
theorem dX11_freeze_55 : decode cX11_freeze 55 = .ok (.ireturn, 1) := by decide +kernel
theorem dX11_lie_0 : decode cX11_lie 0 = .ok (.iload_n 1, 1) := by decide +kernel
theorem dX11_lie_1 : decode cX11_lie 1 = .ok (.iconst 1, 1) := by decide +kernel
theorem dX11_lie_2 : decode cX11_lie 2 = .ok (.iconst 4, 1) := by decide +kernel
theorem dX11_lie_3 : decode cX11_lie 3 = .ok (.invokestatic 103, 3) := by decide +kernel
theorem dX11_lie_6 : decode cX11_lie 6 = .ok (.ifCond .eq 25, 3) := by decide +kernel
theorem dX11_lie_9 : decode cX11_lie 9 = .ok (.iload_n 2, 1) := by decide +kernel
theorem dX11_lie_10 : decode cX11_lie 10 = .ok (.iconst 0, 1) := by decide +kernel
theorem dX11_lie_11 : decode cX11_lie 11 = .ok (.sipush 500, 3) := by decide +kernel
theorem dX11_lie_14 : decode cX11_lie 14 = .ok (.invokestatic 103, 3) := by decide +kernel
theorem dX11_lie_17 : decode cX11_lie 17 = .ok (.ifCond .eq 14, 3) := by decide +kernel
theorem dX11_lie_20 : decode cX11_lie 20 = .ok (.iload_n 3, 1) := by decide +kernel
theorem dX11_lie_21 : decode cX11_lie 21 = .ok (.iconst (-1), 1) := by decide +kernel
theorem dX11_lie_22 : decode cX11_lie 22 = .ok (.iload_n 1, 1) := by decide +kernel
theorem dX11_lie_23 : decode cX11_lie 23 = .ok (.iconst 1, 1) := by decide +kernel
theorem dX11_lie_24 : decode cX11_lie 24 = .ok (.isub, 1) := by decide +kernel
theorem dX11_lie_25 : decode cX11_lie 25 = .ok (.invokestatic 103, 3) := by decide +kernel
theorem dX11_lie_28 : decode cX11_lie 28 = .ok (.ifCond .ne 5, 3) := by decide +kernel
theorem dX11_lie_31 : decode cX11_lie 31 = .ok (.iconst (-1), 1) := by decide +kernel
theorem dX11_lie_32 : decode cX11_lie 32 = .ok (.ireturn, 1) := by decide +kernel
theorem dX11_lie_33 : decode cX11_lie 33 = .ok (.aload_n 0, 1) := by decide +kernel
theorem dX11_lie_34 : decode cX11_lie 34 = .ok (.getfield 29, 3) := by decide +kernel
theorem dX11_lie_37 : decode cX11_lie 37 = .ok (.invokevirtual 223, 3) := by decide +kernel
theorem dX11_lie_40 : decode cX11_lie 40 = .ok (.iload_n 1, 1) := by decide +kernel
theorem dX11_lie_41 : decode cX11_lie 41 = .ok (.if_icmp .ge 6, 3) := by decide +kernel
theorem dX11_lie_44 : decode cX11_lie 44 = .ok (.bipush (-4), 2) := by decide +kernel
theorem dX11_lie_46 : decode cX11_lie 46 = .ok (.ireturn, 1) := by decide +kernel
theorem dX11_lie_47 : decode cX11_lie 47 = .ok (.aload_n 0, 1) := by decide +kernel
theorem dX11_lie_48 : decode cX11_lie 48 = .ok (.getfield 69, 3) := by decide +kernel
theorem dX11_lie_51 : decode cX11_lie 51 = .ok (.iload_n 1, 1) := by decide +kernel
theorem dX11_lie_52 : decode cX11_lie 52 = .ok (.iload_n 2, 1) := by decide +kernel
theorem dX11_lie_53 : decode cX11_lie 53 = .ok (.invokevirtual 226, 3) := by decide +kernel
theorem dX11_lie_56 : decode cX11_lie 56 = .ok (.iload_n 3, 1) := by decide +kernel
theorem dX11_lie_57 : decode cX11_lie 57 = .ok (.ifCond .ge 13, 3) := by decide +kernel
theorem dX11_lie_60 : decode cX11_lie 60 = .ok (.aload_n 0, 1) := by decide +kernel
theorem dX11_lie_61 : decode cX11_lie 61 = .ok (.getfield 69, 3) := by decide +kernel
theorem dX11_lie_64 : decode cX11_lie 64 = .ok (.getfield 229, 3) := by decide +kernel
theorem dX11_lie_67 : decode cX11_lie 67 = .ok (.goto 11, 3) := by decide +kernel
theorem dX11_lie_70 : decode cX11_lie 70 = .ok (.aload_n 0, 1) := by decide +kernel
theorem dX11_lie_71 : decode cX11_lie 71 = .ok (.getfield 69, 3) := by decide +kernel
theorem dX11_lie_74 : decode cX11_lie 74 = .ok (.iload_n 3, 1) := by decide +kernel
theorem dX11_lie_75 : decode cX11_lie 75 = .ok (.invokevirtual 232, 3) := by decide +kernel
theorem dX11_lie_78 : decode cX11_lie 78 = .ok (.ireturn, 1) := by decide +kernel
theorem dX11_expect_0 : decode cX11_expect 0 = .ok (.iload_n 1, 1) := by decide +kernel
theorem dX11_expect_1 : decode cX11_expect 1 = .ok (.iconst 0, 1) := by decide +kernel
theorem dX11_expect_2 : decode cX11_expect 2 = .ok (.bipush 9, 2) := by decide +kernel
theorem dX11_expect_4 : decode cX11_expect 4 = .ok (.invokestatic 103, 3) := by decide +kernel
theorem dX11_expect_7 : decode cX11_expect 7 = .ok (.ifCond .ne 5, 3) := by decide +kernel
theorem dX11_expect_10 : decode cX11_expect 10 = .ok (.iconst (-1), 1) := by decide +kernel
theorem dX11_expect_11 : decode cX11_expect 11 = .ok (.ireturn, 1) := by decide +kernel
theorem dX11_expect_12 : decode cX11_expect 12 = .ok (.aload_n 0, 1) := by decide +kernel
theorem dX11_expect_13 : decode cX11_expect 13 = .ok (.getfield 23, 3) := by decide +kernel
theorem dX11_expect_16 : decode cX11_expect 16 = .ok (.getfield 235, 3) := by decide +kernel
theorem dX11_expect_19 : decode cX11_expect 19 = .ok (.getfield 239, 3) := by decide +kernel
theorem dX11_expect_22 : decode cX11_expect 22 = .ok (.ifCond .le 17, 3) := by decide +kernel
theorem dX11_expect_25 : decode cX11_expect 25 = .ok (.aload_n 0, 1) := by decide +kernel
theorem dX11_expect_26 : decode cX11_expect 26 = .ok (.getfield 23, 3) := by decide +kernel
theorem dX11_expect_29 : decode cX11_expect 29 = .ok (.getfield 235, 3) := by decide +kernel
theorem dX11_expect_32 : decode cX11_expect 32 = .ok (.iload_n 1, 1) := by decide +kernel
theorem dX11_expect_33 : decode cX11_expect 33 = .ok (.invokevirtual 242, 3) := by decide +kernel
theorem dX11_expect_36 : decode cX11_expect 36 = .ok (.goto 5, 3) := by decide +kernel
theorem dX11_expect_39 : decode cX11_expect 39 = .ok (.bipush (-4), 2) := by decide +kernel
theorem dX11_expect_41 : decode cX11_expect 41 = .ok (.ireturn, 1) := by decide +kernel
theorem dX11_buy_0 : decode cX11_buy 0 = .ok (.aload_n 0, 1) := by decide +kernel
theorem dX11_buy_1 : decode cX11_buy 1 = .ok (.getfield 23, 3) := by decide +kernel
theorem dX11_buy_4 : decode cX11_buy 4 = .ok (.getfield 235, 3) := by decide +kernel
theorem dX11_buy_7 : decode cX11_buy 7 = .ok (.getfield 239, 3) := by decide +kernel
theorem dX11_buy_10 : decode cX11_buy 10 = .ok (.ifCond .le 16, 3) := by decide +kernel
theorem dX11_buy_13 : decode cX11_buy 13 = .ok (.aload_n 0, 1) := by decide +kernel
theorem dX11_buy_14 : decode cX11_buy 14 = .ok (.getfield 23, 3) := by decide +kernel
theorem dX11_buy_17 : decode cX11_buy 17 = .ok (.getfield 235, 3) := by decide +kernel
theorem dX11_buy_20 : decode cX11_buy 20 = .ok (.invokevirtual 245, 3) := by decide +kernel
theorem dX11_buy_23 : decode cX11_buy 23 = .ok (.goto 5, 3) := by decide +kernel
theorem dX11_buy_26 : decode cX11_buy 26 = .ok (.bipush (-4), 2) := by decide +kernel
theorem dX11_buy_28 : decode cX11_buy 28 = .ok (.ireturn, 1) := by decide +kernel
theorem dX11_print_0 : decode cX11_print 0 = .ok (.iload_n 1, 1) := by decide +kernel
theorem dX11_print_1 : decode cX11_print 1 = .ok (.iconst 0, 1) := by decide +kernel
theorem dX11_print_2 : decode cX11_print 2 = .ok (.iconst 1, 1) := by decide +kernel
theorem dX11_print_3 : decode cX11_print 3 = .ok (.invokestatic 103, 3) := by decide +kernel
theorem dX11_print_6 : decode cX11_print 6 = .ok (.ifCond .eq 23, 3) := by decide +kernel
theorem dX11_print_9 : decode cX11_print 9 = .ok (.aload_n 0, 1) := by decide +kernel
theorem dX11_print_10 : decode cX11_print 10 = .ok (.getfield 44, 3) := by decide +kernel
theorem dX11_print_13 : decode cX11_print 13 = .ok (.iload_n 1, 1) := by decide +kernel
theorem dX11_print_14 : decode cX11_print 14 = .ok (.iconst 1, 1) := by decide +kernel
theorem dX11_print_15 : decode cX11_print 15 = .ok (.if_icmp .ne 7, 3) := by decide +kernel
theorem dX11_print_18 : decode cX11_print 18 = .ok (.iconst 1, 1) := by decide +kernel
theorem dX11_print_19 : decode cX11_print 19 = .ok (.goto 4, 3) := by decide +kernel
theorem dX11_print_22 : decode cX11_print 22 = .ok (.iconst 0, 1) := by decide +kernel
theorem dX11_print_23 : decode cX11_print 23 = .ok (.invokevirtual 248, 3) := by decide +kernel
theorem dX11_print_26 : decode cX11_print 26 = .ok (.goto 4, 3) := by decide +kernel
theorem dX11_print_29 : decode cX11_print 29 = .ok (.iconst (-1), 1) := by decide +kernel
theorem dX11_print_30 : decode cX11_print 30 = .ok (.ireturn, 1) := by decide +kernel
theorem dX11_smell_0 : decode cX11_smell 0 = .ok (.iload_n 1, 1) := by decide +kernel
theorem dX11_smell_1 : decode cX11_smell 1 = .ok (.iconst 0, 1) := by decide +kernel
theorem dX11_smell_2 : decode cX11_smell 2 = .ok (.bipush 20, 2) := by decide +kernel
theorem dX11_smell_4 : decode cX11_smell 4 = .ok (.invokestatic 103, 3) := by decide +kernel
theorem dX11_smell_7 : decode cX11_smell 7 = .ok (.ifCond .eq 14, 3) := by decide +kernel
theorem dX11_smell_10 : decode cX11_smell 10 = .ok (.aload_n 0, 1) := by decide +kernel
theorem dX11_smell_11 : decode cX11_smell 11 = .ok (.getfield 44, 3) := by decide +kernel
theorem dX11_smell_14 : decode cX11_smell 14 = .ok (.iload_n 1, 1) := by decide +kernel
theorem dX11_smell_15 : decode cX11_smell 15 = .ok (.invokevirtual 252, 3) := by decide +kernel
theorem dX11_smell_18 : decode cX11_smell 18 = .ok (.goto 4, 3) := by decide +kernel
theorem dX11_smell_21 : decode cX11_smell 21 = .ok (.iconst (-1), 1) := by decide +kernel
theorem dX11_smell_22 : decode cX11_smell 22 = .ok (.ireturn, 1) := by decide +kernel
theorem dX11_line_0 : decode cX11_line 0 = .ok (.aload_n 0, 1) := by decide +kernel
theorem dX11_line_1 : decode cX11_line 1 = .ok (.getfield 29, 3) := by decide +kernel
theorem dX11_line_4 : decode cX11_line 4 = .ok (.invokevirtual 223, 3) := by decide +kernel
theorem dX11_line_7 : decode cX11_line 7 = .ok (.ifCond .le 13, 3) := by decide +kernel
theorem dX11_line_10 : decode cX11_line 10 = .ok (.aload_n 0, 1) := by decide +kernel
theorem dX11_line_11 : decode cX11_line 11 = .ok (.getfield 44, 3) := by decide +kernel
theorem dX11_line_14 : decode cX11_line 14 = .ok (.invokevirtual 255, 3) := by decide +kernel
theorem dX11_line_17 : decode cX11_line 17 = .ok (.goto 5, 3) := by decide +kernel
theorem dX11_line_20 : decode cX11_line 20 = .ok (.bipush (-4), 2) := by decide +kernel
theorem dX11_line_22 : decode cX11_line 22 = .ok (.ireturn, 1) := by decide +kernel
theorem dX11_cut_0 : decode cX11_cut 0 = .ok (.iload_n 1, 1) := by decide +kernel
theorem dX11_cut_1 : decode cX11_cut 1 = .ok (.iconst 1, 1) := by decide +kernel
theorem dX11_cut_2 : decode cX11_cut 2 = .ok (.bipush 48, 2) := by decide +kernel
theorem dX11_cut_4 : decode cX11_cut 4 = .ok (.invokestatic 103, 3) := by decide +kernel
theorem dX11_cut_7 : decode cX11_cut 7 = .ok (.ifCond .eq 15, 3) := by decide +kernel
theorem dX11_cut_10 : decode cX11_cut 10 = .ok (.aload_n 0, 1) := by decide +kernel
theorem dX11_cut_11 : decode cX11_cut 11 = .ok (.getfield 44, 3) := by decide +kernel
theorem dX11_cut_14 : decode cX11_cut 14 = .ok (.iload_n 1, 1) := by decide +kernel
theorem dX11_cut_15 : decode cX11_cut 15 = .ok (.iload_n 2, 1) := by decide +kernel
theorem dX11_cut_16 : decode cX11_cut 16 = .ok (.invokevirtual 258, 3) := by decide +kernel
theorem dX11_cut_19 : decode cX11_cut 19 = .ok (.goto 4, 3) := by decide +kernel
theorem dX11_cut_22 : decode cX11_cut 22 = .ok (.iconst (-1), 1) := by decide +kernel
theorem dX11_cut_23 : decode cX11_cut 23 = .ok (.ireturn, 1) := by decide +kernel
theorem dX11_ill_0 : decode cX11_ill 0 = .ok (.aload_n 0, 1) := by decide +kernel
theorem dX11_ill_1 : decode cX11_ill 1 = .ok (.getfield 44, 3) := by decide +kernel
theorem dX11_ill_4 : decode cX11_ill 4 = .ok (.iload_n 1, 1) := by decide +kernel
theorem dX11_ill_5 : decode cX11_ill 5 = .ok (.invokevirtual 129, 3) := by decide +kernel
theorem dX11_ill_8 : decode cX11_ill 8 = .ok (.ifCond .eq 12, 3) := by decide +kernel
theorem dX11_ill_11 : decode cX11_ill 11 = .ok (.iload_n 2, 1) := by decide +kernel
theorem dX11_ill_12 : decode cX11_ill 12 = .ok (.iconst 0, 1) := by decide +kernel
theorem dX11_ill_13 : decode cX11_ill 13 = .ok (.iconst 1, 1) := by decide +kernel
theorem dX11_ill_14 : decode cX11_ill 14 = .ok (.invokestatic 103, 3) := by decide +kernel
theorem dX11_ill_17 : decode cX11_ill 17 = .ok (.ifCond .ne 5, 3) := by decide +kernel
theorem dX11_ill_20 : decode cX11_ill 20 = .ok (.iconst (-1), 1) := by decide +kernel
theorem dX11_ill_21 : decode cX11_ill 21 = .ok (.ireturn, 1) := by decide +kernel
theorem dX11_ill_22 : decode cX11_ill 22 = .ok (.iconst 0, 1) := by decide +kernel
theorem dX11_ill_23 : decode cX11_ill 23 = .ok (.istore_n 3, 1) := by decide +kernel
theorem dX11_ill_24 : decode cX11_ill 24 = .ok (.iconst 0, 1) := by decide +kernel
theorem dX11_ill_25 : decode cX11_ill 25 = .ok (.istore 4, 2) := by decide +kernel
theorem dX11_ill_27 : decode cX11_ill 27 = .ok (.iload 4, 2) := by decide +kernel
theorem dX11_ill_29 : decode cX11_ill 29 = .ok (.aload_n 0, 1) := by decide +kernel
theorem dX11_ill_30 : decode cX11_ill 30 = .ok (.getfield 23, 3) := by decide +kernel
theorem dX11_ill_33 : decode cX11_ill 33 = .ok (.getfield 90, 3) := by decide +kernel
theorem dX11_ill_36 : decode cX11_ill 36 = .ok (.getfield 128, 3) := by decide +kernel
theorem dX11_ill_39 : decode cX11_ill 39 = .ok (.if_icmp .ge 21, 3) := by decide +kernel
theorem dX11_ill_42 : decode cX11_ill 42 = .ok (.iload_n 3, 1) := by decide +kernel
theorem dX11_ill_43 : decode cX11_ill 43 = .ok (.aload_n 0, 1) := by decide +kernel
theorem dX11_ill_44 : decode cX11_ill 44 = .ok (.getfield 44, 3) := by decide +kernel
theorem dX11_ill_47 : decode cX11_ill 47 = .ok (.iload 4, 2) := by decide +kernel
theorem dX11_ill_49 : decode cX11_ill 49 = .ok (.invokevirtual 262, 3) := by decide +kernel
theorem dX11_ill_52 : decode cX11_ill 52 = .ok (.iadd, 1) := by decide +kernel
theorem dX11_ill_53 : decode cX11_ill 53 = .ok (.istore_n 3, 1) := by decide +kernel
theorem dX11_ill_54 : decode cX11_ill 54 = .ok (.iinc 4 1, 3) := by decide +kernel
theorem dX11_ill_57 : decode cX11_ill 57 = .ok (.goto (-30), 3) := by decide +kernel
theorem dX11_ill_60 : decode cX11_ill 60 = .ok (.aload_n 0, 1) := by decide +kernel
theorem dX11_ill_61 : decode cX11_ill 61 = .ok (.getfield 44, 3) := by decide +kernel
theorem dX11_ill_64 : decode cX11_ill 64 = .ok (.iload_n 1, 1) := by decide +kernel
theorem dX11_ill_65 : decode cX11_ill 65 = .ok (.invokevirtual 262, 3) := by decide +kernel
theorem dX11_ill_68 : decode cX11_ill 68 = .ok (.istore 4, 2) := by decide +kernel
theorem dX11_ill_70 : decode cX11_ill 70 = .ok (.iload_n 3, 1) := by decide +kernel
theorem dX11_ill_71 : decode cX11_ill 71 = .ok (.iload 4, 2) := by decide +kernel
theorem dX11_ill_73 : decode cX11_ill 73 = .ok (.invokestatic 265, 3) := by decide +kernel
theorem dX11_ill_76 : decode cX11_ill 76 = .ok (.istore 5, 2) := by decide +kernel
theorem dX11_ill_78 : decode cX11_ill 78 = .ok (.iload_n 3, 1) := by decide +kernel
theorem dX11_ill_79 : decode cX11_ill 79 = .ok (.ifCond .le 8, 3) := by decide +kernel
theorem dX11_ill_82 : decode cX11_ill 82 = .ok (.iload 5, 2) := by decide +kernel
theorem dX11_ill_84 : decode cX11_ill 84 = .ok (.ifCond .gt 6, 3) := by decide +kernel
theorem dX11_ill_87 : decode cX11_ill 87 = .ok (.bipush (-4), 2) := by decide +kernel
theorem dX11_ill_89 : decode cX11_ill 89 = .ok (.ireturn, 1) := by decide +kernel
theorem dX11_ill_90 : decode cX11_ill 90 = .ok (.iload_n 2, 1) := by decide +kernel
theorem dX11_ill_91 : decode cX11_ill 91 = .ok (.ifCond .ne 11, 3) := by decide +kernel
theorem dX11_ill_94 : decode cX11_ill 94 = .ok (.iload 4, 2) := by decide +kernel
theorem dX11_ill_96 : decode cX11_ill 96 = .ok (.iload 5, 2) := by decide +kernel
theorem dX11_ill_98 : decode cX11_ill 98 = .ok (.idiv, 1) := by decide +kernel
theorem dX11_ill_99 : decode cX11_ill 99 = .ok (.goto 7, 3) := by decide +kernel
theorem dX11_ill_102 : decode cX11_ill 102 = .ok (.iload_n 3, 1) := by decide +kernel
theorem dX11_ill_103 : decode cX11_ill 103 = .ok (.iload 5, 2) := by decide +kernel
theorem dX11_ill_105 : decode cX11_ill 105 = .ok (.idiv, 1) := by decide +kernel
theorem dX11_ill_106 : decode cX11_ill 106 = .ok (.ireturn, 1) := by decide +kernel
theorem dX11_span_0 : decode cX11_span 0 = .ok (.iload_n 1, 1) := by decide +kernel
theorem dX11_span_1 : decode cX11_span 1 = .ok (.iconst 0, 1) := by decide +kernel
theorem dX11_span_2 : decode cX11_span 2 = .ok (.sipush 300, 3) := by decide +kernel
theorem dX11_span_5 : decode cX11_span 5 = .ok (.invokestatic 103, 3) := by decide +kernel
theorem dX11_span_8 : decode cX11_span 8 = .ok (.ifCond .eq 14, 3) := by decide +kernel
theorem dX11_span_11 : decode cX11_span 11 = .ok (.iload_n 2, 1) := by decide +kernel
theorem dX11_span_12 : decode cX11_span 12 = .ok (.iconst 1, 1) := by decide +kernel
theorem dX11_span_13 : decode cX11_span 13 = .ok (.sipush 300, 3) := by decide +kernel
theorem dX11_span_16 : decode cX11_span 16 = .ok (.invokestatic 103, 3) := by decide +kernel
theorem dX11_span_19 : decode cX11_span 19 = .ok (.ifCond .ne 5, 3) := by decide +kernel
theorem dX11_span_22 : decode cX11_span 22 = .ok (.iconst (-1), 1) := by decide +kernel
theorem dX11_span_23 : decode cX11_span 23 = .ok (.ireturn, 1) := by decide +kernel
theorem dX11_span_24 : decode cX11_span 24 = .ok (.aload_n 0, 1) := by decide +kernel
theorem dX11_span_25 : decode cX11_span 25 = .ok (.getfield 76, 3) := by decide +kernel
theorem dX11_span_28 : decode cX11_span 28 = .ok (.iload_n 1, 1) := by decide +kernel
theorem dX11_span_29 : decode cX11_span 29 = .ok (.iload_n 2, 1) := by decide +kernel
theorem dX11_span_30 : decode cX11_span 30 = .ok (.invokevirtual 268, 3) := by decide +kernel
theorem dX11_span_33 : decode cX11_span 33 = .ok (.ifCond .eq 13, 3) := by decide +kernel
theorem dX11_span_36 : decode cX11_span 36 = .ok (.aload_n 0, 1) := by decide +kernel
theorem dX11_span_37 : decode cX11_span 37 = .ok (.getfield 76, 3) := by decide +kernel
theorem dX11_span_40 : decode cX11_span 40 = .ok (.getfield 122, 3) := by decide +kernel
theorem dX11_span_43 : decode cX11_span 43 = .ok (.goto 5, 3) := by decide +kernel
theorem dX11_span_46 : decode cX11_span 46 = .ok (.bipush (-3), 2) := by decide +kernel
theorem dX11_span_48 : decode cX11_span 48 = .ok (.ireturn, 1) := by decide +kernel
theorem dX11_noSpans_0 : decode cX11_noSpans 0 = .ok (.aload_n 0, 1) := by decide +kernel
theorem dX11_noSpans_1 : decode cX11_noSpans 1 = .ok (.getfield 76, 3) := by decide +kernel
theorem dX11_noSpans_4 : decode cX11_noSpans 4 = .ok (.getfield 122, 3) := by decide +kernel
theorem dX11_noSpans_7 : decode cX11_noSpans 7 = .ok (.istore_n 1, 1) := by decide +kernel
theorem dX11_noSpans_8 : decode cX11_noSpans 8 = .ok (.aload_n 0, 1) := by decide +kernel
theorem dX11_noSpans_9 : decode cX11_noSpans 9 = .ok (.getfield 76, 3) := by decide +kernel
theorem dX11_noSpans_12 : decode cX11_noSpans 12 = .ok (.iconst 0, 1) := by decide +kernel
theorem dX11_noSpans_13 : decode cX11_noSpans 13 = .ok (.putfield 122, 3) := by decide +kernel
theorem dX11_noSpans_16 : decode cX11_noSpans 16 = .ok (.iload_n 1, 1) := by decide +kernel
theorem dX11_noSpans_17 : decode cX11_noSpans 17 = .ok (.ireturn, 1) := by decide +kernel
theorem dX11_law_0 : decode cX11_law 0 = .ok (.iload_n 1, 1) := by decide +kernel
theorem dX11_law_1 : decode cX11_law 1 = .ok (.iconst 0, 1) := by decide +kernel
theorem dX11_law_2 : decode cX11_law 2 = .ok (.iconst 1, 1) := by decide +kernel
theorem dX11_law_3 : decode cX11_law 3 = .ok (.invokestatic 103, 3) := by decide +kernel
theorem dX11_law_6 : decode cX11_law 6 = .ok (.ifCond .ne 5, 3) := by decide +kernel
theorem dX11_law_9 : decode cX11_law 9 = .ok (.iconst (-1), 1) := by decide +kernel
theorem dX11_law_10 : decode cX11_law 10 = .ok (.ireturn, 1) := by decide +kernel
theorem dX11_law_11 : decode cX11_law 11 = .ok (.aload_n 0, 1) := by decide +kernel
theorem dX11_law_12 : decode cX11_law 12 = .ok (.getfield 76, 3) := by decide +kernel
theorem dX11_law_15 : decode cX11_law 15 = .ok (.invokevirtual 270, 3) := by decide +kernel
theorem dX11_law_18 : decode cX11_law 18 = .ok (.istore_n 2, 1) := by decide +kernel
theorem dX11_law_19 : decode cX11_law 19 = .ok (.iload_n 1, 1) := by decide +kernel
theorem dX11_law_20 : decode cX11_law 20 = .ok (.ifCond .ne 14, 3) := by decide +kernel
theorem dX11_law_23 : decode cX11_law 23 = .ok (.aload_n 0, 1) := by decide +kernel
theorem dX11_law_24 : decode cX11_law 24 = .ok (.getfield 76, 3) := by decide +kernel
theorem dX11_law_27 : decode cX11_law 27 = .ok (.iload_n 2, 1) := by decide +kernel
theorem dX11_law_28 : decode cX11_law 28 = .ok (.invokevirtual 273, 3) := by decide +kernel
theorem dX11_law_31 : decode cX11_law 31 = .ok (.goto 4, 3) := by decide +kernel
theorem dX11_law_34 : decode cX11_law 34 = .ok (.iload_n 2, 1) := by decide +kernel
theorem dX11_law_35 : decode cX11_law 35 = .ok (.ireturn, 1) := by decide +kernel
theorem dX11_habit_0 : decode cX11_habit 0 = .ok (.iload_n 1, 1) := by decide +kernel
theorem dX11_habit_1 : decode cX11_habit 1 = .ok (.iconst 0, 1) := by decide +kernel
theorem dX11_habit_2 : decode cX11_habit 2 = .ok (.sipush 9999, 3) := by decide +kernel
theorem dX11_habit_5 : decode cX11_habit 5 = .ok (.invokestatic 103, 3) := by decide +kernel
theorem dX11_habit_8 : decode cX11_habit 8 = .ok (.ifCond .eq 22, 3) := by decide +kernel
theorem dX11_habit_11 : decode cX11_habit 11 = .ok (.iload_n 2, 1) := by decide +kernel
theorem dX11_habit_12 : decode cX11_habit 12 = .ok (.iconst 1, 1) := by decide +kernel
theorem dX11_habit_13 : decode cX11_habit 13 = .ok (.bipush 20, 2) := by decide +kernel
theorem dX11_habit_15 : decode cX11_habit 15 = .ok (.invokestatic 103, 3) := by decide +kernel
theorem dX11_habit_18 : decode cX11_habit 18 = .ok (.ifCond .eq 12, 3) := by decide +kernel
theorem dX11_habit_21 : decode cX11_habit 21 = .ok (.iload_n 3, 1) := by decide +kernel
theorem dX11_habit_22 : decode cX11_habit 22 = .ok (.iconst 0, 1) := by decide +kernel
theorem dX11_habit_23 : decode cX11_habit 23 = .ok (.iconst 1, 1) := by decide +kernel
theorem dX11_habit_24 : decode cX11_habit 24 = .ok (.invokestatic 103, 3) := by decide +kernel
theorem dX11_habit_27 : decode cX11_habit 27 = .ok (.ifCond .ne 5, 3) := by decide +kernel
theorem dX11_habit_30 : decode cX11_habit 30 = .ok (.iconst (-1), 1) := by decide +kernel
theorem dX11_habit_31 : decode cX11_habit 31 = .ok (.ireturn, 1) := by decide +kernel
theorem dX11_habit_32 : decode cX11_habit 32 = .ok (.aload_n 0, 1) := by decide +kernel
theorem dX11_habit_33 : decode cX11_habit 33 = .ok (.getfield 53, 3) := by decide +kernel
theorem dX11_habit_36 : decode cX11_habit 36 = .ok (.iload_n 1, 1) := by decide +kernel
theorem dX11_habit_37 : decode cX11_habit 37 = .ok (.iload_n 2, 1) := by decide +kernel
theorem dX11_habit_38 : decode cX11_habit 38 = .ok (.iload_n 3, 1) := by decide +kernel
theorem dX11_habit_39 : decode cX11_habit 39 = .ok (.invokevirtual 276, 3) := by decide +kernel
theorem dX11_habit_42 : decode cX11_habit 42 = .ok (.ireturn, 1) := by decide +kernel
theorem dX11_keep_0 : decode cX11_keep 0 = .ok (.aload_n 0, 1) := by decide +kernel
theorem dX11_keep_1 : decode cX11_keep 1 = .ok (.getfield 125, 3) := by decide +kernel
theorem dX11_keep_4 : decode cX11_keep 4 = .ok (.iconst 2, 1) := by decide +kernel
theorem dX11_keep_5 : decode cX11_keep 5 = .ok (.if_icmp .lt 6, 3) := by decide +kernel
theorem dX11_keep_8 : decode cX11_keep 8 = .ok (.bipush (-3), 2) := by decide +kernel
theorem dX11_keep_10 : decode cX11_keep 10 = .ok (.ireturn, 1) := by decide +kernel
theorem dX11_keep_11 : decode cX11_keep 11 = .ok (.aload_n 0, 1) := by decide +kernel
theorem dX11_keep_12 : decode cX11_keep 12 = .ok (.getfield 125, 3) := by decide +kernel
theorem dX11_keep_15 : decode cX11_keep 15 = .ok (.ifCond .ne 10, 3) := by decide +kernel
theorem dX11_keep_18 : decode cX11_keep 18 = .ok (.aload_n 0, 1) := by decide +kernel
theorem dX11_keep_19 : decode cX11_keep 19 = .ok (.getfield 33, 3) := by decide +kernel
theorem dX11_keep_22 : decode cX11_keep 22 = .ok (.goto 7, 3) := by decide +kernel
theorem dX11_keep_25 : decode cX11_keep 25 = .ok (.aload_n 0, 1) := by decide +kernel
theorem dX11_keep_26 : decode cX11_keep 26 = .ok (.getfield 36, 3) := by decide +kernel
theorem dX11_keep_29 : decode cX11_keep 29 = .ok (.aload_n 0, 1) := by decide +kernel
theorem dX11_keep_30 : decode cX11_keep 30 = .ok (.getfield 29, 3) := by decide +kernel
theorem dX11_keep_33 : decode cX11_keep 33 = .ok (.invokevirtual 280, 3) := by decide +kernel
theorem dX11_keep_36 : decode cX11_keep 36 = .ok (.aload_n 0, 1) := by decide +kernel
theorem dX11_keep_37 : decode cX11_keep 37 = .ok (.dup, 1) := by decide +kernel
theorem dX11_keep_38 : decode cX11_keep 38 = .ok (.getfield 125, 3) := by decide +kernel
theorem dX11_keep_41 : decode cX11_keep 41 = .ok (.iconst 1, 1) := by decide +kernel
theorem dX11_keep_42 : decode cX11_keep 42 = .ok (.iadd, 1) := by decide +kernel
theorem dX11_keep_43 : decode cX11_keep 43 = .ok (.putfield 125, 3) := by decide +kernel
theorem dX11_keep_46 : decode cX11_keep 46 = .ok (.aload_n 0, 1) := by decide +kernel
theorem dX11_keep_47 : decode cX11_keep 47 = .ok (.getfield 125, 3) := by decide +kernel
theorem dX11_keep_50 : decode cX11_keep 50 = .ok (.ireturn, 1) := by decide +kernel
theorem dX11_back_0 : decode cX11_back 0 = .ok (.aload_n 0, 1) := by decide +kernel
theorem dX11_back_1 : decode cX11_back 1 = .ok (.getfield 125, 3) := by decide +kernel
theorem dX11_back_4 : decode cX11_back 4 = .ok (.ifCond .gt 6, 3) := by decide +kernel
theorem dX11_back_7 : decode cX11_back 7 = .ok (.bipush (-2), 2) := by decide +kernel
theorem dX11_back_9 : decode cX11_back 9 = .ok (.ireturn, 1) := by decide +kernel
theorem dX11_back_10 : decode cX11_back 10 = .ok (.aload_n 0, 1) := by decide +kernel
theorem dX11_back_11 : decode cX11_back 11 = .ok (.dup, 1) := by decide +kernel
theorem dX11_back_12 : decode cX11_back 12 = .ok (.getfield 125, 3) := by decide +kernel
theorem dX11_back_15 : decode cX11_back 15 = .ok (.iconst 1, 1) := by decide +kernel
theorem dX11_back_16 : decode cX11_back 16 = .ok (.isub, 1) := by decide +kernel
theorem dX11_back_17 : decode cX11_back 17 = .ok (.putfield 125, 3) := by decide +kernel
theorem dX11_back_20 : decode cX11_back 20 = .ok (.aload_n 0, 1) := by decide +kernel
theorem dX11_back_21 : decode cX11_back 21 = .ok (.getfield 29, 3) := by decide +kernel
theorem dX11_back_24 : decode cX11_back 24 = .ok (.aload_n 0, 1) := by decide +kernel
theorem dX11_back_25 : decode cX11_back 25 = .ok (.getfield 125, 3) := by decide +kernel
theorem dX11_back_28 : decode cX11_back 28 = .ok (.ifCond .ne 10, 3) := by decide +kernel
theorem dX11_back_31 : decode cX11_back 31 = .ok (.aload_n 0, 1) := by decide +kernel
theorem dX11_back_32 : decode cX11_back 32 = .ok (.getfield 33, 3) := by decide +kernel
theorem dX11_back_35 : decode cX11_back 35 = .ok (.goto 7, 3) := by decide +kernel
theorem dX11_back_38 : decode cX11_back 38 = .ok (.aload_n 0, 1) := by decide +kernel
theorem dX11_back_39 : decode cX11_back 39 = .ok (.getfield 36, 3) := by decide +kernel
theorem dX11_back_42 : decode cX11_back 42 = .ok (.invokevirtual 280, 3) := by decide +kernel
theorem dX11_back_45 : decode cX11_back 45 = .ok (.aload_n 0, 1) := by decide +kernel
theorem dX11_back_46 : decode cX11_back 46 = .ok (.getfield 125, 3) := by decide +kernel
theorem dX11_back_49 : decode cX11_back 49 = .ok (.ireturn, 1) := by decide +kernel
theorem dX11_count_0 : decode cX11_count 0 = .ok (.iload_n 1, 1) := by decide +kernel
theorem dX11_count_1 : decode cX11_count 1 = .ok (.tableswitch 141 0 9 #[55, 66, 77, 85, 93, 104, 112, 120, 128, 136], 55) := by decide +kernel
theorem dX11_count_56 : decode cX11_count 56 = .ok (.aload_n 0, 1) := by decide +kernel
theorem dX11_count_57 : decode cX11_count 57 = .ok (.getfield 23, 3) := by decide +kernel
theorem dX11_count_60 : decode cX11_count 60 = .ok (.getfield 90, 3) := by decide +kernel
theorem dX11_count_63 : decode cX11_count 63 = .ok (.getfield 128, 3) := by decide +kernel
theorem dX11_count_66 : decode cX11_count 66 = .ok (.ireturn, 1) := by decide +kernel
theorem dX11_count_67 : decode cX11_count 67 = .ok (.aload_n 0, 1) := by decide +kernel
theorem dX11_count_68 : decode cX11_count 68 = .ok (.getfield 23, 3) := by decide +kernel
theorem dX11_count_71 : decode cX11_count 71 = .ok (.getfield 80, 3) := by decide +kernel
theorem dX11_count_74 : decode cX11_count 74 = .ok (.getfield 284, 3) := by decide +kernel
theorem dX11_count_77 : decode cX11_count 77 = .ok (.ireturn, 1) := by decide +kernel
theorem dX11_count_78 : decode cX11_count 78 = .ok (.aload_n 0, 1) := by decide +kernel
theorem dX11_count_79 : decode cX11_count 79 = .ok (.getfield 23, 3) := by decide +kernel
theorem dX11_count_82 : decode cX11_count 82 = .ok (.getfield 285, 3) := by decide +kernel
theorem dX11_count_85 : decode cX11_count 85 = .ok (.ireturn, 1) := by decide +kernel
theorem dX11_count_86 : decode cX11_count 86 = .ok (.aload_n 0, 1) := by decide +kernel
theorem dX11_count_87 : decode cX11_count 87 = .ok (.getfield 23, 3) := by decide +kernel
theorem dX11_count_90 : decode cX11_count 90 = .ok (.getfield 288, 3) := by decide +kernel
theorem dX11_count_93 : decode cX11_count 93 = .ok (.ireturn, 1) := by decide +kernel
theorem dX11_count_94 : decode cX11_count 94 = .ok (.aload_n 0, 1) := by decide +kernel
theorem dX11_count_95 : decode cX11_count 95 = .ok (.getfield 23, 3) := by decide +kernel
theorem dX11_count_98 : decode cX11_count 98 = .ok (.getfield 235, 3) := by decide +kernel
theorem dX11_count_101 : decode cX11_count 101 = .ok (.getfield 239, 3) := by decide +kernel
theorem dX11_count_104 : decode cX11_count 104 = .ok (.ireturn, 1) := by decide +kernel
theorem dX11_count_105 : decode cX11_count 105 = .ok (.aload_n 0, 1) := by decide +kernel
theorem dX11_count_106 : decode cX11_count 106 = .ok (.getfield 76, 3) := by decide +kernel
theorem dX11_count_109 : decode cX11_count 109 = .ok (.getfield 122, 3) := by decide +kernel
theorem dX11_count_112 : decode cX11_count 112 = .ok (.ireturn, 1) := by decide +kernel
theorem dX11_count_113 : decode cX11_count 113 = .ok (.aload_n 0, 1) := by decide +kernel
theorem dX11_count_114 : decode cX11_count 114 = .ok (.getfield 29, 3) := by decide +kernel
theorem dX11_count_117 : decode cX11_count 117 = .ok (.getfield 163, 3) := by decide +kernel
theorem dX11_count_120 : decode cX11_count 120 = .ok (.ireturn, 1) := by decide +kernel
theorem dX11_count_121 : decode cX11_count 121 = .ok (.aload_n 0, 1) := by decide +kernel
theorem dX11_count_122 : decode cX11_count 122 = .ok (.getfield 29, 3) := by decide +kernel
theorem dX11_count_125 : decode cX11_count 125 = .ok (.invokevirtual 223, 3) := by decide +kernel
theorem dX11_count_128 : decode cX11_count 128 = .ok (.ireturn, 1) := by decide +kernel
theorem dX11_count_129 : decode cX11_count 129 = .ok (.aload_n 0, 1) := by decide +kernel
theorem dX11_count_130 : decode cX11_count 130 = .ok (.getfield 10, 3) := by decide +kernel
theorem dX11_count_133 : decode cX11_count 133 = .ok (.getfield 110, 3) := by decide +kernel
theorem dX11_count_136 : decode cX11_count 136 = .ok (.ireturn, 1) := by decide +kernel
theorem dX11_count_137 : decode cX11_count 137 = .ok (.aload_n 0, 1) := by decide +kernel
theorem dX11_count_138 : decode cX11_count 138 = .ok (.getfield 125, 3) := by decide +kernel
theorem dX11_count_141 : decode cX11_count 141 = .ok (.ireturn, 1) := by decide +kernel
theorem dX11_count_142 : decode cX11_count 142 = .ok (.iconst (-1), 1) := by decide +kernel
theorem dX11_count_143 : decode cX11_count 143 = .ok (.ireturn, 1) := by decide +kernel
theorem dX11_takeAway_0 : decode cX11_takeAway 0 = .ok (.aload_n 0, 1) := by decide +kernel
theorem dX11_takeAway_1 : decode cX11_takeAway 1 = .ok (.getfield 44, 3) := by decide +kernel
theorem dX11_takeAway_4 : decode cX11_takeAway 4 = .ok (.iload_n 1, 1) := by decide +kernel
theorem dX11_takeAway_5 : decode cX11_takeAway 5 = .ok (.invokevirtual 129, 3) := by decide +kernel
theorem dX11_takeAway_8 : decode cX11_takeAway 8 = .ok (.ifCond .ne 5, 3) := by decide +kernel
theorem dX11_takeAway_11 : decode cX11_takeAway 11 = .ok (.iconst (-1), 1) := by decide +kernel
theorem dX11_takeAway_12 : decode cX11_takeAway 12 = .ok (.ireturn, 1) := by decide +kernel
theorem dX11_takeAway_13 : decode cX11_takeAway 13 = .ok (.aload_n 0, 1) := by decide +kernel
theorem dX11_takeAway_14 : decode cX11_takeAway 14 = .ok (.getfield 29, 3) := by decide +kernel
theorem dX11_takeAway_17 : decode cX11_takeAway 17 = .ok (.iload_n 1, 1) := by decide +kernel
theorem dX11_takeAway_18 : decode cX11_takeAway 18 = .ok (.invokevirtual 179, 3) := by decide +kernel
theorem dX11_takeAway_21 : decode cX11_takeAway 21 = .ok (.ifCond .ne 6, 3) := by decide +kernel
theorem dX11_takeAway_24 : decode cX11_takeAway 24 = .ok (.bipush (-2), 2) := by decide +kernel
theorem dX11_takeAway_26 : decode cX11_takeAway 26 = .ok (.ireturn, 1) := by decide +kernel
theorem dX11_takeAway_27 : decode cX11_takeAway 27 = .ok (.aload_n 0, 1) := by decide +kernel
theorem dX11_takeAway_28 : decode cX11_takeAway 28 = .ok (.getfield 29, 3) := by decide +kernel
theorem dX11_takeAway_31 : decode cX11_takeAway 31 = .ok (.iload_n 1, 1) := by decide +kernel
theorem dX11_takeAway_32 : decode cX11_takeAway 32 = .ok (.iload_n 2, 1) := by decide +kernel
theorem dX11_takeAway_33 : decode cX11_takeAway 33 = .ok (.invokevirtual 291, 3) := by decide +kernel
theorem dX11_takeAway_36 : decode cX11_takeAway 36 = .ok (.aload_n 0, 1) := by decide +kernel
theorem dX11_takeAway_37 : decode cX11_takeAway 37 = .ok (.getfield 44, 3) := by decide +kernel
theorem dX11_takeAway_40 : decode cX11_takeAway 40 = .ok (.iload_n 1, 1) := by decide +kernel
theorem dX11_takeAway_41 : decode cX11_takeAway 41 = .ok (.invokevirtual 149, 3) := by decide +kernel
theorem dX11_takeAway_44 : decode cX11_takeAway 44 = .ok (.ifCond .eq 7, 3) := by decide +kernel
theorem dX11_takeAway_47 : decode cX11_takeAway 47 = .ok (.iconst 1, 1) := by decide +kernel
theorem dX11_takeAway_48 : decode cX11_takeAway 48 = .ok (.goto 4, 3) := by decide +kernel
theorem dX11_takeAway_51 : decode cX11_takeAway 51 = .ok (.iconst 0, 1) := by decide +kernel
theorem dX11_takeAway_52 : decode cX11_takeAway 52 = .ok (.ireturn, 1) := by decide +kernel
theorem dX11_canBecome_0 : decode cX11_canBecome 0 = .ok (.iload_n 1, 1) := by decide +kernel
theorem dX11_canBecome_1 : decode cX11_canBecome 1 = .ok (.tableswitch 78 0 3 #[31, 42, 52, 67], 31) := by decide +kernel
theorem dX11_canBecome_32 : decode cX11_canBecome 32 = .ok (.iload_n 0, 1) := by decide +kernel
theorem dX11_canBecome_33 : decode cX11_canBecome 33 = .ok (.iconst 3, 1) := by decide +kernel
theorem dX11_canBecome_34 : decode cX11_canBecome 34 = .ok (.if_icmp .ne 7, 3) := by decide +kernel
theorem dX11_canBecome_37 : decode cX11_canBecome 37 = .ok (.iconst 1, 1) := by decide +kernel
theorem dX11_canBecome_38 : decode cX11_canBecome 38 = .ok (.goto 4, 3) := by decide +kernel
theorem dX11_canBecome_41 : decode cX11_canBecome 41 = .ok (.iconst 0, 1) := by decide +kernel
theorem dX11_canBecome_42 : decode cX11_canBecome 42 = .ok (.ireturn, 1) := by decide +kernel
theorem dX11_canBecome_43 : decode cX11_canBecome 43 = .ok (.iload_n 0, 1) := by decide +kernel
theorem dX11_canBecome_44 : decode cX11_canBecome 44 = .ok (.ifCond .ne 7, 3) := by decide +kernel
theorem dX11_canBecome_47 : decode cX11_canBecome 47 = .ok (.iconst 1, 1) := by decide +kernel
theorem dX11_canBecome_48 : decode cX11_canBecome 48 = .ok (.goto 4, 3) := by decide +kernel
theorem dX11_canBecome_51 : decode cX11_canBecome 51 = .ok (.iconst 0, 1) := by decide +kernel
theorem dX11_canBecome_52 : decode cX11_canBecome 52 = .ok (.ireturn, 1) := by decide +kernel
theorem dX11_canBecome_53 : decode cX11_canBecome 53 = .ok (.iload_n 0, 1) := by decide +kernel
theorem dX11_canBecome_54 : decode cX11_canBecome 54 = .ok (.ifCond .eq 8, 3) := by decide +kernel
theorem dX11_canBecome_57 : decode cX11_canBecome 57 = .ok (.iload_n 0, 1) := by decide +kernel
theorem dX11_canBecome_58 : decode cX11_canBecome 58 = .ok (.iconst 1, 1) := by decide +kernel
theorem dX11_canBecome_59 : decode cX11_canBecome 59 = .ok (.if_icmp .ne 7, 3) := by decide +kernel
theorem dX11_canBecome_62 : decode cX11_canBecome 62 = .ok (.iconst 1, 1) := by decide +kernel
theorem dX11_canBecome_63 : decode cX11_canBecome 63 = .ok (.goto 4, 3) := by decide +kernel
theorem dX11_canBecome_66 : decode cX11_canBecome 66 = .ok (.iconst 0, 1) := by decide +kernel
theorem dX11_canBecome_67 : decode cX11_canBecome 67 = .ok (.ireturn, 1) := by decide +kernel
theorem dX11_canBecome_68 : decode cX11_canBecome 68 = .ok (.iload_n 0, 1) := by decide +kernel
theorem dX11_canBecome_69 : decode cX11_canBecome 69 = .ok (.iconst 3, 1) := by decide +kernel
theorem dX11_canBecome_70 : decode cX11_canBecome 70 = .ok (.if_icmp .eq 7, 3) := by decide +kernel
theorem dX11_canBecome_73 : decode cX11_canBecome 73 = .ok (.iconst 1, 1) := by decide +kernel
theorem dX11_canBecome_74 : decode cX11_canBecome 74 = .ok (.goto 4, 3) := by decide +kernel
theorem dX11_canBecome_77 : decode cX11_canBecome 77 = .ok (.iconst 0, 1) := by decide +kernel
theorem dX11_canBecome_78 : decode cX11_canBecome 78 = .ok (.ireturn, 1) := by decide +kernel
theorem dX11_canBecome_79 : decode cX11_canBecome 79 = .ok (.iconst 0, 1) := by decide +kernel
theorem dX11_canBecome_80 : decode cX11_canBecome 80 = .ok (.ireturn, 1) := by decide +kernel
theorem dX11_isWithin_0 : decode cX11_isWithin 0 = .ok (.iload_n 0, 1) := by decide +kernel
theorem dX11_isWithin_1 : decode cX11_isWithin 1 = .ok (.iload_n 1, 1) := by decide +kernel
theorem dX11_isWithin_2 : decode cX11_isWithin 2 = .ok (.if_icmp .lt 12, 3) := by decide +kernel
theorem dX11_isWithin_5 : decode cX11_isWithin 5 = .ok (.iload_n 0, 1) := by decide +kernel
theorem dX11_isWithin_6 : decode cX11_isWithin 6 = .ok (.iload_n 2, 1) := by decide +kernel
theorem dX11_isWithin_7 : decode cX11_isWithin 7 = .ok (.if_icmp .gt 7, 3) := by decide +kernel
theorem dX11_isWithin_10 : decode cX11_isWithin 10 = .ok (.iconst 1, 1) := by decide +kernel
theorem dX11_isWithin_11 : decode cX11_isWithin 11 = .ok (.goto 4, 3) := by decide +kernel
theorem dX11_isWithin_14 : decode cX11_isWithin 14 = .ok (.iconst 0, 1) := by decide +kernel
theorem dX11_isWithin_15 : decode cX11_isWithin 15 = .ok (.ireturn, 1) := by decide +kernel
theorem dX11_at_0 : decode cX11_at 0 = .ok (.iload_n 1, 1) := by decide +kernel
theorem dX11_at_1 : decode cX11_at 1 = .ok (.ifCond .lt 15, 3) := by decide +kernel
theorem dX11_at_4 : decode cX11_at 4 = .ok (.iload_n 1, 1) := by decide +kernel
theorem dX11_at_5 : decode cX11_at 5 = .ok (.aload_n 0, 1) := by decide +kernel
theorem dX11_at_6 : decode cX11_at 6 = .ok (.arraylength, 1) := by decide +kernel
theorem dX11_at_7 : decode cX11_at 7 = .ok (.if_icmp .ge 9, 3) := by decide +kernel
theorem dX11_at_10 : decode cX11_at 10 = .ok (.aload_n 0, 1) := by decide +kernel
theorem dX11_at_11 : decode cX11_at 11 = .ok (.iload_n 1, 1) := by decide +kernel
theorem dX11_at_12 : decode cX11_at 12 = .ok (.iaload, 1) := by decide +kernel
theorem dX11_at_13 : decode cX11_at 13 = .ok (.goto 4, 3) := by decide +kernel
theorem dX11_at_16 : decode cX11_at 16 = .ok (.iconst 0, 1) := by decide +kernel
theorem dX11_at_17 : decode cX11_at 17 = .ok (.ireturn, 1) := by decide +kernel
theorem dX11_put_0 : decode cX11_put 0 = .ok (.iload_n 1, 1) := by decide +kernel
theorem dX11_put_1 : decode cX11_put 1 = .ok (.ifCond .lt 13, 3) := by decide +kernel
theorem dX11_put_4 : decode cX11_put 4 = .ok (.iload_n 1, 1) := by decide +kernel
theorem dX11_put_5 : decode cX11_put 5 = .ok (.aload_n 0, 1) := by decide +kernel
theorem dX11_put_6 : decode cX11_put 6 = .ok (.arraylength, 1) := by decide +kernel
theorem dX11_put_7 : decode cX11_put 7 = .ok (.if_icmp .ge 7, 3) := by decide +kernel
theorem dX11_put_10 : decode cX11_put 10 = .ok (.aload_n 0, 1) := by decide +kernel
theorem dX11_put_11 : decode cX11_put 11 = .ok (.iload_n 1, 1) := by decide +kernel
theorem dX11_put_12 : decode cX11_put 12 = .ok (.iload_n 2, 1) := by decide +kernel
theorem dX11_put_13 : decode cX11_put 13 = .ok (.iastore, 1) := by decide +kernel
theorem dX11_put_14 : decode cX11_put 14 = .ok (.return_, 1) := by decide +kernel
theorem dX11_hasBit_0 : decode cX11_hasBit 0 = .ok (.iload_n 0, 1) := by decide +kernel
theorem dX11_hasBit_1 : decode cX11_hasBit 1 = .ok (.iload_n 1, 1) := by decide +kernel
theorem dX11_hasBit_2 : decode cX11_hasBit 2 = .ok (.ishr, 1) := by decide +kernel
theorem dX11_hasBit_3 : decode cX11_hasBit 3 = .ok (.iconst 1, 1) := by decide +kernel
theorem dX11_hasBit_4 : decode cX11_hasBit 4 = .ok (.iand, 1) := by decide +kernel
theorem dX11_hasBit_5 : decode cX11_hasBit 5 = .ok (.iconst 1, 1) := by decide +kernel
theorem dX11_hasBit_6 : decode cX11_hasBit 6 = .ok (.if_icmp .ne 7, 3) := by decide +kernel
theorem dX11_hasBit_9 : decode cX11_hasBit 9 = .ok (.iconst 1, 1) := by decide +kernel
theorem dX11_hasBit_10 : decode cX11_hasBit 10 = .ok (.goto 4, 3) := by decide +kernel
theorem dX11_hasBit_13 : decode cX11_hasBit 13 = .ok (.iconst 0, 1) := by decide +kernel
theorem dX11_hasBit_14 : decode cX11_hasBit 14 = .ok (.ireturn, 1) := by decide +kernel
theorem dX11_greatestDivisor_0 : decode cX11_greatestDivisor 0 = .ok (.iload_n 0, 1) := by decide +kernel
theorem dX11_greatestDivisor_1 : decode cX11_greatestDivisor 1 = .ok (.istore_n 2, 1) := by decide +kernel
theorem dX11_greatestDivisor_2 : decode cX11_greatestDivisor 2 = .ok (.iload_n 1, 1) := by decide +kernel
theorem dX11_greatestDivisor_3 : decode cX11_greatestDivisor 3 = .ok (.istore_n 3, 1) := by decide +kernel
theorem dX11_greatestDivisor_4 : decode cX11_greatestDivisor 4 = .ok (.iconst 0, 1) := by decide +kernel
theorem dX11_greatestDivisor_5 : decode cX11_greatestDivisor 5 = .ok (.istore 4, 2) := by decide +kernel
theorem dX11_greatestDivisor_7 : decode cX11_greatestDivisor 7 = .ok (.iload 4, 2) := by decide +kernel
theorem dX11_greatestDivisor_9 : decode cX11_greatestDivisor 9 = .ok (.bipush 64, 2) := by decide +kernel
theorem dX11_greatestDivisor_11 : decode cX11_greatestDivisor 11 = .ok (.if_icmp .ge 23, 3) := by decide +kernel
theorem dX11_greatestDivisor_14 : decode cX11_greatestDivisor 14 = .ok (.iload_n 3, 1) := by decide +kernel
theorem dX11_greatestDivisor_15 : decode cX11_greatestDivisor 15 = .ok (.ifCond .eq 19, 3) := by decide +kernel
theorem dX11_greatestDivisor_18 : decode cX11_greatestDivisor 18 = .ok (.iload_n 2, 1) := by decide +kernel
theorem dX11_greatestDivisor_19 : decode cX11_greatestDivisor 19 = .ok (.iload_n 3, 1) := by decide +kernel
theorem dX11_greatestDivisor_20 : decode cX11_greatestDivisor 20 = .ok (.irem, 1) := by decide +kernel
theorem dX11_greatestDivisor_21 : decode cX11_greatestDivisor 21 = .ok (.istore 5, 2) := by decide +kernel
theorem dX11_greatestDivisor_23 : decode cX11_greatestDivisor 23 = .ok (.iload_n 3, 1) := by decide +kernel
theorem dX11_greatestDivisor_24 : decode cX11_greatestDivisor 24 = .ok (.istore_n 2, 1) := by decide +kernel
theorem dX11_greatestDivisor_25 : decode cX11_greatestDivisor 25 = .ok (.iload 5, 2) := by decide +kernel
theorem dX11_greatestDivisor_27 : decode cX11_greatestDivisor 27 = .ok (.istore_n 3, 1) := by decide +kernel
theorem dX11_greatestDivisor_28 : decode cX11_greatestDivisor 28 = .ok (.iinc 4 1, 3) := by decide +kernel
theorem dX11_greatestDivisor_31 : decode cX11_greatestDivisor 31 = .ok (.goto (-24), 3) := by decide +kernel
theorem dX11_greatestDivisor_34 : decode cX11_greatestDivisor 34 = .ok (.iload_n 2, 1) := by decide +kernel
theorem dX11_greatestDivisor_35 : decode cX11_greatestDivisor 35 = .ok (.ireturn, 1) := by decide +kernel
theorem dX11_ageing_0 : decode cX11_ageing 0 = .ok (.iload_n 0, 1) := by decide +kernel
theorem dX11_ageing_1 : decode cX11_ageing 1 = .ok (.iconst 3, 1) := by decide +kernel
theorem dX11_ageing_2 : decode cX11_ageing 2 = .ok (.if_icmp .ne 5, 3) := by decide +kernel
theorem dX11_ageing_5 : decode cX11_ageing 5 = .ok (.iload_n 1, 1) := by decide +kernel
theorem dX11_ageing_6 : decode cX11_ageing 6 = .ok (.ireturn, 1) := by decide +kernel
theorem dX11_ageing_7 : decode cX11_ageing 7 = .ok (.bipush 10, 2) := by decide +kernel
theorem dX11_ageing_9 : decode cX11_ageing 9 = .ok (.iload_n 1, 1) := by decide +kernel
theorem dX11_ageing_10 : decode cX11_ageing 10 = .ok (.imul, 1) := by decide +kernel
theorem dX11_ageing_11 : decode cX11_ageing 11 = .ok (.iload_n 2, 1) := by decide +kernel
theorem dX11_ageing_12 : decode cX11_ageing 12 = .ok (.iadd, 1) := by decide +kernel
theorem dX11_ageing_13 : decode cX11_ageing 13 = .ok (.istore_n 3, 1) := by decide +kernel
theorem dX11_ageing_14 : decode cX11_ageing 14 = .ok (.iload_n 0, 1) := by decide +kernel
theorem dX11_ageing_15 : decode cX11_ageing 15 = .ok (.iconst 1, 1) := by decide +kernel
theorem dX11_ageing_16 : decode cX11_ageing 16 = .ok (.if_icmp .ne 9, 3) := by decide +kernel
theorem dX11_ageing_19 : decode cX11_ageing 19 = .ok (.iconst 2, 1) := by decide +kernel
theorem dX11_ageing_20 : decode cX11_ageing 20 = .ok (.iload_n 3, 1) := by decide +kernel
theorem dX11_ageing_21 : decode cX11_ageing 21 = .ok (.imul, 1) := by decide +kernel
theorem dX11_ageing_22 : decode cX11_ageing 22 = .ok (.goto 4, 3) := by decide +kernel
theorem dX11_ageing_25 : decode cX11_ageing 25 = .ok (.iload_n 3, 1) := by decide +kernel
theorem dX11_ageing_26 : decode cX11_ageing 26 = .ok (.ireturn, 1) := by decide +kernel
theorem dX12_init_0 : decode cX12_init 0 = .ok (.aload_n 0, 1) := by decide +kernel
theorem dX12_init_1 : decode cX12_init 1 = .ok (.invokespecial 1, 3) := by decide +kernel
theorem dX12_init_4 : decode cX12_init 4 = .ok (.aload_n 0, 1) := by decide +kernel
theorem dX12_init_5 : decode cX12_init 5 = .ok (.sipush 400, 3) := by decide +kernel
theorem dX12_init_8 : decode cX12_init 8 = .ok (.newarray .int, 2) := by decide +kernel
theorem dX12_init_10 : decode cX12_init 10 = .ok (.putfield 7, 3) := by decide +kernel
theorem dX12_init_13 : decode cX12_init 13 = .ok (.aload_n 0, 1) := by decide +kernel
theorem dX12_init_14 : decode cX12_init 14 = .ok (.iconst 2, 1) := by decide +kernel
theorem dX12_init_15 : decode cX12_init 15 = .ok (.newarray .int, 2) := by decide +kernel
theorem dX12_init_17 : decode cX12_init 17 = .ok (.putfield 13, 3) := by decide +kernel
theorem dX12_init_20 : decode cX12_init 20 = .ok (.aload_n 0, 1) := by decide +kernel
theorem dX12_init_21 : decode cX12_init 21 = .ok (.bipush 12, 2) := by decide +kernel
theorem dX12_init_23 : decode cX12_init 23 = .ok (.newarray .int, 2) := by decide +kernel
theorem dX12_init_25 : decode cX12_init 25 = .ok (.putfield 16, 3) := by decide +kernel
theorem dX12_init_28 : decode cX12_init 28 = .ok (.aload_n 0, 1) := by decide +kernel
theorem dX12_init_29 : decode cX12_init 29 = .ok (.bipush 12, 2) := by decide +kernel
theorem dX12_init_31 : decode cX12_init 31 = .ok (.newarray .int, 2) := by decide +kernel
theorem dX12_init_33 : decode cX12_init 33 = .ok (.putfield 19, 3) := by decide +kernel
theorem dX12_init_36 : decode cX12_init 36 = .ok (.aload_n 0, 1) := by decide +kernel
theorem dX12_init_37 : decode cX12_init 37 = .ok (.bipush 12, 2) := by decide +kernel
theorem dX12_init_39 : decode cX12_init 39 = .ok (.newarray .int, 2) := by decide +kernel
theorem dX12_init_41 : decode cX12_init 41 = .ok (.putfield 22, 3) := by decide +kernel
theorem dX12_init_44 : decode cX12_init 44 = .ok (.aload_n 0, 1) := by decide +kernel
theorem dX12_init_45 : decode cX12_init 45 = .ok (.iconst 2, 1) := by decide +kernel
theorem dX12_init_46 : decode cX12_init 46 = .ok (.newarray .int, 2) := by decide +kernel
theorem dX12_init_48 : decode cX12_init 48 = .ok (.putfield 25, 3) := by decide +kernel
theorem dX12_init_51 : decode cX12_init 51 = .ok (.aload_n 0, 1) := by decide +kernel
theorem dX12_init_52 : decode cX12_init 52 = .ok (.iconst 2, 1) := by decide +kernel
theorem dX12_init_53 : decode cX12_init 53 = .ok (.newarray .int, 2) := by decide +kernel
theorem dX12_init_55 : decode cX12_init 55 = .ok (.putfield 28, 3) := by decide +kernel
theorem dX12_init_58 : decode cX12_init 58 = .ok (.aload_n 0, 1) := by decide +kernel
theorem dX12_init_59 : decode cX12_init 59 = .ok (.bipush 20, 2) := by decide +kernel
theorem dX12_init_61 : decode cX12_init 61 = .ok (.newarray .int, 2) := by decide +kernel
theorem dX12_init_63 : decode cX12_init 63 = .ok (.putfield 31, 3) := by decide +kernel
theorem dX12_init_66 : decode cX12_init 66 = .ok (.aload_n 0, 1) := by decide +kernel
theorem dX12_init_67 : decode cX12_init 67 = .ok (.bipush 20, 2) := by decide +kernel
theorem dX12_init_69 : decode cX12_init 69 = .ok (.newarray .int, 2) := by decide +kernel
theorem dX12_init_71 : decode cX12_init 71 = .ok (.putfield 34, 3) := by decide +kernel
theorem dX12_init_74 : decode cX12_init 74 = .ok (.aload_n 0, 1) := by decide +kernel
theorem dX12_init_75 : decode cX12_init 75 = .ok (.bipush 20, 2) := by decide +kernel
theorem dX12_init_77 : decode cX12_init 77 = .ok (.newarray .int, 2) := by decide +kernel
theorem dX12_init_79 : decode cX12_init 79 = .ok (.putfield 37, 3) := by decide +kernel
theorem dX12_init_82 : decode cX12_init 82 = .ok (.aload_n 0, 1) := by decide +kernel
theorem dX12_init_83 : decode cX12_init 83 = .ok (.bipush 20, 2) := by decide +kernel
theorem dX12_init_85 : decode cX12_init 85 = .ok (.newarray .int, 2) := by decide +kernel
theorem dX12_init_87 : decode cX12_init 87 = .ok (.putfield 40, 3) := by decide +kernel
theorem dX12_init_90 : decode cX12_init 90 = .ok (.aload_n 0, 1) := by decide +kernel
theorem dX12_init_91 : decode cX12_init 91 = .ok (.bipush 20, 2) := by decide +kernel
theorem dX12_init_93 : decode cX12_init 93 = .ok (.newarray .int, 2) := by decide +kernel
theorem dX12_init_95 : decode cX12_init 95 = .ok (.putfield 43, 3) := by decide +kernel
theorem dX12_init_98 : decode cX12_init 98 = .ok (.aload_n 0, 1) := by decide +kernel
theorem dX12_init_99 : decode cX12_init 99 = .ok (.bipush 20, 2) := by decide +kernel
theorem dX12_init_101 : decode cX12_init 101 = .ok (.newarray .int, 2) := by decide +kernel
theorem dX12_init_103 : decode cX12_init 103 = .ok (.putfield 46, 3) := by decide +kernel
theorem dX12_init_106 : decode cX12_init 106 = .ok (.aload_n 0, 1) := by decide +kernel
theorem dX12_init_107 : decode cX12_init 107 = .ok (.iconst 2, 1) := by decide +kernel
theorem dX12_init_108 : decode cX12_init 108 = .ok (.newarray .int, 2) := by decide +kernel
theorem dX12_init_110 : decode cX12_init 110 = .ok (.putfield 49, 3) := by decide +kernel
theorem dX12_init_113 : decode cX12_init 113 = .ok (.aload_n 0, 1) := by decide +kernel
theorem dX12_init_114 : decode cX12_init 114 = .ok (.bipush 10, 2) := by decide +kernel
theorem dX12_init_116 : decode cX12_init 116 = .ok (.newarray .int, 2) := by decide +kernel
theorem dX12_init_118 : decode cX12_init 118 = .ok (.putfield 52, 3) := by decide +kernel
theorem dX12_init_121 : decode cX12_init 121 = .ok (.aload_n 0, 1) := by decide +kernel
theorem dX12_init_122 : decode cX12_init 122 = .ok (.iconst 2, 1) := by decide +kernel
theorem dX12_init_123 : decode cX12_init 123 = .ok (.newarray .int, 2) := by decide +kernel
theorem dX12_init_125 : decode cX12_init 125 = .ok (.putfield 55, 3) := by decide +kernel
theorem dX12_init_128 : decode cX12_init 128 = .ok (.aload_n 0, 1) := by decide +kernel
theorem dX12_init_129 : decode cX12_init 129 = .ok (.bipush 8, 2) := by decide +kernel
theorem dX12_init_131 : decode cX12_init 131 = .ok (.newarray .int, 2) := by decide +kernel
theorem dX12_init_133 : decode cX12_init 133 = .ok (.putfield 58, 3) := by decide +kernel
theorem dX12_init_136 : decode cX12_init 136 = .ok (.aload_n 0, 1) := by decide +kernel
theorem dX12_init_137 : decode cX12_init 137 = .ok (.iconst 2, 1) := by decide +kernel
theorem dX12_init_138 : decode cX12_init 138 = .ok (.newarray .int, 2) := by decide +kernel
theorem dX12_init_140 : decode cX12_init 140 = .ok (.putfield 61, 3) := by decide +kernel
theorem dX12_init_143 : decode cX12_init 143 = .ok (.aload_n 0, 1) := by decide +kernel
theorem dX12_init_144 : decode cX12_init 144 = .ok (.bipush 12, 2) := by decide +kernel
theorem dX12_init_146 : decode cX12_init 146 = .ok (.newarray .int, 2) := by decide +kernel
theorem dX12_init_148 : decode cX12_init 148 = .ok (.putfield 64, 3) := by decide +kernel
theorem dX12_init_151 : decode cX12_init 151 = .ok (.aload_n 0, 1) := by decide +kernel
theorem dX12_init_152 : decode cX12_init 152 = .ok (.bipush 12, 2) := by decide +kernel
theorem dX12_init_154 : decode cX12_init 154 = .ok (.newarray .int, 2) := by decide +kernel
theorem dX12_init_156 : decode cX12_init 156 = .ok (.putfield 67, 3) := by decide +kernel
theorem dX12_init_159 : decode cX12_init 159 = .ok (.aload_n 0, 1) := by decide +kernel
theorem dX12_init_160 : decode cX12_init 160 = .ok (.bipush 6, 2) := by decide +kernel
theorem dX12_init_162 : decode cX12_init 162 = .ok (.newarray .int, 2) := by decide +kernel
theorem dX12_init_164 : decode cX12_init 164 = .ok (.putfield 70, 3) := by decide +kernel
theorem dX12_init_167 : decode cX12_init 167 = .ok (.aload_n 0, 1) := by decide +kernel
theorem dX12_init_168 : decode cX12_init 168 = .ok (.bipush 40, 2) := by decide +kernel
theorem dX12_init_170 : decode cX12_init 170 = .ok (.newarray .int, 2) := by decide +kernel
theorem dX12_init_172 : decode cX12_init 172 = .ok (.putfield 73, 3) := by decide +kernel
theorem dX12_init_175 : decode cX12_init 175 = .ok (.aload_n 0, 1) := by decide +kernel
theorem dX12_init_176 : decode cX12_init 176 = .ok (.bipush 40, 2) := by decide +kernel
theorem dX12_init_178 : decode cX12_init 178 = .ok (.newarray .int, 2) := by decide +kernel
theorem dX12_init_180 : decode cX12_init 180 = .ok (.putfield 76, 3) := by decide +kernel
theorem dX12_init_183 : decode cX12_init 183 = .ok (.aload_n 0, 1) := by decide +kernel
theorem dX12_init_184 : decode cX12_init 184 = .ok (.bipush 40, 2) := by decide +kernel
theorem dX12_init_186 : decode cX12_init 186 = .ok (.newarray .int, 2) := by decide +kernel
theorem dX12_init_188 : decode cX12_init 188 = .ok (.putfield 79, 3) := by decide +kernel
theorem dX12_init_191 : decode cX12_init 191 = .ok (.aload_n 0, 1) := by decide +kernel
theorem dX12_init_192 : decode cX12_init 192 = .ok (.bipush 40, 2) := by decide +kernel
theorem dX12_init_194 : decode cX12_init 194 = .ok (.newarray .int, 2) := by decide +kernel
theorem dX12_init_196 : decode cX12_init 196 = .ok (.putfield 82, 3) := by decide +kernel
theorem dX12_init_199 : decode cX12_init 199 = .ok (.aload_n 0, 1) := by decide +kernel
theorem dX12_init_200 : decode cX12_init 200 = .ok (.bipush 40, 2) := by decide +kernel
theorem dX12_init_202 : decode cX12_init 202 = .ok (.newarray .int, 2) := by decide +kernel
theorem dX12_init_204 : decode cX12_init 204 = .ok (.putfield 85, 3) := by decide +kernel
theorem dX12_init_207 : decode cX12_init 207 = .ok (.aload_n 0, 1) := by decide +kernel
theorem dX12_init_208 : decode cX12_init 208 = .ok (.iconst 4, 1) := by decide +kernel
theorem dX12_init_209 : decode cX12_init 209 = .ok (.newarray .int, 2) := by decide +kernel
theorem dX12_init_211 : decode cX12_init 211 = .ok (.putfield 88, 3) := by decide +kernel
theorem dX12_init_214 : decode cX12_init 214 = .ok (.aload_n 0, 1) := by decide +kernel
theorem dX12_init_215 : decode cX12_init 215 = .ok (.bipush 16, 2) := by decide +kernel
theorem dX12_init_217 : decode cX12_init 217 = .ok (.newarray .int, 2) := by decide +kernel
theorem dX12_init_219 : decode cX12_init 219 = .ok (.putfield 91, 3) := by decide +kernel
theorem dX12_init_222 : decode cX12_init 222 = .ok (.aload_n 0, 1) := by decide +kernel
theorem dX12_init_223 : decode cX12_init 223 = .ok (.bipush 6, 2) := by decide +kernel
theorem dX12_init_225 : decode cX12_init 225 = .ok (.newarray .int, 2) := by decide +kernel
theorem dX12_init_227 : decode cX12_init 227 = .ok (.putfield 94, 3) := by decide +kernel
theorem dX12_init_230 : decode cX12_init 230 = .ok (.aload_n 0, 1) := by decide +kernel
theorem dX12_init_231 : decode cX12_init 231 = .ok (.iconst 0, 1) := by decide +kernel
theorem dX12_init_232 : decode cX12_init 232 = .ok (.invokevirtual 97, 3) := by decide +kernel
theorem dX12_init_235 : decode cX12_init 235 = .ok (.aload_n 0, 1) := by decide +kernel
theorem dX12_init_236 : decode cX12_init 236 = .ok (.getfield 13, 3) := by decide +kernel
theorem dX12_init_239 : decode cX12_init 239 = .ok (.iconst 0, 1) := by decide +kernel
theorem dX12_init_240 : decode cX12_init 240 = .ok (.iconst 1, 1) := by decide +kernel
theorem dX12_init_241 : decode cX12_init 241 = .ok (.iastore, 1) := by decide +kernel
theorem dX12_init_242 : decode cX12_init 242 = .ok (.aload_n 0, 1) := by decide +kernel
theorem dX12_init_243 : decode cX12_init 243 = .ok (.getfield 16, 3) := by decide +kernel
theorem dX12_init_246 : decode cX12_init 246 = .ok (.iconst 0, 1) := by decide +kernel
theorem dX12_init_247 : decode cX12_init 247 = .ok (.bipush 40, 2) := by decide +kernel
theorem dX12_init_249 : decode cX12_init 249 = .ok (.iastore, 1) := by decide +kernel
theorem dX12_init_250 : decode cX12_init 250 = .ok (.aload_n 0, 1) := by decide +kernel
theorem dX12_init_251 : decode cX12_init 251 = .ok (.getfield 19, 3) := by decide +kernel
theorem dX12_init_254 : decode cX12_init 254 = .ok (.iconst 0, 1) := by decide +kernel
theorem dX12_init_255 : decode cX12_init 255 = .ok (.iconst 5, 1) := by decide +kernel
theorem dX12_init_256 : decode cX12_init 256 = .ok (.iastore, 1) := by decide +kernel
theorem dX12_init_257 : decode cX12_init 257 = .ok (.aload_n 0, 1) := by decide +kernel
theorem dX12_init_258 : decode cX12_init 258 = .ok (.getfield 22, 3) := by decide +kernel
theorem dX12_init_261 : decode cX12_init 261 = .ok (.iconst 0, 1) := by decide +kernel
theorem dX12_init_262 : decode cX12_init 262 = .ok (.bipush 10, 2) := by decide +kernel
theorem dX12_init_264 : decode cX12_init 264 = .ok (.iastore, 1) := by decide +kernel
theorem dX12_init_265 : decode cX12_init 265 = .ok (.aload_n 0, 1) := by decide +kernel
theorem dX12_init_266 : decode cX12_init 266 = .ok (.getfield 28, 3) := by decide +kernel
theorem dX12_init_269 : decode cX12_init 269 = .ok (.iconst 0, 1) := by decide +kernel
theorem dX12_init_270 : decode cX12_init 270 = .ok (.iconst 1, 1) := by decide +kernel
theorem dX12_init_271 : decode cX12_init 271 = .ok (.iastore, 1) := by decide +kernel
theorem dX12_init_272 : decode cX12_init 272 = .ok (.aload_n 0, 1) := by decide +kernel
theorem dX12_init_273 : decode cX12_init 273 = .ok (.getfield 37, 3) := by decide +kernel
theorem dX12_init_276 : decode cX12_init 276 = .ok (.iconst 0, 1) := by decide +kernel
theorem dX12_init_277 : decode cX12_init 277 = .ok (.bipush 9, 2) := by decide +kernel
theorem dX12_init_279 : decode cX12_init 279 = .ok (.iastore, 1) := by decide +kernel
theorem dX12_init_280 : decode cX12_init 280 = .ok (.aload_n 0, 1) := by decide +kernel
theorem dX12_init_281 : decode cX12_init 281 = .ok (.getfield 40, 3) := by decide +kernel
theorem dX12_init_284 : decode cX12_init 284 = .ok (.iconst 0, 1) := by decide +kernel
theorem dX12_init_285 : decode cX12_init 285 = .ok (.bipush 48, 2) := by decide +kernel
theorem dX12_init_287 : decode cX12_init 287 = .ok (.iastore, 1) := by decide +kernel
theorem dX12_init_288 : decode cX12_init 288 = .ok (.aload_n 0, 1) := by decide +kernel
theorem dX12_init_289 : decode cX12_init 289 = .ok (.getfield 43, 3) := by decide +kernel
theorem dX12_init_292 : decode cX12_init 292 = .ok (.iconst 0, 1) := by decide +kernel
theorem dX12_init_293 : decode cX12_init 293 = .ok (.iconst 3, 1) := by decide +kernel
theorem dX12_init_294 : decode cX12_init 294 = .ok (.iastore, 1) := by decide +kernel
theorem dX12_init_295 : decode cX12_init 295 = .ok (.aload_n 0, 1) := by decide +kernel
theorem dX12_init_296 : decode cX12_init 296 = .ok (.invokevirtual 101, 3) := by decide +kernel
theorem dX12_init_299 : decode cX12_init 299 = .ok (.return_, 1) := by decide +kernel
theorem dX12_in_0 : decode cX12_in 0 = .ok (.lload_n 0, 1) := by decide +kernel
theorem dX12_in_1 : decode cX12_in 1 = .ok (.lload_n 2, 1) := by decide +kernel
theorem dX12_in_2 : decode cX12_in 2 = .ok (.lcmp, 1) := by decide +kernel
theorem dX12_in_3 : decode cX12_in 3 = .ok (.ifCond .lt 14, 3) := by decide +kernel
theorem dX12_in_6 : decode cX12_in 6 = .ok (.lload_n 0, 1) := by decide +kernel
theorem dX12_in_7 : decode cX12_in 7 = .ok (.lload 4, 2) := by decide +kernel
theorem dX12_in_9 : decode cX12_in 9 = .ok (.lcmp, 1) := by decide +kernel
theorem dX12_in_10 : decode cX12_in 10 = .ok (.ifCond .gt 7, 3) := by decide +kernel
theorem dX12_in_13 : decode cX12_in 13 = .ok (.iconst 1, 1) := by decide +kernel
theorem dX12_in_14 : decode cX12_in 14 = .ok (.goto 4, 3) := by decide +kernel
theorem dX12_in_17 : decode cX12_in 17 = .ok (.iconst 0, 1) := by decide +kernel
theorem dX12_in_18 : decode cX12_in 18 = .ok (.ireturn, 1) := by decide +kernel
theorem dX12_has_0 : decode cX12_has 0 = .ok (.iload_n 0, 1) := by decide +kernel
theorem dX12_has_1 : decode cX12_has 1 = .ok (.iload_n 1, 1) := by decide +kernel
theorem dX12_has_2 : decode cX12_has 2 = .ok (.ishr, 1) := by decide +kernel
theorem dX12_has_3 : decode cX12_has 3 = .ok (.iconst 1, 1) := by decide +kernel
theorem dX12_has_4 : decode cX12_has 4 = .ok (.iand, 1) := by decide +kernel
theorem dX12_has_5 : decode cX12_has 5 = .ok (.iconst 1, 1) := by decide +kernel
theorem dX12_has_6 : decode cX12_has 6 = .ok (.if_icmp .ne 7, 3) := by decide +kernel
theorem dX12_has_9 : decode cX12_has 9 = .ok (.iconst 1, 1) := by decide +kernel
theorem dX12_has_10 : decode cX12_has 10 = .ok (.goto 4, 3) := by decide +kernel
theorem dX12_has_13 : decode cX12_has 13 = .ok (.iconst 0, 1) := by decide +kernel
theorem dX12_has_14 : decode cX12_has 14 = .ok (.ireturn, 1) := by decide +kernel
theorem dX12_noFridge_0 : decode cX12_noFridge 0 = .ok (.aload_n 0, 1) := by decide +kernel
theorem dX12_noFridge_1 : decode cX12_noFridge 1 = .ok (.getfield 13, 3) := by decide +kernel
theorem dX12_noFridge_4 : decode cX12_noFridge 4 = .ok (.iload_n 1, 1) := by decide +kernel
theorem dX12_noFridge_5 : decode cX12_noFridge 5 = .ok (.iconst 0, 1) := by decide +kernel
theorem dX12_noFridge_6 : decode cX12_noFridge 6 = .ok (.iastore, 1) := by decide +kernel
theorem dX12_noFridge_7 : decode cX12_noFridge 7 = .ok (.aload_n 0, 1) := by decide +kernel
theorem dX12_noFridge_8 : decode cX12_noFridge 8 = .ok (.getfield 25, 3) := by decide +kernel
theorem dX12_noFridge_11 : decode cX12_noFridge 11 = .ok (.iload_n 1, 1) := by decide +kernel
theorem dX12_noFridge_12 : decode cX12_noFridge 12 = .ok (.iconst 0, 1) := by decide +kernel
theorem dX12_noFridge_13 : decode cX12_noFridge 13 = .ok (.iastore, 1) := by decide +kernel
theorem dX12_noFridge_14 : decode cX12_noFridge 14 = .ok (.aload_n 0, 1) := by decide +kernel
theorem dX12_noFridge_15 : decode cX12_noFridge 15 = .ok (.getfield 28, 3) := by decide +kernel
theorem dX12_noFridge_18 : decode cX12_noFridge 18 = .ok (.iload_n 1, 1) := by decide +kernel
theorem dX12_noFridge_19 : decode cX12_noFridge 19 = .ok (.iconst 0, 1) := by decide +kernel
theorem dX12_noFridge_20 : decode cX12_noFridge 20 = .ok (.iastore, 1) := by decide +kernel
theorem dX12_noFridge_21 : decode cX12_noFridge 21 = .ok (.aload_n 0, 1) := by decide +kernel
theorem dX12_noFridge_22 : decode cX12_noFridge 22 = .ok (.getfield 49, 3) := by decide +kernel
theorem dX12_noFridge_25 : decode cX12_noFridge 25 = .ok (.iload_n 1, 1) := by decide +kernel
theorem dX12_noFridge_26 : decode cX12_noFridge 26 = .ok (.iconst 0, 1) := by decide +kernel
theorem dX12_noFridge_27 : decode cX12_noFridge 27 = .ok (.iastore, 1) := by decide +kernel
theorem dX12_noFridge_28 : decode cX12_noFridge 28 = .ok (.aload_n 0, 1) := by decide +kernel
theorem dX12_noFridge_29 : decode cX12_noFridge 29 = .ok (.getfield 55, 3) := by decide +kernel
theorem dX12_noFridge_32 : decode cX12_noFridge 32 = .ok (.iload_n 1, 1) := by decide +kernel
theorem dX12_noFridge_33 : decode cX12_noFridge 33 = .ok (.iconst 0, 1) := by decide +kernel
theorem dX12_noFridge_34 : decode cX12_noFridge 34 = .ok (.iastore, 1) := by decide +kernel
theorem dX12_noFridge_35 : decode cX12_noFridge 35 = .ok (.aload_n 0, 1) := by decide +kernel
theorem dX12_noFridge_36 : decode cX12_noFridge 36 = .ok (.getfield 61, 3) := by decide +kernel
theorem dX12_noFridge_39 : decode cX12_noFridge 39 = .ok (.iload_n 1, 1) := by decide +kernel
theorem dX12_noFridge_40 : decode cX12_noFridge 40 = .ok (.iconst 0, 1) := by decide +kernel
theorem dX12_noFridge_41 : decode cX12_noFridge 41 = .ok (.iastore, 1) := by decide +kernel
theorem dX12_noFridge_42 : decode cX12_noFridge 42 = .ok (.aload_n 0, 1) := by decide +kernel
theorem dX12_noFridge_43 : decode cX12_noFridge 43 = .ok (.getfield 70, 3) := by decide +kernel
theorem dX12_noFridge_46 : decode cX12_noFridge 46 = .ok (.iconst 3, 1) := by decide +kernel
theorem dX12_noFridge_47 : decode cX12_noFridge 47 = .ok (.iload_n 1, 1) := by decide +kernel
theorem dX12_noFridge_48 : decode cX12_noFridge 48 = .ok (.imul, 1) := by decide +kernel
theorem dX12_noFridge_49 : decode cX12_noFridge 49 = .ok (.bipush 10, 2) := by decide +kernel
theorem dX12_noFridge_51 : decode cX12_noFridge 51 = .ok (.iastore, 1) := by decide +kernel
theorem dX12_noFridge_52 : decode cX12_noFridge 52 = .ok (.aload_n 0, 1) := by decide +kernel
theorem dX12_noFridge_53 : decode cX12_noFridge 53 = .ok (.getfield 70, 3) := by decide +kernel
theorem dX12_noFridge_56 : decode cX12_noFridge 56 = .ok (.iconst 3, 1) := by decide +kernel
theorem dX12_noFridge_57 : decode cX12_noFridge 57 = .ok (.iload_n 1, 1) := by decide +kernel
theorem dX12_noFridge_58 : decode cX12_noFridge 58 = .ok (.imul, 1) := by decide +kernel
theorem dX12_noFridge_59 : decode cX12_noFridge 59 = .ok (.iconst 1, 1) := by decide +kernel
theorem dX12_noFridge_60 : decode cX12_noFridge 60 = .ok (.iadd, 1) := by decide +kernel
theorem dX12_noFridge_61 : decode cX12_noFridge 61 = .ok (.bipush 20, 2) := by decide +kernel
theorem dX12_noFridge_63 : decode cX12_noFridge 63 = .ok (.iastore, 1) := by decide +kernel
theorem dX12_noFridge_64 : decode cX12_noFridge 64 = .ok (.aload_n 0, 1) := by decide +kernel
theorem dX12_noFridge_65 : decode cX12_noFridge 65 = .ok (.getfield 70, 3) := by decide +kernel
theorem dX12_noFridge_68 : decode cX12_noFridge 68 = .ok (.iconst 3, 1) := by decide +kernel
theorem dX12_noFridge_69 : decode cX12_noFridge 69 = .ok (.iload_n 1, 1) := by decide +kernel
theorem dX12_noFridge_70 : decode cX12_noFridge 70 = .ok (.imul, 1) := by decide +kernel
theorem dX12_noFridge_71 : decode cX12_noFridge 71 = .ok (.iconst 2, 1) := by decide +kernel
theorem dX12_noFridge_72 : decode cX12_noFridge 72 = .ok (.iadd, 1) := by decide +kernel
theorem dX12_noFridge_73 : decode cX12_noFridge 73 = .ok (.iconst 1, 1) := by decide +kernel
theorem dX12_noFridge_74 : decode cX12_noFridge 74 = .ok (.iastore, 1) := by decide +kernel
theorem dX12_noFridge_75 : decode cX12_noFridge 75 = .ok (.return_, 1) := by decide +kernel
theorem dX12_write_0 : decode cX12_write 0 = .ok (.iload_n 1, 1) := by decide +kernel
theorem dX12_write_1 : decode cX12_write 1 = .ok (.i2l, 1) := by decide +kernel
theorem dX12_write_2 : decode cX12_write 2 = .ok (.lconst 1, 1) := by decide +kernel
theorem dX12_write_3 : decode cX12_write 3 = .ok (.ldc2_w 104, 3) := by decide +kernel
theorem dX12_write_6 : decode cX12_write 6 = .ok (.invokestatic 106, 3) := by decide +kernel
theorem dX12_write_9 : decode cX12_write 9 = .ok (.ifCond .ne 5, 3) := by decide +kernel
theorem dX12_write_12 : decode cX12_write 12 = .ok (.iconst (-1), 1) := by decide +kernel
theorem dX12_write_13 : decode cX12_write 13 = .ok (.ireturn, 1) := by decide +kernel
theorem dX12_write_14 : decode cX12_write 14 = .ok (.aload_n 0, 1) := by decide +kernel
theorem dX12_write_15 : decode cX12_write 15 = .ok (.getfield 110, 3) := by decide +kernel
theorem dX12_write_18 : decode cX12_write 18 = .ok (.iload_n 1, 1) := by decide +kernel
theorem dX12_write_19 : decode cX12_write 19 = .ok (.iadd, 1) := by decide +kernel
theorem dX12_write_20 : decode cX12_write 20 = .ok (.sipush 400, 3) := by decide +kernel
theorem dX12_write_23 : decode cX12_write 23 = .ok (.if_icmp .le 6, 3) := by decide +kernel
theorem dX12_write_26 : decode cX12_write 26 = .ok (.bipush (-3), 2) := by decide +kernel
theorem dX12_write_28 : decode cX12_write 28 = .ok (.ireturn, 1) := by decide +kernel
theorem dX12_write_29 : decode cX12_write 29 = .ok (.iload_n 1, 1) := by decide +kernel
theorem dX12_write_30 : decode cX12_write 30 = .ok (.iconst 1, 1) := by decide +kernel
theorem dX12_write_31 : decode cX12_write 31 = .ok (.isub, 1) := by decide +kernel
theorem dX12_write_32 : decode cX12_write 32 = .ok (.istore 4, 2) := by decide +kernel
theorem dX12_write_34 : decode cX12_write 34 = .ok (.iload 4, 2) := by decide +kernel
theorem dX12_write_36 : decode cX12_write 36 = .ok (.ifCond .lt 40, 3) := by decide +kernel
theorem dX12_write_39 : decode cX12_write 39 = .ok (.aload_n 0, 1) := by decide +kernel
theorem dX12_write_40 : decode cX12_write 40 = .ok (.getfield 7, 3) := by decide +kernel
theorem dX12_write_43 : decode cX12_write 43 = .ok (.aload_n 0, 1) := by decide +kernel
theorem dX12_write_44 : decode cX12_write 44 = .ok (.getfield 110, 3) := by decide +kernel
theorem dX12_write_47 : decode cX12_write 47 = .ok (.lload_n 2, 1) := by decide +kernel
theorem dX12_write_48 : decode cX12_write 48 = .ok (.bipush 8, 2) := by decide +kernel
theorem dX12_write_50 : decode cX12_write 50 = .ok (.iload 4, 2) := by decide +kernel
theorem dX12_write_52 : decode cX12_write 52 = .ok (.imul, 1) := by decide +kernel
theorem dX12_write_53 : decode cX12_write 53 = .ok (.lshr, 1) := by decide +kernel
theorem dX12_write_54 : decode cX12_write 54 = .ok (.ldc2_w 114, 3) := by decide +kernel
theorem dX12_write_57 : decode cX12_write 57 = .ok (.land, 1) := by decide +kernel
theorem dX12_write_58 : decode cX12_write 58 = .ok (.l2i, 1) := by decide +kernel
theorem dX12_write_59 : decode cX12_write 59 = .ok (.iastore, 1) := by decide +kernel
theorem dX12_write_60 : decode cX12_write 60 = .ok (.aload_n 0, 1) := by decide +kernel
theorem dX12_write_61 : decode cX12_write 61 = .ok (.dup, 1) := by decide +kernel
theorem dX12_write_62 : decode cX12_write 62 = .ok (.getfield 110, 3) := by decide +kernel
theorem dX12_write_65 : decode cX12_write 65 = .ok (.iconst 1, 1) := by decide +kernel
theorem dX12_write_66 : decode cX12_write 66 = .ok (.iadd, 1) := by decide +kernel
theorem dX12_write_67 : decode cX12_write 67 = .ok (.putfield 110, 3) := by decide +kernel
theorem dX12_write_70 : decode cX12_write 70 = .ok (.iinc 4 (-1), 3) := by decide +kernel
theorem dX12_write_73 : decode cX12_write 73 = .ok (.goto (-39), 3) := by decide +kernel
theorem dX12_write_76 : decode cX12_write 76 = .ok (.aload_n 0, 1) := by decide +kernel
theorem dX12_write_77 : decode cX12_write 77 = .ok (.getfield 110, 3) := by decide +kernel
theorem dX12_write_80 : decode cX12_write 80 = .ok (.ireturn, 1) := by decide +kernel
theorem dX12_wipe_0 : decode cX12_wipe 0 = .ok (.aload_n 0, 1) := by decide +kernel
theorem dX12_wipe_1 : decode cX12_wipe 1 = .ok (.getfield 110, 3) := by decide +kernel
theorem dX12_wipe_4 : decode cX12_wipe 4 = .ok (.istore_n 1, 1) := by decide +kernel
theorem dX12_wipe_5 : decode cX12_wipe 5 = .ok (.aload_n 0, 1) := by decide +kernel
theorem dX12_wipe_6 : decode cX12_wipe 6 = .ok (.iconst 0, 1) := by decide +kernel
theorem dX12_wipe_7 : decode cX12_wipe 7 = .ok (.putfield 110, 3) := by decide +kernel
theorem dX12_wipe_10 : decode cX12_wipe 10 = .ok (.iload_n 1, 1) := by decide +kernel
theorem dX12_wipe_11 : decode cX12_wipe 11 = .ok (.ireturn, 1) := by decide +kernel
theorem dX12_byteAt_0 : decode cX12_byteAt 0 = .ok (.iload_n 1, 1) := by decide +kernel
theorem dX12_byteAt_1 : decode cX12_byteAt 1 = .ok (.aload_n 0, 1) := by decide +kernel
theorem dX12_byteAt_2 : decode cX12_byteAt 2 = .ok (.getfield 110, 3) := by decide +kernel
theorem dX12_byteAt_5 : decode cX12_byteAt 5 = .ok (.if_icmp .ge 12, 3) := by decide +kernel
theorem dX12_byteAt_8 : decode cX12_byteAt 8 = .ok (.aload_n 0, 1) := by decide +kernel
theorem dX12_byteAt_9 : decode cX12_byteAt 9 = .ok (.getfield 7, 3) := by decide +kernel
theorem dX12_byteAt_12 : decode cX12_byteAt 12 = .ok (.iload_n 1, 1) := by decide +kernel
theorem dX12_byteAt_13 : decode cX12_byteAt 13 = .ok (.iaload, 1) := by decide +kernel
theorem dX12_byteAt_14 : decode cX12_byteAt 14 = .ok (.goto 4, 3) := by decide +kernel
theorem dX12_byteAt_17 : decode cX12_byteAt 17 = .ok (.iconst 0, 1) := by decide +kernel
theorem dX12_byteAt_18 : decode cX12_byteAt 18 = .ok (.ireturn, 1) := by decide +kernel
theorem dX12_figures_0 : decode cX12_figures 0 = .ok (.iconst 0, 1) := by decide +kernel
theorem dX12_figures_1 : decode cX12_figures 1 = .ok (.istore_n 2, 1) := by decide +kernel
theorem dX12_figures_2 : decode cX12_figures 2 = .ok (.iload_n 2, 1) := by decide +kernel
theorem dX12_figures_3 : decode cX12_figures 3 = .ok (.iload_n 1, 1) := by decide +kernel
theorem dX12_figures_4 : decode cX12_figures 4 = .ok (.if_icmp .ge 132, 3) := by decide +kernel
theorem dX12_figures_7 : decode cX12_figures 7 = .ok (.iconst 0, 1) := by decide +kernel
theorem dX12_figures_8 : decode cX12_figures 8 = .ok (.istore_n 3, 1) := by decide +kernel
theorem dX12_figures_9 : decode cX12_figures 9 = .ok (.iconst 0, 1) := by decide +kernel
theorem dX12_figures_10 : decode cX12_figures 10 = .ok (.istore 4, 2) := by decide +kernel
theorem dX12_figures_12 : decode cX12_figures 12 = .ok (.aload_n 0, 1) := by decide +kernel
theorem dX12_figures_13 : decode cX12_figures 13 = .ok (.aload_n 0, 1) := by decide +kernel
theorem dX12_figures_14 : decode cX12_figures 14 = .ok (.getfield 116, 3) := by decide +kernel
theorem dX12_figures_17 : decode cX12_figures 17 = .ok (.invokevirtual 119, 3) := by decide +kernel
theorem dX12_figures_20 : decode cX12_figures 20 = .ok (.i2l, 1) := by decide +kernel
theorem dX12_figures_21 : decode cX12_figures 21 = .ok (.ldc2_w 123, 3) := by decide +kernel
theorem dX12_figures_24 : decode cX12_figures 24 = .ok (.ldc2_w 125, 3) := by decide +kernel
theorem dX12_figures_27 : decode cX12_figures 27 = .ok (.invokestatic 106, 3) := by decide +kernel
theorem dX12_figures_30 : decode cX12_figures 30 = .ok (.ifCond .eq 43, 3) := by decide +kernel
theorem dX12_figures_33 : decode cX12_figures 33 = .ok (.iload_n 3, 1) := by decide +kernel
theorem dX12_figures_34 : decode cX12_figures 34 = .ok (.iconst 4, 1) := by decide +kernel
theorem dX12_figures_35 : decode cX12_figures 35 = .ok (.if_icmp .ge 38, 3) := by decide +kernel
theorem dX12_figures_38 : decode cX12_figures 38 = .ok (.bipush 10, 2) := by decide +kernel
theorem dX12_figures_40 : decode cX12_figures 40 = .ok (.iload 4, 2) := by decide +kernel
theorem dX12_figures_42 : decode cX12_figures 42 = .ok (.imul, 1) := by decide +kernel
theorem dX12_figures_43 : decode cX12_figures 43 = .ok (.aload_n 0, 1) := by decide +kernel
theorem dX12_figures_44 : decode cX12_figures 44 = .ok (.aload_n 0, 1) := by decide +kernel
theorem dX12_figures_45 : decode cX12_figures 45 = .ok (.getfield 116, 3) := by decide +kernel
theorem dX12_figures_48 : decode cX12_figures 48 = .ok (.invokevirtual 119, 3) := by decide +kernel
theorem dX12_figures_51 : decode cX12_figures 51 = .ok (.iadd, 1) := by decide +kernel
theorem dX12_figures_52 : decode cX12_figures 52 = .ok (.bipush 48, 2) := by decide +kernel
theorem dX12_figures_54 : decode cX12_figures 54 = .ok (.isub, 1) := by decide +kernel
theorem dX12_figures_55 : decode cX12_figures 55 = .ok (.istore 4, 2) := by decide +kernel
theorem dX12_figures_57 : decode cX12_figures 57 = .ok (.iinc 3 1, 3) := by decide +kernel
theorem dX12_figures_60 : decode cX12_figures 60 = .ok (.aload_n 0, 1) := by decide +kernel
theorem dX12_figures_61 : decode cX12_figures 61 = .ok (.dup, 1) := by decide +kernel
theorem dX12_figures_62 : decode cX12_figures 62 = .ok (.getfield 116, 3) := by decide +kernel
theorem dX12_figures_65 : decode cX12_figures 65 = .ok (.iconst 1, 1) := by decide +kernel
theorem dX12_figures_66 : decode cX12_figures 66 = .ok (.iadd, 1) := by decide +kernel
theorem dX12_figures_67 : decode cX12_figures 67 = .ok (.putfield 116, 3) := by decide +kernel
theorem dX12_figures_70 : decode cX12_figures 70 = .ok (.goto (-58), 3) := by decide +kernel
theorem dX12_figures_73 : decode cX12_figures 73 = .ok (.iload_n 3, 1) := by decide +kernel
theorem dX12_figures_74 : decode cX12_figures 74 = .ok (.i2l, 1) := by decide +kernel
theorem dX12_figures_75 : decode cX12_figures 75 = .ok (.lconst 1, 1) := by decide +kernel
theorem dX12_figures_76 : decode cX12_figures 76 = .ok (.ldc2_w 127, 3) := by decide +kernel
theorem dX12_figures_79 : decode cX12_figures 79 = .ok (.invokestatic 106, 3) := by decide +kernel
theorem dX12_figures_82 : decode cX12_figures 82 = .ok (.ifCond .eq 28, 3) := by decide +kernel
theorem dX12_figures_85 : decode cX12_figures 85 = .ok (.aload_n 0, 1) := by decide +kernel
theorem dX12_figures_86 : decode cX12_figures 86 = .ok (.aload_n 0, 1) := by decide +kernel
theorem dX12_figures_87 : decode cX12_figures 87 = .ok (.getfield 116, 3) := by decide +kernel
theorem dX12_figures_90 : decode cX12_figures 90 = .ok (.invokevirtual 119, 3) := by decide +kernel
theorem dX12_figures_93 : decode cX12_figures 93 = .ok (.iload_n 2, 1) := by decide +kernel
theorem dX12_figures_94 : decode cX12_figures 94 = .ok (.iload_n 1, 1) := by decide +kernel
theorem dX12_figures_95 : decode cX12_figures 95 = .ok (.iconst 1, 1) := by decide +kernel
theorem dX12_figures_96 : decode cX12_figures 96 = .ok (.isub, 1) := by decide +kernel
theorem dX12_figures_97 : decode cX12_figures 97 = .ok (.if_icmp .ge 8, 3) := by decide +kernel
theorem dX12_figures_100 : decode cX12_figures 100 = .ok (.bipush 44, 2) := by decide +kernel
theorem dX12_figures_102 : decode cX12_figures 102 = .ok (.goto 5, 3) := by decide +kernel
theorem dX12_figures_105 : decode cX12_figures 105 = .ok (.bipush 59, 2) := by decide +kernel
theorem dX12_figures_107 : decode cX12_figures 107 = .ok (.if_icmp .eq 5, 3) := by decide +kernel
theorem dX12_figures_110 : decode cX12_figures 110 = .ok (.iconst 0, 1) := by decide +kernel
theorem dX12_figures_111 : decode cX12_figures 111 = .ok (.ireturn, 1) := by decide +kernel
theorem dX12_figures_112 : decode cX12_figures 112 = .ok (.aload_n 0, 1) := by decide +kernel
theorem dX12_figures_113 : decode cX12_figures 113 = .ok (.getfield 94, 3) := by decide +kernel
theorem dX12_figures_116 : decode cX12_figures 116 = .ok (.iload_n 2, 1) := by decide +kernel
theorem dX12_figures_117 : decode cX12_figures 117 = .ok (.iload 4, 2) := by decide +kernel
theorem dX12_figures_119 : decode cX12_figures 119 = .ok (.iastore, 1) := by decide +kernel
theorem dX12_figures_120 : decode cX12_figures 120 = .ok (.aload_n 0, 1) := by decide +kernel
theorem dX12_figures_121 : decode cX12_figures 121 = .ok (.dup, 1) := by decide +kernel
theorem dX12_figures_122 : decode cX12_figures 122 = .ok (.getfield 116, 3) := by decide +kernel
theorem dX12_figures_125 : decode cX12_figures 125 = .ok (.iconst 1, 1) := by decide +kernel
theorem dX12_figures_126 : decode cX12_figures 126 = .ok (.iadd, 1) := by decide +kernel
theorem dX12_figures_127 : decode cX12_figures 127 = .ok (.putfield 116, 3) := by decide +kernel
theorem dX12_figures_130 : decode cX12_figures 130 = .ok (.iinc 2 1, 3) := by decide +kernel
theorem dX12_figures_133 : decode cX12_figures 133 = .ok (.goto (-131), 3) := by decide +kernel
theorem dX12_figures_136 : decode cX12_figures 136 = .ok (.iconst 1, 1) := by decide +kernel
theorem dX12_figures_137 : decode cX12_figures 137 = .ok (.ireturn, 1) := by decide +kernel
theorem dX12_cellItem_0 : decode cX12_cellItem 0 = .ok (.bipush 6, 2) := by decide +kernel
theorem dX12_cellItem_2 : decode cX12_cellItem 2 = .ok (.aload_n 0, 1) := by decide +kernel
theorem dX12_cellItem_3 : decode cX12_cellItem 3 = .ok (.getfield 13, 3) := by decide +kernel
theorem dX12_cellItem_6 : decode cX12_cellItem 6 = .ok (.iconst 1, 1) := by decide +kernel
theorem dX12_cellItem_7 : decode cX12_cellItem 7 = .ok (.iaload, 1) := by decide +kernel
theorem dX12_cellItem_8 : decode cX12_cellItem 8 = .ok (.iadd, 1) := by decide +kernel
theorem dX12_cellItem_9 : decode cX12_cellItem 9 = .ok (.istore_n 1, 1) := by decide +kernel
theorem dX12_cellItem_10 : decode cX12_cellItem 10 = .ok (.aload_n 0, 1) := by decide +kernel
theorem dX12_cellItem_11 : decode cX12_cellItem 11 = .ok (.iconst 3, 1) := by decide +kernel
theorem dX12_cellItem_12 : decode cX12_cellItem 12 = .ok (.invokevirtual 129, 3) := by decide +kernel
theorem dX12_cellItem_15 : decode cX12_cellItem 15 = .ok (.ifCond .eq 54, 3) := by decide +kernel
theorem dX12_cellItem_18 : decode cX12_cellItem 18 = .ok (.aload_n 0, 1) := by decide +kernel
theorem dX12_cellItem_19 : decode cX12_cellItem 19 = .ok (.getfield 13, 3) := by decide +kernel
theorem dX12_cellItem_22 : decode cX12_cellItem 22 = .ok (.iconst 1, 1) := by decide +kernel
theorem dX12_cellItem_23 : decode cX12_cellItem 23 = .ok (.iaload, 1) := by decide +kernel
theorem dX12_cellItem_24 : decode cX12_cellItem 24 = .ok (.bipush 6, 2) := by decide +kernel
theorem dX12_cellItem_26 : decode cX12_cellItem 26 = .ok (.if_icmp .eq 43, 3) := by decide +kernel
theorem dX12_cellItem_29 : decode cX12_cellItem 29 = .ok (.aload_n 0, 1) := by decide +kernel
theorem dX12_cellItem_30 : decode cX12_cellItem 30 = .ok (.getfield 94, 3) := by decide +kernel
theorem dX12_cellItem_33 : decode cX12_cellItem 33 = .ok (.iconst 0, 1) := by decide +kernel
theorem dX12_cellItem_34 : decode cX12_cellItem 34 = .ok (.iaload, 1) := by decide +kernel
theorem dX12_cellItem_35 : decode cX12_cellItem 35 = .ok (.sipush 200, 3) := by decide +kernel
theorem dX12_cellItem_38 : decode cX12_cellItem 38 = .ok (.if_icmp .gt 31, 3) := by decide +kernel
theorem dX12_cellItem_41 : decode cX12_cellItem 41 = .ok (.aload_n 0, 1) := by decide +kernel
theorem dX12_cellItem_42 : decode cX12_cellItem 42 = .ok (.getfield 94, 3) := by decide +kernel
theorem dX12_cellItem_45 : decode cX12_cellItem 45 = .ok (.iconst 1, 1) := by decide +kernel
theorem dX12_cellItem_46 : decode cX12_cellItem 46 = .ok (.iaload, 1) := by decide +kernel
theorem dX12_cellItem_47 : decode cX12_cellItem 47 = .ok (.bipush 99, 2) := by decide +kernel
theorem dX12_cellItem_49 : decode cX12_cellItem 49 = .ok (.if_icmp .gt 20, 3) := by decide +kernel
theorem dX12_cellItem_52 : decode cX12_cellItem 52 = .ok (.aload_n 0, 1) := by decide +kernel
theorem dX12_cellItem_53 : decode cX12_cellItem 53 = .ok (.getfield 94, 3) := by decide +kernel
theorem dX12_cellItem_56 : decode cX12_cellItem 56 = .ok (.iconst 2, 1) := by decide +kernel
theorem dX12_cellItem_57 : decode cX12_cellItem 57 = .ok (.iaload, 1) := by decide +kernel
theorem dX12_cellItem_58 : decode cX12_cellItem 58 = .ok (.i2l, 1) := by decide +kernel
theorem dX12_cellItem_59 : decode cX12_cellItem 59 = .ok (.lconst 1, 1) := by decide +kernel
theorem dX12_cellItem_60 : decode cX12_cellItem 60 = .ok (.ldc2_w 133, 3) := by decide +kernel
theorem dX12_cellItem_63 : decode cX12_cellItem 63 = .ok (.invokestatic 106, 3) := by decide +kernel
theorem dX12_cellItem_66 : decode cX12_cellItem 66 = .ok (.ifCond .ne 5, 3) := by decide +kernel
theorem dX12_cellItem_69 : decode cX12_cellItem 69 = .ok (.iconst 0, 1) := by decide +kernel
theorem dX12_cellItem_70 : decode cX12_cellItem 70 = .ok (.ireturn, 1) := by decide +kernel
theorem dX12_cellItem_71 : decode cX12_cellItem 71 = .ok (.aload_n 0, 1) := by decide +kernel
theorem dX12_cellItem_72 : decode cX12_cellItem 72 = .ok (.getfield 16, 3) := by decide +kernel
theorem dX12_cellItem_75 : decode cX12_cellItem 75 = .ok (.iload_n 1, 1) := by decide +kernel
theorem dX12_cellItem_76 : decode cX12_cellItem 76 = .ok (.aload_n 0, 1) := by decide +kernel
theorem dX12_cellItem_77 : decode cX12_cellItem 77 = .ok (.getfield 94, 3) := by decide +kernel
theorem dX12_cellItem_80 : decode cX12_cellItem 80 = .ok (.iconst 0, 1) := by decide +kernel
theorem dX12_cellItem_81 : decode cX12_cellItem 81 = .ok (.iaload, 1) := by decide +kernel
theorem dX12_cellItem_82 : decode cX12_cellItem 82 = .ok (.iastore, 1) := by decide +kernel
theorem dX12_cellItem_83 : decode cX12_cellItem 83 = .ok (.aload_n 0, 1) := by decide +kernel
theorem dX12_cellItem_84 : decode cX12_cellItem 84 = .ok (.getfield 19, 3) := by decide +kernel
theorem dX12_cellItem_87 : decode cX12_cellItem 87 = .ok (.iload_n 1, 1) := by decide +kernel
theorem dX12_cellItem_88 : decode cX12_cellItem 88 = .ok (.aload_n 0, 1) := by decide +kernel
theorem dX12_cellItem_89 : decode cX12_cellItem 89 = .ok (.getfield 94, 3) := by decide +kernel
theorem dX12_cellItem_92 : decode cX12_cellItem 92 = .ok (.iconst 1, 1) := by decide +kernel
theorem dX12_cellItem_93 : decode cX12_cellItem 93 = .ok (.iaload, 1) := by decide +kernel
theorem dX12_cellItem_94 : decode cX12_cellItem 94 = .ok (.iastore, 1) := by decide +kernel
theorem dX12_cellItem_95 : decode cX12_cellItem 95 = .ok (.aload_n 0, 1) := by decide +kernel
theorem dX12_cellItem_96 : decode cX12_cellItem 96 = .ok (.getfield 22, 3) := by decide +kernel
theorem dX12_cellItem_99 : decode cX12_cellItem 99 = .ok (.iload_n 1, 1) := by decide +kernel
theorem dX12_cellItem_100 : decode cX12_cellItem 100 = .ok (.aload_n 0, 1) := by decide +kernel
theorem dX12_cellItem_101 : decode cX12_cellItem 101 = .ok (.getfield 94, 3) := by decide +kernel
theorem dX12_cellItem_104 : decode cX12_cellItem 104 = .ok (.iconst 2, 1) := by decide +kernel
theorem dX12_cellItem_105 : decode cX12_cellItem 105 = .ok (.iaload, 1) := by decide +kernel
theorem dX12_cellItem_106 : decode cX12_cellItem 106 = .ok (.iastore, 1) := by decide +kernel
theorem dX12_cellItem_107 : decode cX12_cellItem 107 = .ok (.aload_n 0, 1) := by decide +kernel
theorem dX12_cellItem_108 : decode cX12_cellItem 108 = .ok (.getfield 13, 3) := by decide +kernel
theorem dX12_cellItem_111 : decode cX12_cellItem 111 = .ok (.iconst 1, 1) := by decide +kernel
theorem dX12_cellItem_112 : decode cX12_cellItem 112 = .ok (.dup2, 1) := by decide +kernel
theorem dX12_cellItem_113 : decode cX12_cellItem 113 = .ok (.iaload, 1) := by decide +kernel
theorem dX12_cellItem_114 : decode cX12_cellItem 114 = .ok (.iconst 1, 1) := by decide +kernel
theorem dX12_cellItem_115 : decode cX12_cellItem 115 = .ok (.iadd, 1) := by decide +kernel
theorem dX12_cellItem_116 : decode cX12_cellItem 116 = .ok (.iastore, 1) := by decide +kernel
theorem dX12_cellItem_117 : decode cX12_cellItem 117 = .ok (.iconst 1, 1) := by decide +kernel
theorem dX12_cellItem_118 : decode cX12_cellItem 118 = .ok (.ireturn, 1) := by decide +kernel
theorem dX12_foodItem_0 : decode cX12_foodItem 0 = .ok (.bipush 10, 2) := by decide +kernel
theorem dX12_foodItem_2 : decode cX12_foodItem 2 = .ok (.aload_n 0, 1) := by decide +kernel
theorem dX12_foodItem_3 : decode cX12_foodItem 3 = .ok (.getfield 28, 3) := by decide +kernel
theorem dX12_foodItem_6 : decode cX12_foodItem 6 = .ok (.iconst 1, 1) := by decide +kernel
theorem dX12_foodItem_7 : decode cX12_foodItem 7 = .ok (.iaload, 1) := by decide +kernel
theorem dX12_foodItem_8 : decode cX12_foodItem 8 = .ok (.iadd, 1) := by decide +kernel
theorem dX12_foodItem_9 : decode cX12_foodItem 9 = .ok (.istore_n 1, 1) := by decide +kernel
theorem dX12_foodItem_10 : decode cX12_foodItem 10 = .ok (.aload_n 0, 1) := by decide +kernel
theorem dX12_foodItem_11 : decode cX12_foodItem 11 = .ok (.bipush 6, 2) := by decide +kernel
theorem dX12_foodItem_13 : decode cX12_foodItem 13 = .ok (.invokevirtual 129, 3) := by decide +kernel
theorem dX12_foodItem_16 : decode cX12_foodItem 16 = .ok (.ifCond .eq 88, 3) := by decide +kernel
theorem dX12_foodItem_19 : decode cX12_foodItem 19 = .ok (.aload_n 0, 1) := by decide +kernel
theorem dX12_foodItem_20 : decode cX12_foodItem 20 = .ok (.getfield 28, 3) := by decide +kernel
theorem dX12_foodItem_23 : decode cX12_foodItem 23 = .ok (.iconst 1, 1) := by decide +kernel
theorem dX12_foodItem_24 : decode cX12_foodItem 24 = .ok (.iaload, 1) := by decide +kernel
theorem dX12_foodItem_25 : decode cX12_foodItem 25 = .ok (.bipush 10, 2) := by decide +kernel
theorem dX12_foodItem_27 : decode cX12_foodItem 27 = .ok (.if_icmp .eq 77, 3) := by decide +kernel
theorem dX12_foodItem_30 : decode cX12_foodItem 30 = .ok (.aload_n 0, 1) := by decide +kernel
theorem dX12_foodItem_31 : decode cX12_foodItem 31 = .ok (.getfield 94, 3) := by decide +kernel
theorem dX12_foodItem_34 : decode cX12_foodItem 34 = .ok (.iconst 0, 1) := by decide +kernel
theorem dX12_foodItem_35 : decode cX12_foodItem 35 = .ok (.iaload, 1) := by decide +kernel
theorem dX12_foodItem_36 : decode cX12_foodItem 36 = .ok (.iconst 3, 1) := by decide +kernel
theorem dX12_foodItem_37 : decode cX12_foodItem 37 = .ok (.if_icmp .gt 67, 3) := by decide +kernel
theorem dX12_foodItem_40 : decode cX12_foodItem 40 = .ok (.aload_n 0, 1) := by decide +kernel
theorem dX12_foodItem_41 : decode cX12_foodItem 41 = .ok (.getfield 94, 3) := by decide +kernel
theorem dX12_foodItem_44 : decode cX12_foodItem 44 = .ok (.iconst 1, 1) := by decide +kernel
theorem dX12_foodItem_45 : decode cX12_foodItem 45 = .ok (.iaload, 1) := by decide +kernel
theorem dX12_foodItem_46 : decode cX12_foodItem 46 = .ok (.aload_n 0, 1) := by decide +kernel
theorem dX12_foodItem_47 : decode cX12_foodItem 47 = .ok (.getfield 13, 3) := by decide +kernel
theorem dX12_foodItem_50 : decode cX12_foodItem 50 = .ok (.iconst 1, 1) := by decide +kernel
theorem dX12_foodItem_51 : decode cX12_foodItem 51 = .ok (.iaload, 1) := by decide +kernel
theorem dX12_foodItem_52 : decode cX12_foodItem 52 = .ok (.if_icmp .ge 52, 3) := by decide +kernel
theorem dX12_foodItem_55 : decode cX12_foodItem 55 = .ok (.aload_n 0, 1) := by decide +kernel
theorem dX12_foodItem_56 : decode cX12_foodItem 56 = .ok (.getfield 94, 3) := by decide +kernel
theorem dX12_foodItem_59 : decode cX12_foodItem 59 = .ok (.iconst 2, 1) := by decide +kernel
theorem dX12_foodItem_60 : decode cX12_foodItem 60 = .ok (.iaload, 1) := by decide +kernel
theorem dX12_foodItem_61 : decode cX12_foodItem 61 = .ok (.bipush 99, 2) := by decide +kernel
theorem dX12_foodItem_63 : decode cX12_foodItem 63 = .ok (.if_icmp .gt 41, 3) := by decide +kernel
theorem dX12_foodItem_66 : decode cX12_foodItem 66 = .ok (.aload_n 0, 1) := by decide +kernel
theorem dX12_foodItem_67 : decode cX12_foodItem 67 = .ok (.getfield 94, 3) := by decide +kernel
theorem dX12_foodItem_70 : decode cX12_foodItem 70 = .ok (.iconst 3, 1) := by decide +kernel
theorem dX12_foodItem_71 : decode cX12_foodItem 71 = .ok (.iaload, 1) := by decide +kernel
theorem dX12_foodItem_72 : decode cX12_foodItem 72 = .ok (.i2l, 1) := by decide +kernel
theorem dX12_foodItem_73 : decode cX12_foodItem 73 = .ok (.lconst 1, 1) := by decide +kernel
theorem dX12_foodItem_74 : decode cX12_foodItem 74 = .ok (.ldc2_w 135, 3) := by decide +kernel
theorem dX12_foodItem_77 : decode cX12_foodItem 77 = .ok (.invokestatic 106, 3) := by decide +kernel
theorem dX12_foodItem_80 : decode cX12_foodItem 80 = .ok (.ifCond .eq 24, 3) := by decide +kernel
theorem dX12_foodItem_83 : decode cX12_foodItem 83 = .ok (.aload_n 0, 1) := by decide +kernel
theorem dX12_foodItem_84 : decode cX12_foodItem 84 = .ok (.getfield 94, 3) := by decide +kernel
theorem dX12_foodItem_87 : decode cX12_foodItem 87 = .ok (.iconst 4, 1) := by decide +kernel
theorem dX12_foodItem_88 : decode cX12_foodItem 88 = .ok (.iaload, 1) := by decide +kernel
theorem dX12_foodItem_89 : decode cX12_foodItem 89 = .ok (.bipush 99, 2) := by decide +kernel
theorem dX12_foodItem_91 : decode cX12_foodItem 91 = .ok (.if_icmp .gt 13, 3) := by decide +kernel
theorem dX12_foodItem_94 : decode cX12_foodItem 94 = .ok (.aload_n 0, 1) := by decide +kernel
theorem dX12_foodItem_95 : decode cX12_foodItem 95 = .ok (.getfield 94, 3) := by decide +kernel
theorem dX12_foodItem_98 : decode cX12_foodItem 98 = .ok (.iconst 5, 1) := by decide +kernel
theorem dX12_foodItem_99 : decode cX12_foodItem 99 = .ok (.iaload, 1) := by decide +kernel
theorem dX12_foodItem_100 : decode cX12_foodItem 100 = .ok (.iconst 3, 1) := by decide +kernel
theorem dX12_foodItem_101 : decode cX12_foodItem 101 = .ok (.if_icmp .le 5, 3) := by decide +kernel
theorem dX12_foodItem_104 : decode cX12_foodItem 104 = .ok (.iconst 0, 1) := by decide +kernel
theorem dX12_foodItem_105 : decode cX12_foodItem 105 = .ok (.ireturn, 1) := by decide +kernel
theorem dX12_foodItem_106 : decode cX12_foodItem 106 = .ok (.aload_n 0, 1) := by decide +kernel
theorem dX12_foodItem_107 : decode cX12_foodItem 107 = .ok (.getfield 31, 3) := by decide +kernel
theorem dX12_foodItem_110 : decode cX12_foodItem 110 = .ok (.iload_n 1, 1) := by decide +kernel
theorem dX12_foodItem_111 : decode cX12_foodItem 111 = .ok (.aload_n 0, 1) := by decide +kernel
theorem dX12_foodItem_112 : decode cX12_foodItem 112 = .ok (.getfield 94, 3) := by decide +kernel
theorem dX12_foodItem_115 : decode cX12_foodItem 115 = .ok (.iconst 0, 1) := by decide +kernel
theorem dX12_foodItem_116 : decode cX12_foodItem 116 = .ok (.iaload, 1) := by decide +kernel
theorem dX12_foodItem_117 : decode cX12_foodItem 117 = .ok (.iastore, 1) := by decide +kernel
theorem dX12_foodItem_118 : decode cX12_foodItem 118 = .ok (.aload_n 0, 1) := by decide +kernel
theorem dX12_foodItem_119 : decode cX12_foodItem 119 = .ok (.getfield 34, 3) := by decide +kernel
theorem dX12_foodItem_122 : decode cX12_foodItem 122 = .ok (.iload_n 1, 1) := by decide +kernel
theorem dX12_foodItem_123 : decode cX12_foodItem 123 = .ok (.aload_n 0, 1) := by decide +kernel
theorem dX12_foodItem_124 : decode cX12_foodItem 124 = .ok (.getfield 94, 3) := by decide +kernel
theorem dX12_foodItem_127 : decode cX12_foodItem 127 = .ok (.iconst 1, 1) := by decide +kernel
theorem dX12_foodItem_128 : decode cX12_foodItem 128 = .ok (.iaload, 1) := by decide +kernel
theorem dX12_foodItem_129 : decode cX12_foodItem 129 = .ok (.iastore, 1) := by decide +kernel
theorem dX12_foodItem_130 : decode cX12_foodItem 130 = .ok (.aload_n 0, 1) := by decide +kernel
theorem dX12_foodItem_131 : decode cX12_foodItem 131 = .ok (.getfield 37, 3) := by decide +kernel
theorem dX12_foodItem_134 : decode cX12_foodItem 134 = .ok (.iload_n 1, 1) := by decide +kernel
theorem dX12_foodItem_135 : decode cX12_foodItem 135 = .ok (.aload_n 0, 1) := by decide +kernel
theorem dX12_foodItem_136 : decode cX12_foodItem 136 = .ok (.getfield 94, 3) := by decide +kernel
theorem dX12_foodItem_139 : decode cX12_foodItem 139 = .ok (.iconst 2, 1) := by decide +kernel
theorem dX12_foodItem_140 : decode cX12_foodItem 140 = .ok (.iaload, 1) := by decide +kernel
theorem dX12_foodItem_141 : decode cX12_foodItem 141 = .ok (.iastore, 1) := by decide +kernel
theorem dX12_foodItem_142 : decode cX12_foodItem 142 = .ok (.aload_n 0, 1) := by decide +kernel
theorem dX12_foodItem_143 : decode cX12_foodItem 143 = .ok (.getfield 40, 3) := by decide +kernel
theorem dX12_foodItem_146 : decode cX12_foodItem 146 = .ok (.iload_n 1, 1) := by decide +kernel
theorem dX12_foodItem_147 : decode cX12_foodItem 147 = .ok (.aload_n 0, 1) := by decide +kernel
theorem dX12_foodItem_148 : decode cX12_foodItem 148 = .ok (.getfield 94, 3) := by decide +kernel
theorem dX12_foodItem_151 : decode cX12_foodItem 151 = .ok (.iconst 3, 1) := by decide +kernel
theorem dX12_foodItem_152 : decode cX12_foodItem 152 = .ok (.iaload, 1) := by decide +kernel
theorem dX12_foodItem_153 : decode cX12_foodItem 153 = .ok (.iastore, 1) := by decide +kernel
theorem dX12_foodItem_154 : decode cX12_foodItem 154 = .ok (.aload_n 0, 1) := by decide +kernel
theorem dX12_foodItem_155 : decode cX12_foodItem 155 = .ok (.getfield 43, 3) := by decide +kernel
theorem dX12_foodItem_158 : decode cX12_foodItem 158 = .ok (.iload_n 1, 1) := by decide +kernel
theorem dX12_foodItem_159 : decode cX12_foodItem 159 = .ok (.aload_n 0, 1) := by decide +kernel
theorem dX12_foodItem_160 : decode cX12_foodItem 160 = .ok (.getfield 94, 3) := by decide +kernel
theorem dX12_foodItem_163 : decode cX12_foodItem 163 = .ok (.iconst 4, 1) := by decide +kernel
theorem dX12_foodItem_164 : decode cX12_foodItem 164 = .ok (.iaload, 1) := by decide +kernel
theorem dX12_foodItem_165 : decode cX12_foodItem 165 = .ok (.iastore, 1) := by decide +kernel
theorem dX12_foodItem_166 : decode cX12_foodItem 166 = .ok (.aload_n 0, 1) := by decide +kernel
theorem dX12_foodItem_167 : decode cX12_foodItem 167 = .ok (.getfield 46, 3) := by decide +kernel
theorem dX12_foodItem_170 : decode cX12_foodItem 170 = .ok (.iload_n 1, 1) := by decide +kernel
theorem dX12_foodItem_171 : decode cX12_foodItem 171 = .ok (.aload_n 0, 1) := by decide +kernel
theorem dX12_foodItem_172 : decode cX12_foodItem 172 = .ok (.getfield 94, 3) := by decide +kernel
theorem dX12_foodItem_175 : decode cX12_foodItem 175 = .ok (.iconst 5, 1) := by decide +kernel
theorem dX12_foodItem_176 : decode cX12_foodItem 176 = .ok (.iaload, 1) := by decide +kernel
theorem dX12_foodItem_177 : decode cX12_foodItem 177 = .ok (.iastore, 1) := by decide +kernel
theorem dX12_foodItem_178 : decode cX12_foodItem 178 = .ok (.aload_n 0, 1) := by decide +kernel
theorem dX12_foodItem_179 : decode cX12_foodItem 179 = .ok (.getfield 28, 3) := by decide +kernel
theorem dX12_foodItem_182 : decode cX12_foodItem 182 = .ok (.iconst 1, 1) := by decide +kernel
theorem dX12_foodItem_183 : decode cX12_foodItem 183 = .ok (.dup2, 1) := by decide +kernel
theorem dX12_foodItem_184 : decode cX12_foodItem 184 = .ok (.iaload, 1) := by decide +kernel
theorem dX12_foodItem_185 : decode cX12_foodItem 185 = .ok (.iconst 1, 1) := by decide +kernel
theorem dX12_foodItem_186 : decode cX12_foodItem 186 = .ok (.iadd, 1) := by decide +kernel
theorem dX12_foodItem_187 : decode cX12_foodItem 187 = .ok (.iastore, 1) := by decide +kernel
theorem dX12_foodItem_188 : decode cX12_foodItem 188 = .ok (.iconst 1, 1) := by decide +kernel
theorem dX12_foodItem_189 : decode cX12_foodItem 189 = .ok (.ireturn, 1) := by decide +kernel
theorem dX12_item_0 : decode cX12_item 0 = .ok (.aload_n 0, 1) := by decide +kernel
theorem dX12_item_1 : decode cX12_item 1 = .ok (.aload_n 0, 1) := by decide +kernel
theorem dX12_item_2 : decode cX12_item 2 = .ok (.getfield 116, 3) := by decide +kernel
theorem dX12_item_5 : decode cX12_item 5 = .ok (.invokevirtual 119, 3) := by decide +kernel
theorem dX12_item_8 : decode cX12_item 8 = .ok (.istore_n 1, 1) := by decide +kernel
theorem dX12_item_9 : decode cX12_item 9 = .ok (.aload_n 0, 1) := by decide +kernel
theorem dX12_item_10 : decode cX12_item 10 = .ok (.dup, 1) := by decide +kernel
theorem dX12_item_11 : decode cX12_item 11 = .ok (.getfield 116, 3) := by decide +kernel
theorem dX12_item_14 : decode cX12_item 14 = .ok (.iconst 1, 1) := by decide +kernel
theorem dX12_item_15 : decode cX12_item 15 = .ok (.iadd, 1) := by decide +kernel
theorem dX12_item_16 : decode cX12_item 16 = .ok (.putfield 116, 3) := by decide +kernel
theorem dX12_item_19 : decode cX12_item 19 = .ok (.iload_n 1, 1) := by decide +kernel
theorem dX12_item_20 : decode cX12_item 20 = .ok (.tableswitch 473 98 115 #[369, 88, 138, 206, 93, 268, 473, 473, 473, 473, 473, 473, 473, 98, 473, 473, 473, 439], 88) := by decide +kernel
theorem dX12_item_108 : decode cX12_item 108 = .ok (.aload_n 0, 1) := by decide +kernel
theorem dX12_item_109 : decode cX12_item 109 = .ok (.invokevirtual 137, 3) := by decide +kernel
theorem dX12_item_112 : decode cX12_item 112 = .ok (.ireturn, 1) := by decide +kernel
theorem dX12_item_113 : decode cX12_item 113 = .ok (.aload_n 0, 1) := by decide +kernel
theorem dX12_item_114 : decode cX12_item 114 = .ok (.invokevirtual 141, 3) := by decide +kernel
theorem dX12_item_117 : decode cX12_item 117 = .ok (.ireturn, 1) := by decide +kernel
theorem dX12_item_118 : decode cX12_item 118 = .ok (.aload_n 0, 1) := by decide +kernel
theorem dX12_item_119 : decode cX12_item 119 = .ok (.iconst 1, 1) := by decide +kernel
theorem dX12_item_120 : decode cX12_item 120 = .ok (.invokevirtual 129, 3) := by decide +kernel
theorem dX12_item_123 : decode cX12_item 123 = .ok (.ifCond .eq 14, 3) := by decide +kernel
theorem dX12_item_126 : decode cX12_item 126 = .ok (.aload_n 0, 1) := by decide +kernel
theorem dX12_item_127 : decode cX12_item 127 = .ok (.getfield 94, 3) := by decide +kernel
theorem dX12_item_130 : decode cX12_item 130 = .ok (.iconst 0, 1) := by decide +kernel
theorem dX12_item_131 : decode cX12_item 131 = .ok (.iaload, 1) := by decide +kernel
theorem dX12_item_132 : decode cX12_item 132 = .ok (.bipush 23, 2) := by decide +kernel
theorem dX12_item_134 : decode cX12_item 134 = .ok (.if_icmp .le 5, 3) := by decide +kernel
theorem dX12_item_137 : decode cX12_item 137 = .ok (.iconst 0, 1) := by decide +kernel
theorem dX12_item_138 : decode cX12_item 138 = .ok (.ireturn, 1) := by decide +kernel
theorem dX12_item_139 : decode cX12_item 139 = .ok (.aload_n 0, 1) := by decide +kernel
theorem dX12_item_140 : decode cX12_item 140 = .ok (.getfield 25, 3) := by decide +kernel
theorem dX12_item_143 : decode cX12_item 143 = .ok (.iconst 1, 1) := by decide +kernel
theorem dX12_item_144 : decode cX12_item 144 = .ok (.dup2, 1) := by decide +kernel
theorem dX12_item_145 : decode cX12_item 145 = .ok (.iaload, 1) := by decide +kernel
theorem dX12_item_146 : decode cX12_item 146 = .ok (.iconst 1, 1) := by decide +kernel
theorem dX12_item_147 : decode cX12_item 147 = .ok (.aload_n 0, 1) := by decide +kernel
theorem dX12_item_148 : decode cX12_item 148 = .ok (.getfield 94, 3) := by decide +kernel
theorem dX12_item_151 : decode cX12_item 151 = .ok (.iconst 0, 1) := by decide +kernel
theorem dX12_item_152 : decode cX12_item 152 = .ok (.iaload, 1) := by decide +kernel
theorem dX12_item_153 : decode cX12_item 153 = .ok (.ishl, 1) := by decide +kernel
theorem dX12_item_154 : decode cX12_item 154 = .ok (.ior, 1) := by decide +kernel
theorem dX12_item_155 : decode cX12_item 155 = .ok (.iastore, 1) := by decide +kernel
theorem dX12_item_156 : decode cX12_item 156 = .ok (.iconst 1, 1) := by decide +kernel
theorem dX12_item_157 : decode cX12_item 157 = .ok (.ireturn, 1) := by decide +kernel
theorem dX12_item_158 : decode cX12_item 158 = .ok (.aload_n 0, 1) := by decide +kernel
theorem dX12_item_159 : decode cX12_item 159 = .ok (.iconst 1, 1) := by decide +kernel
theorem dX12_item_160 : decode cX12_item 160 = .ok (.invokevirtual 129, 3) := by decide +kernel
theorem dX12_item_163 : decode cX12_item 163 = .ok (.ifCond .eq 30, 3) := by decide +kernel
theorem dX12_item_166 : decode cX12_item 166 = .ok (.aload_n 0, 1) := by decide +kernel
theorem dX12_item_167 : decode cX12_item 167 = .ok (.getfield 49, 3) := by decide +kernel
theorem dX12_item_170 : decode cX12_item 170 = .ok (.iconst 1, 1) := by decide +kernel
theorem dX12_item_171 : decode cX12_item 171 = .ok (.iaload, 1) := by decide +kernel
theorem dX12_item_172 : decode cX12_item 172 = .ok (.iconst 5, 1) := by decide +kernel
theorem dX12_item_173 : decode cX12_item 173 = .ok (.if_icmp .eq 20, 3) := by decide +kernel
theorem dX12_item_176 : decode cX12_item 176 = .ok (.aload_n 0, 1) := by decide +kernel
theorem dX12_item_177 : decode cX12_item 177 = .ok (.getfield 94, 3) := by decide +kernel
theorem dX12_item_180 : decode cX12_item 180 = .ok (.iconst 0, 1) := by decide +kernel
theorem dX12_item_181 : decode cX12_item 181 = .ok (.iaload, 1) := by decide +kernel
theorem dX12_item_182 : decode cX12_item 182 = .ok (.i2l, 1) := by decide +kernel
theorem dX12_item_183 : decode cX12_item 183 = .ok (.lconst 1, 1) := by decide +kernel
theorem dX12_item_184 : decode cX12_item 184 = .ok (.ldc2_w 144, 3) := by decide +kernel
theorem dX12_item_187 : decode cX12_item 187 = .ok (.invokestatic 106, 3) := by decide +kernel
theorem dX12_item_190 : decode cX12_item 190 = .ok (.ifCond .ne 5, 3) := by decide +kernel
theorem dX12_item_193 : decode cX12_item 193 = .ok (.iconst 0, 1) := by decide +kernel
theorem dX12_item_194 : decode cX12_item 194 = .ok (.ireturn, 1) := by decide +kernel
theorem dX12_item_195 : decode cX12_item 195 = .ok (.aload_n 0, 1) := by decide +kernel
theorem dX12_item_196 : decode cX12_item 196 = .ok (.getfield 52, 3) := by decide +kernel
theorem dX12_item_199 : decode cX12_item 199 = .ok (.iconst 5, 1) := by decide +kernel
theorem dX12_item_200 : decode cX12_item 200 = .ok (.aload_n 0, 1) := by decide +kernel
theorem dX12_item_201 : decode cX12_item 201 = .ok (.getfield 49, 3) := by decide +kernel
theorem dX12_item_204 : decode cX12_item 204 = .ok (.iconst 1, 1) := by decide +kernel
theorem dX12_item_205 : decode cX12_item 205 = .ok (.iaload, 1) := by decide +kernel
theorem dX12_item_206 : decode cX12_item 206 = .ok (.iadd, 1) := by decide +kernel
theorem dX12_item_207 : decode cX12_item 207 = .ok (.aload_n 0, 1) := by decide +kernel
theorem dX12_item_208 : decode cX12_item 208 = .ok (.getfield 94, 3) := by decide +kernel
theorem dX12_item_211 : decode cX12_item 211 = .ok (.iconst 0, 1) := by decide +kernel
theorem dX12_item_212 : decode cX12_item 212 = .ok (.iaload, 1) := by decide +kernel
theorem dX12_item_213 : decode cX12_item 213 = .ok (.iastore, 1) := by decide +kernel
theorem dX12_item_214 : decode cX12_item 214 = .ok (.aload_n 0, 1) := by decide +kernel
theorem dX12_item_215 : decode cX12_item 215 = .ok (.getfield 49, 3) := by decide +kernel
theorem dX12_item_218 : decode cX12_item 218 = .ok (.iconst 1, 1) := by decide +kernel
theorem dX12_item_219 : decode cX12_item 219 = .ok (.dup2, 1) := by decide +kernel
theorem dX12_item_220 : decode cX12_item 220 = .ok (.iaload, 1) := by decide +kernel
theorem dX12_item_221 : decode cX12_item 221 = .ok (.iconst 1, 1) := by decide +kernel
theorem dX12_item_222 : decode cX12_item 222 = .ok (.iadd, 1) := by decide +kernel
theorem dX12_item_223 : decode cX12_item 223 = .ok (.iastore, 1) := by decide +kernel
theorem dX12_item_224 : decode cX12_item 224 = .ok (.iconst 1, 1) := by decide +kernel
theorem dX12_item_225 : decode cX12_item 225 = .ok (.ireturn, 1) := by decide +kernel
theorem dX12_item_226 : decode cX12_item 226 = .ok (.aload_n 0, 1) := by decide +kernel
theorem dX12_item_227 : decode cX12_item 227 = .ok (.iconst 1, 1) := by decide +kernel
theorem dX12_item_228 : decode cX12_item 228 = .ok (.invokevirtual 129, 3) := by decide +kernel
theorem dX12_item_231 : decode cX12_item 231 = .ok (.ifCond .eq 24, 3) := by decide +kernel
theorem dX12_item_234 : decode cX12_item 234 = .ok (.aload_n 0, 1) := by decide +kernel
theorem dX12_item_235 : decode cX12_item 235 = .ok (.getfield 55, 3) := by decide +kernel
theorem dX12_item_238 : decode cX12_item 238 = .ok (.iconst 1, 1) := by decide +kernel
theorem dX12_item_239 : decode cX12_item 239 = .ok (.iaload, 1) := by decide +kernel
theorem dX12_item_240 : decode cX12_item 240 = .ok (.iconst 4, 1) := by decide +kernel
theorem dX12_item_241 : decode cX12_item 241 = .ok (.if_icmp .eq 14, 3) := by decide +kernel
theorem dX12_item_244 : decode cX12_item 244 = .ok (.aload_n 0, 1) := by decide +kernel
theorem dX12_item_245 : decode cX12_item 245 = .ok (.getfield 94, 3) := by decide +kernel
theorem dX12_item_248 : decode cX12_item 248 = .ok (.iconst 0, 1) := by decide +kernel
theorem dX12_item_249 : decode cX12_item 249 = .ok (.iaload, 1) := by decide +kernel
theorem dX12_item_250 : decode cX12_item 250 = .ok (.bipush 15, 2) := by decide +kernel
theorem dX12_item_252 : decode cX12_item 252 = .ok (.if_icmp .le 5, 3) := by decide +kernel
theorem dX12_item_255 : decode cX12_item 255 = .ok (.iconst 0, 1) := by decide +kernel
theorem dX12_item_256 : decode cX12_item 256 = .ok (.ireturn, 1) := by decide +kernel
theorem dX12_item_257 : decode cX12_item 257 = .ok (.aload_n 0, 1) := by decide +kernel
theorem dX12_item_258 : decode cX12_item 258 = .ok (.getfield 58, 3) := by decide +kernel
theorem dX12_item_261 : decode cX12_item 261 = .ok (.iconst 4, 1) := by decide +kernel
theorem dX12_item_262 : decode cX12_item 262 = .ok (.aload_n 0, 1) := by decide +kernel
theorem dX12_item_263 : decode cX12_item 263 = .ok (.getfield 55, 3) := by decide +kernel
theorem dX12_item_266 : decode cX12_item 266 = .ok (.iconst 1, 1) := by decide +kernel
theorem dX12_item_267 : decode cX12_item 267 = .ok (.iaload, 1) := by decide +kernel
theorem dX12_item_268 : decode cX12_item 268 = .ok (.iadd, 1) := by decide +kernel
theorem dX12_item_269 : decode cX12_item 269 = .ok (.aload_n 0, 1) := by decide +kernel
theorem dX12_item_270 : decode cX12_item 270 = .ok (.getfield 94, 3) := by decide +kernel
theorem dX12_item_273 : decode cX12_item 273 = .ok (.iconst 0, 1) := by decide +kernel
theorem dX12_item_274 : decode cX12_item 274 = .ok (.iaload, 1) := by decide +kernel
theorem dX12_item_275 : decode cX12_item 275 = .ok (.iastore, 1) := by decide +kernel
theorem dX12_item_276 : decode cX12_item 276 = .ok (.aload_n 0, 1) := by decide +kernel
theorem dX12_item_277 : decode cX12_item 277 = .ok (.getfield 55, 3) := by decide +kernel
theorem dX12_item_280 : decode cX12_item 280 = .ok (.iconst 1, 1) := by decide +kernel
theorem dX12_item_281 : decode cX12_item 281 = .ok (.dup2, 1) := by decide +kernel
theorem dX12_item_282 : decode cX12_item 282 = .ok (.iaload, 1) := by decide +kernel
theorem dX12_item_283 : decode cX12_item 283 = .ok (.iconst 1, 1) := by decide +kernel
theorem dX12_item_284 : decode cX12_item 284 = .ok (.iadd, 1) := by decide +kernel
theorem dX12_item_285 : decode cX12_item 285 = .ok (.iastore, 1) := by decide +kernel
theorem dX12_item_286 : decode cX12_item 286 = .ok (.iconst 1, 1) := by decide +kernel
theorem dX12_item_287 : decode cX12_item 287 = .ok (.ireturn, 1) := by decide +kernel
theorem dX12_item_288 : decode cX12_item 288 = .ok (.aload_n 0, 1) := by decide +kernel
theorem dX12_item_289 : decode cX12_item 289 = .ok (.iconst 2, 1) := by decide +kernel
theorem dX12_item_290 : decode cX12_item 290 = .ok (.invokevirtual 129, 3) := by decide +kernel
theorem dX12_item_293 : decode cX12_item 293 = .ok (.ifCond .eq 42, 3) := by decide +kernel
theorem dX12_item_296 : decode cX12_item 296 = .ok (.aload_n 0, 1) := by decide +kernel
theorem dX12_item_297 : decode cX12_item 297 = .ok (.getfield 61, 3) := by decide +kernel
theorem dX12_item_300 : decode cX12_item 300 = .ok (.iconst 1, 1) := by decide +kernel
theorem dX12_item_301 : decode cX12_item 301 = .ok (.iaload, 1) := by decide +kernel
theorem dX12_item_302 : decode cX12_item 302 = .ok (.bipush 6, 2) := by decide +kernel
theorem dX12_item_304 : decode cX12_item 304 = .ok (.if_icmp .eq 31, 3) := by decide +kernel
theorem dX12_item_307 : decode cX12_item 307 = .ok (.aload_n 0, 1) := by decide +kernel
theorem dX12_item_308 : decode cX12_item 308 = .ok (.getfield 94, 3) := by decide +kernel
theorem dX12_item_311 : decode cX12_item 311 = .ok (.iconst 0, 1) := by decide +kernel
theorem dX12_item_312 : decode cX12_item 312 = .ok (.iaload, 1) := by decide +kernel
theorem dX12_item_313 : decode cX12_item 313 = .ok (.bipush 9, 2) := by decide +kernel
theorem dX12_item_315 : decode cX12_item 315 = .ok (.if_icmp .gt 20, 3) := by decide +kernel
theorem dX12_item_318 : decode cX12_item 318 = .ok (.aload_n 0, 1) := by decide +kernel
theorem dX12_item_319 : decode cX12_item 319 = .ok (.getfield 94, 3) := by decide +kernel
theorem dX12_item_322 : decode cX12_item 322 = .ok (.iconst 1, 1) := by decide +kernel
theorem dX12_item_323 : decode cX12_item 323 = .ok (.iaload, 1) := by decide +kernel
theorem dX12_item_324 : decode cX12_item 324 = .ok (.i2l, 1) := by decide +kernel
theorem dX12_item_325 : decode cX12_item 325 = .ok (.lconst 1, 1) := by decide +kernel
theorem dX12_item_326 : decode cX12_item 326 = .ok (.ldc2_w 146, 3) := by decide +kernel
theorem dX12_item_329 : decode cX12_item 329 = .ok (.invokestatic 106, 3) := by decide +kernel
theorem dX12_item_332 : decode cX12_item 332 = .ok (.ifCond .ne 5, 3) := by decide +kernel
theorem dX12_item_335 : decode cX12_item 335 = .ok (.iconst 0, 1) := by decide +kernel
theorem dX12_item_336 : decode cX12_item 336 = .ok (.ireturn, 1) := by decide +kernel
theorem dX12_item_337 : decode cX12_item 337 = .ok (.aload_n 0, 1) := by decide +kernel
theorem dX12_item_338 : decode cX12_item 338 = .ok (.getfield 64, 3) := by decide +kernel
theorem dX12_item_341 : decode cX12_item 341 = .ok (.bipush 6, 2) := by decide +kernel
theorem dX12_item_343 : decode cX12_item 343 = .ok (.aload_n 0, 1) := by decide +kernel
theorem dX12_item_344 : decode cX12_item 344 = .ok (.getfield 61, 3) := by decide +kernel
theorem dX12_item_347 : decode cX12_item 347 = .ok (.iconst 1, 1) := by decide +kernel
theorem dX12_item_348 : decode cX12_item 348 = .ok (.iaload, 1) := by decide +kernel
theorem dX12_item_349 : decode cX12_item 349 = .ok (.iadd, 1) := by decide +kernel
theorem dX12_item_350 : decode cX12_item 350 = .ok (.aload_n 0, 1) := by decide +kernel
theorem dX12_item_351 : decode cX12_item 351 = .ok (.getfield 94, 3) := by decide +kernel
theorem dX12_item_354 : decode cX12_item 354 = .ok (.iconst 0, 1) := by decide +kernel
theorem dX12_item_355 : decode cX12_item 355 = .ok (.iaload, 1) := by decide +kernel
theorem dX12_item_356 : decode cX12_item 356 = .ok (.iastore, 1) := by decide +kernel
theorem dX12_item_357 : decode cX12_item 357 = .ok (.aload_n 0, 1) := by decide +kernel
theorem dX12_item_358 : decode cX12_item 358 = .ok (.getfield 67, 3) := by decide +kernel
theorem dX12_item_361 : decode cX12_item 361 = .ok (.bipush 6, 2) := by decide +kernel
theorem dX12_item_363 : decode cX12_item 363 = .ok (.aload_n 0, 1) := by decide +kernel
theorem dX12_item_364 : decode cX12_item 364 = .ok (.getfield 61, 3) := by decide +kernel
theorem dX12_item_367 : decode cX12_item 367 = .ok (.iconst 1, 1) := by decide +kernel
theorem dX12_item_368 : decode cX12_item 368 = .ok (.iaload, 1) := by decide +kernel
theorem dX12_item_369 : decode cX12_item 369 = .ok (.iadd, 1) := by decide +kernel
theorem dX12_item_370 : decode cX12_item 370 = .ok (.aload_n 0, 1) := by decide +kernel
theorem dX12_item_371 : decode cX12_item 371 = .ok (.getfield 94, 3) := by decide +kernel
theorem dX12_item_374 : decode cX12_item 374 = .ok (.iconst 1, 1) := by decide +kernel
theorem dX12_item_375 : decode cX12_item 375 = .ok (.iaload, 1) := by decide +kernel
theorem dX12_item_376 : decode cX12_item 376 = .ok (.iastore, 1) := by decide +kernel
theorem dX12_item_377 : decode cX12_item 377 = .ok (.aload_n 0, 1) := by decide +kernel
theorem dX12_item_378 : decode cX12_item 378 = .ok (.getfield 61, 3) := by decide +kernel
theorem dX12_item_381 : decode cX12_item 381 = .ok (.iconst 1, 1) := by decide +kernel
theorem dX12_item_382 : decode cX12_item 382 = .ok (.dup2, 1) := by decide +kernel
theorem dX12_item_383 : decode cX12_item 383 = .ok (.iaload, 1) := by decide +kernel
theorem dX12_item_384 : decode cX12_item 384 = .ok (.iconst 1, 1) := by decide +kernel
theorem dX12_item_385 : decode cX12_item 385 = .ok (.iadd, 1) := by decide +kernel
theorem dX12_item_386 : decode cX12_item 386 = .ok (.iastore, 1) := by decide +kernel
theorem dX12_item_387 : decode cX12_item 387 = .ok (.iconst 1, 1) := by decide +kernel
theorem dX12_item_388 : decode cX12_item 388 = .ok (.ireturn, 1) := by decide +kernel
theorem dX12_item_389 : decode cX12_item 389 = .ok (.aload_n 0, 1) := by decide +kernel
theorem dX12_item_390 : decode cX12_item 390 = .ok (.iconst 2, 1) := by decide +kernel
theorem dX12_item_391 : decode cX12_item 391 = .ok (.invokevirtual 129, 3) := by decide +kernel
theorem dX12_item_394 : decode cX12_item 394 = .ok (.ifCond .eq 37, 3) := by decide +kernel
theorem dX12_item_397 : decode cX12_item 397 = .ok (.aload_n 0, 1) := by decide +kernel
theorem dX12_item_398 : decode cX12_item 398 = .ok (.getfield 94, 3) := by decide +kernel
theorem dX12_item_401 : decode cX12_item 401 = .ok (.iconst 0, 1) := by decide +kernel
theorem dX12_item_402 : decode cX12_item 402 = .ok (.iaload, 1) := by decide +kernel
theorem dX12_item_403 : decode cX12_item 403 = .ok (.i2l, 1) := by decide +kernel
theorem dX12_item_404 : decode cX12_item 404 = .ok (.lconst 1, 1) := by decide +kernel
theorem dX12_item_405 : decode cX12_item 405 = .ok (.ldc2_w 146, 3) := by decide +kernel
theorem dX12_item_408 : decode cX12_item 408 = .ok (.invokestatic 106, 3) := by decide +kernel
theorem dX12_item_411 : decode cX12_item 411 = .ok (.ifCond .eq 20, 3) := by decide +kernel
theorem dX12_item_414 : decode cX12_item 414 = .ok (.aload_n 0, 1) := by decide +kernel
theorem dX12_item_415 : decode cX12_item 415 = .ok (.getfield 94, 3) := by decide +kernel
theorem dX12_item_418 : decode cX12_item 418 = .ok (.iconst 1, 1) := by decide +kernel
theorem dX12_item_419 : decode cX12_item 419 = .ok (.iaload, 1) := by decide +kernel
theorem dX12_item_420 : decode cX12_item 420 = .ok (.i2l, 1) := by decide +kernel
theorem dX12_item_421 : decode cX12_item 421 = .ok (.lconst 1, 1) := by decide +kernel
theorem dX12_item_422 : decode cX12_item 422 = .ok (.ldc2_w 148, 3) := by decide +kernel
theorem dX12_item_425 : decode cX12_item 425 = .ok (.invokestatic 106, 3) := by decide +kernel
theorem dX12_item_428 : decode cX12_item 428 = .ok (.ifCond .ne 5, 3) := by decide +kernel
theorem dX12_item_431 : decode cX12_item 431 = .ok (.iconst 0, 1) := by decide +kernel
theorem dX12_item_432 : decode cX12_item 432 = .ok (.ireturn, 1) := by decide +kernel
theorem dX12_item_433 : decode cX12_item 433 = .ok (.aload_n 0, 1) := by decide +kernel
theorem dX12_item_434 : decode cX12_item 434 = .ok (.getfield 70, 3) := by decide +kernel
theorem dX12_item_437 : decode cX12_item 437 = .ok (.iconst 3, 1) := by decide +kernel
theorem dX12_item_438 : decode cX12_item 438 = .ok (.aload_n 0, 1) := by decide +kernel
theorem dX12_item_439 : decode cX12_item 439 = .ok (.getfield 94, 3) := by decide +kernel
theorem dX12_item_442 : decode cX12_item 442 = .ok (.iconst 0, 1) := by decide +kernel
theorem dX12_item_443 : decode cX12_item 443 = .ok (.iaload, 1) := by decide +kernel
theorem dX12_item_444 : decode cX12_item 444 = .ok (.iastore, 1) := by decide +kernel
theorem dX12_item_445 : decode cX12_item 445 = .ok (.aload_n 0, 1) := by decide +kernel
theorem dX12_item_446 : decode cX12_item 446 = .ok (.getfield 70, 3) := by decide +kernel
theorem dX12_item_449 : decode cX12_item 449 = .ok (.iconst 4, 1) := by decide +kernel
theorem dX12_item_450 : decode cX12_item 450 = .ok (.aload_n 0, 1) := by decide +kernel
theorem dX12_item_451 : decode cX12_item 451 = .ok (.getfield 94, 3) := by decide +kernel
theorem dX12_item_454 : decode cX12_item 454 = .ok (.iconst 1, 1) := by decide +kernel
theorem dX12_item_455 : decode cX12_item 455 = .ok (.iaload, 1) := by decide +kernel
theorem dX12_item_456 : decode cX12_item 456 = .ok (.iastore, 1) := by decide +kernel
theorem dX12_item_457 : decode cX12_item 457 = .ok (.iconst 1, 1) := by decide +kernel
theorem dX12_item_458 : decode cX12_item 458 = .ok (.ireturn, 1) := by decide +kernel
theorem dX12_item_459 : decode cX12_item 459 = .ok (.aload_n 0, 1) := by decide +kernel
theorem dX12_item_460 : decode cX12_item 460 = .ok (.iconst 1, 1) := by decide +kernel
theorem dX12_item_461 : decode cX12_item 461 = .ok (.invokevirtual 129, 3) := by decide +kernel
theorem dX12_item_464 : decode cX12_item 464 = .ok (.ifCond .eq 13, 3) := by decide +kernel
theorem dX12_item_467 : decode cX12_item 467 = .ok (.aload_n 0, 1) := by decide +kernel
theorem dX12_item_468 : decode cX12_item 468 = .ok (.getfield 94, 3) := by decide +kernel
theorem dX12_item_471 : decode cX12_item 471 = .ok (.iconst 0, 1) := by decide +kernel
theorem dX12_item_472 : decode cX12_item 472 = .ok (.iaload, 1) := by decide +kernel
theorem dX12_item_473 : decode cX12_item 473 = .ok (.iconst 4, 1) := by decide +kernel
theorem dX12_item_474 : decode cX12_item 474 = .ok (.if_icmp .le 5, 3) := by decide +kernel
theorem dX12_item_477 : decode cX12_item 477 = .ok (.iconst 0, 1) := by decide +kernel
theorem dX12_item_478 : decode cX12_item 478 = .ok (.ireturn, 1) := by decide +kernel
theorem dX12_item_479 : decode cX12_item 479 = .ok (.aload_n 0, 1) := by decide +kernel
theorem dX12_item_480 : decode cX12_item 480 = .ok (.getfield 70, 3) := by decide +kernel
theorem dX12_item_483 : decode cX12_item 483 = .ok (.iconst 5, 1) := by decide +kernel
theorem dX12_item_484 : decode cX12_item 484 = .ok (.aload_n 0, 1) := by decide +kernel
theorem dX12_item_485 : decode cX12_item 485 = .ok (.getfield 94, 3) := by decide +kernel
theorem dX12_item_488 : decode cX12_item 488 = .ok (.iconst 0, 1) := by decide +kernel
theorem dX12_item_489 : decode cX12_item 489 = .ok (.iaload, 1) := by decide +kernel
theorem dX12_item_490 : decode cX12_item 490 = .ok (.iastore, 1) := by decide +kernel
theorem dX12_item_491 : decode cX12_item 491 = .ok (.iconst 1, 1) := by decide +kernel
theorem dX12_item_492 : decode cX12_item 492 = .ok (.ireturn, 1) := by decide +kernel
theorem dX12_item_493 : decode cX12_item 493 = .ok (.iconst 0, 1) := by decide +kernel
theorem dX12_item_494 : decode cX12_item 494 = .ok (.ireturn, 1) := by decide +kernel
theorem dX12_readAll_0 : decode cX12_readAll 0 = .ok (.aload_n 0, 1) := by decide +kernel
theorem dX12_readAll_1 : decode cX12_readAll 1 = .ok (.iconst 1, 1) := by decide +kernel
theorem dX12_readAll_2 : decode cX12_readAll 2 = .ok (.invokevirtual 97, 3) := by decide +kernel
theorem dX12_readAll_5 : decode cX12_readAll 5 = .ok (.aload_n 0, 1) := by decide +kernel
theorem dX12_readAll_6 : decode cX12_readAll 6 = .ok (.iconst 0, 1) := by decide +kernel
theorem dX12_readAll_7 : decode cX12_readAll 7 = .ok (.putfield 116, 3) := by decide +kernel
theorem dX12_readAll_10 : decode cX12_readAll 10 = .ok (.aload_n 0, 1) := by decide +kernel
theorem dX12_readAll_11 : decode cX12_readAll 11 = .ok (.getfield 116, 3) := by decide +kernel
theorem dX12_readAll_14 : decode cX12_readAll 14 = .ok (.aload_n 0, 1) := by decide +kernel
theorem dX12_readAll_15 : decode cX12_readAll 15 = .ok (.getfield 110, 3) := by decide +kernel
theorem dX12_readAll_18 : decode cX12_readAll 18 = .ok (.if_icmp .ge 20, 3) := by decide +kernel
theorem dX12_readAll_21 : decode cX12_readAll 21 = .ok (.aload_n 0, 1) := by decide +kernel
theorem dX12_readAll_22 : decode cX12_readAll 22 = .ok (.getfield 116, 3) := by decide +kernel
theorem dX12_readAll_25 : decode cX12_readAll 25 = .ok (.istore_n 1, 1) := by decide +kernel
theorem dX12_readAll_26 : decode cX12_readAll 26 = .ok (.aload_n 0, 1) := by decide +kernel
theorem dX12_readAll_27 : decode cX12_readAll 27 = .ok (.invokevirtual 150, 3) := by decide +kernel
theorem dX12_readAll_30 : decode cX12_readAll 30 = .ok (.ifCond .ne 5, 3) := by decide +kernel
theorem dX12_readAll_33 : decode cX12_readAll 33 = .ok (.iload_n 1, 1) := by decide +kernel
theorem dX12_readAll_34 : decode cX12_readAll 34 = .ok (.ireturn, 1) := by decide +kernel
theorem dX12_readAll_35 : decode cX12_readAll 35 = .ok (.goto (-25), 3) := by decide +kernel
theorem dX12_readAll_38 : decode cX12_readAll 38 = .ok (.bipush (-4), 2) := by decide +kernel
theorem dX12_readAll_40 : decode cX12_readAll 40 = .ok (.ireturn, 1) := by decide +kernel
theorem dX12_fault_0 : decode cX12_fault 0 = .ok (.aload_n 0, 1) := by decide +kernel
theorem dX12_fault_1 : decode cX12_fault 1 = .ok (.invokevirtual 153, 3) := by decide +kernel
theorem dX12_fault_4 : decode cX12_fault 4 = .ok (.ireturn, 1) := by decide +kernel
theorem dX12_isRoomy_0 : decode cX12_isRoomy 0 = .ok (.iconst 1, 1) := by decide +kernel
theorem dX12_isRoomy_1 : decode cX12_isRoomy 1 = .ok (.istore_n 1, 1) := by decide +kernel
theorem dX12_isRoomy_2 : decode cX12_isRoomy 2 = .ok (.iconst 0, 1) := by decide +kernel
theorem dX12_isRoomy_3 : decode cX12_isRoomy 3 = .ok (.istore_n 2, 1) := by decide +kernel
theorem dX12_isRoomy_4 : decode cX12_isRoomy 4 = .ok (.iload_n 2, 1) := by decide +kernel
theorem dX12_isRoomy_5 : decode cX12_isRoomy 5 = .ok (.aload_n 0, 1) := by decide +kernel
theorem dX12_isRoomy_6 : decode cX12_isRoomy 6 = .ok (.getfield 13, 3) := by decide +kernel
theorem dX12_isRoomy_9 : decode cX12_isRoomy 9 = .ok (.iconst 1, 1) := by decide +kernel
theorem dX12_isRoomy_10 : decode cX12_isRoomy 10 = .ok (.iaload, 1) := by decide +kernel
theorem dX12_isRoomy_11 : decode cX12_isRoomy 11 = .ok (.if_icmp .ge 76, 3) := by decide +kernel
theorem dX12_isRoomy_14 : decode cX12_isRoomy 14 = .ok (.iconst 0, 1) := by decide +kernel
theorem dX12_isRoomy_15 : decode cX12_isRoomy 15 = .ok (.istore_n 3, 1) := by decide +kernel
theorem dX12_isRoomy_16 : decode cX12_isRoomy 16 = .ok (.iconst 0, 1) := by decide +kernel
theorem dX12_isRoomy_17 : decode cX12_isRoomy 17 = .ok (.istore 4, 2) := by decide +kernel
theorem dX12_isRoomy_19 : decode cX12_isRoomy 19 = .ok (.iload 4, 2) := by decide +kernel
theorem dX12_isRoomy_21 : decode cX12_isRoomy 21 = .ok (.aload_n 0, 1) := by decide +kernel
theorem dX12_isRoomy_22 : decode cX12_isRoomy 22 = .ok (.getfield 28, 3) := by decide +kernel
theorem dX12_isRoomy_25 : decode cX12_isRoomy 25 = .ok (.iconst 1, 1) := by decide +kernel
theorem dX12_isRoomy_26 : decode cX12_isRoomy 26 = .ok (.iaload, 1) := by decide +kernel
theorem dX12_isRoomy_27 : decode cX12_isRoomy 27 = .ok (.if_icmp .ge 31, 3) := by decide +kernel
theorem dX12_isRoomy_30 : decode cX12_isRoomy 30 = .ok (.iload_n 3, 1) := by decide +kernel
theorem dX12_isRoomy_31 : decode cX12_isRoomy 31 = .ok (.aload_n 0, 1) := by decide +kernel
theorem dX12_isRoomy_32 : decode cX12_isRoomy 32 = .ok (.getfield 34, 3) := by decide +kernel
theorem dX12_isRoomy_35 : decode cX12_isRoomy 35 = .ok (.bipush 10, 2) := by decide +kernel
theorem dX12_isRoomy_37 : decode cX12_isRoomy 37 = .ok (.iload 4, 2) := by decide +kernel
theorem dX12_isRoomy_39 : decode cX12_isRoomy 39 = .ok (.iadd, 1) := by decide +kernel
theorem dX12_isRoomy_40 : decode cX12_isRoomy 40 = .ok (.iaload, 1) := by decide +kernel
theorem dX12_isRoomy_41 : decode cX12_isRoomy 41 = .ok (.iload_n 2, 1) := by decide +kernel
theorem dX12_isRoomy_42 : decode cX12_isRoomy 42 = .ok (.if_icmp .ne 7, 3) := by decide +kernel
theorem dX12_isRoomy_45 : decode cX12_isRoomy 45 = .ok (.iconst 1, 1) := by decide +kernel
theorem dX12_isRoomy_46 : decode cX12_isRoomy 46 = .ok (.goto 4, 3) := by decide +kernel
theorem dX12_isRoomy_49 : decode cX12_isRoomy 49 = .ok (.iconst 0, 1) := by decide +kernel
theorem dX12_isRoomy_50 : decode cX12_isRoomy 50 = .ok (.iadd, 1) := by decide +kernel
theorem dX12_isRoomy_51 : decode cX12_isRoomy 51 = .ok (.istore_n 3, 1) := by decide +kernel
theorem dX12_isRoomy_52 : decode cX12_isRoomy 52 = .ok (.iinc 4 1, 3) := by decide +kernel
theorem dX12_isRoomy_55 : decode cX12_isRoomy 55 = .ok (.goto (-36), 3) := by decide +kernel
theorem dX12_isRoomy_58 : decode cX12_isRoomy 58 = .ok (.iload_n 1, 1) := by decide +kernel
theorem dX12_isRoomy_59 : decode cX12_isRoomy 59 = .ok (.ifCond .eq 20, 3) := by decide +kernel
theorem dX12_isRoomy_62 : decode cX12_isRoomy 62 = .ok (.iload_n 3, 1) := by decide +kernel
theorem dX12_isRoomy_63 : decode cX12_isRoomy 63 = .ok (.aload_n 0, 1) := by decide +kernel
theorem dX12_isRoomy_64 : decode cX12_isRoomy 64 = .ok (.getfield 22, 3) := by decide +kernel
theorem dX12_isRoomy_67 : decode cX12_isRoomy 67 = .ok (.bipush 6, 2) := by decide +kernel
theorem dX12_isRoomy_69 : decode cX12_isRoomy 69 = .ok (.iload_n 2, 1) := by decide +kernel
theorem dX12_isRoomy_70 : decode cX12_isRoomy 70 = .ok (.iadd, 1) := by decide +kernel
theorem dX12_isRoomy_71 : decode cX12_isRoomy 71 = .ok (.iaload, 1) := by decide +kernel
theorem dX12_isRoomy_72 : decode cX12_isRoomy 72 = .ok (.if_icmp .gt 7, 3) := by decide +kernel
theorem dX12_isRoomy_75 : decode cX12_isRoomy 75 = .ok (.iconst 1, 1) := by decide +kernel
theorem dX12_isRoomy_76 : decode cX12_isRoomy 76 = .ok (.goto 4, 3) := by decide +kernel
theorem dX12_isRoomy_79 : decode cX12_isRoomy 79 = .ok (.iconst 0, 1) := by decide +kernel
theorem dX12_isRoomy_80 : decode cX12_isRoomy 80 = .ok (.istore_n 1, 1) := by decide +kernel
theorem dX12_isRoomy_81 : decode cX12_isRoomy 81 = .ok (.iinc 2 1, 3) := by decide +kernel
theorem dX12_isRoomy_84 : decode cX12_isRoomy 84 = .ok (.goto (-80), 3) := by decide +kernel
theorem dX12_isRoomy_87 : decode cX12_isRoomy 87 = .ok (.iload_n 1, 1) := by decide +kernel
theorem dX12_isRoomy_88 : decode cX12_isRoomy 88 = .ok (.ireturn, 1) := by decide +kernel
theorem dX12_layFridge_0 : decode cX12_layFridge 0 = .ok (.iconst 0, 1) := by decide +kernel
theorem dX12_layFridge_1 : decode cX12_layFridge 1 = .ok (.istore_n 1, 1) := by decide +kernel
theorem dX12_layFridge_2 : decode cX12_layFridge 2 = .ok (.iload_n 1, 1) := by decide +kernel
theorem dX12_layFridge_3 : decode cX12_layFridge 3 = .ok (.bipush 10, 2) := by decide +kernel
theorem dX12_layFridge_5 : decode cX12_layFridge 5 = .ok (.if_icmp .ge 68, 3) := by decide +kernel
theorem dX12_layFridge_8 : decode cX12_layFridge 8 = .ok (.aload_n 0, 1) := by decide +kernel
theorem dX12_layFridge_9 : decode cX12_layFridge 9 = .ok (.getfield 73, 3) := by decide +kernel
theorem dX12_layFridge_12 : decode cX12_layFridge 12 = .ok (.iload_n 1, 1) := by decide +kernel
theorem dX12_layFridge_13 : decode cX12_layFridge 13 = .ok (.aload_n 0, 1) := by decide +kernel
theorem dX12_layFridge_14 : decode cX12_layFridge 14 = .ok (.getfield 31, 3) := by decide +kernel
theorem dX12_layFridge_17 : decode cX12_layFridge 17 = .ok (.iload_n 1, 1) := by decide +kernel
theorem dX12_layFridge_18 : decode cX12_layFridge 18 = .ok (.iaload, 1) := by decide +kernel
theorem dX12_layFridge_19 : decode cX12_layFridge 19 = .ok (.iastore, 1) := by decide +kernel
theorem dX12_layFridge_20 : decode cX12_layFridge 20 = .ok (.aload_n 0, 1) := by decide +kernel
theorem dX12_layFridge_21 : decode cX12_layFridge 21 = .ok (.getfield 76, 3) := by decide +kernel
theorem dX12_layFridge_24 : decode cX12_layFridge 24 = .ok (.iload_n 1, 1) := by decide +kernel
theorem dX12_layFridge_25 : decode cX12_layFridge 25 = .ok (.aload_n 0, 1) := by decide +kernel
theorem dX12_layFridge_26 : decode cX12_layFridge 26 = .ok (.getfield 34, 3) := by decide +kernel
theorem dX12_layFridge_29 : decode cX12_layFridge 29 = .ok (.iload_n 1, 1) := by decide +kernel
theorem dX12_layFridge_30 : decode cX12_layFridge 30 = .ok (.iaload, 1) := by decide +kernel
theorem dX12_layFridge_31 : decode cX12_layFridge 31 = .ok (.iastore, 1) := by decide +kernel
theorem dX12_layFridge_32 : decode cX12_layFridge 32 = .ok (.aload_n 0, 1) := by decide +kernel
theorem dX12_layFridge_33 : decode cX12_layFridge 33 = .ok (.getfield 79, 3) := by decide +kernel
theorem dX12_layFridge_36 : decode cX12_layFridge 36 = .ok (.iload_n 1, 1) := by decide +kernel
theorem dX12_layFridge_37 : decode cX12_layFridge 37 = .ok (.iconst 0, 1) := by decide +kernel
theorem dX12_layFridge_38 : decode cX12_layFridge 38 = .ok (.iastore, 1) := by decide +kernel
theorem dX12_layFridge_39 : decode cX12_layFridge 39 = .ok (.aload_n 0, 1) := by decide +kernel
theorem dX12_layFridge_40 : decode cX12_layFridge 40 = .ok (.getfield 82, 3) := by decide +kernel
theorem dX12_layFridge_43 : decode cX12_layFridge 43 = .ok (.iload_n 1, 1) := by decide +kernel
theorem dX12_layFridge_44 : decode cX12_layFridge 44 = .ok (.iload_n 1, 1) := by decide +kernel
theorem dX12_layFridge_45 : decode cX12_layFridge 45 = .ok (.aload_n 0, 1) := by decide +kernel
theorem dX12_layFridge_46 : decode cX12_layFridge 46 = .ok (.getfield 28, 3) := by decide +kernel
theorem dX12_layFridge_49 : decode cX12_layFridge 49 = .ok (.iconst 0, 1) := by decide +kernel
theorem dX12_layFridge_50 : decode cX12_layFridge 50 = .ok (.iaload, 1) := by decide +kernel
theorem dX12_layFridge_51 : decode cX12_layFridge 51 = .ok (.if_icmp .ge 7, 3) := by decide +kernel
theorem dX12_layFridge_54 : decode cX12_layFridge 54 = .ok (.iconst 0, 1) := by decide +kernel
theorem dX12_layFridge_55 : decode cX12_layFridge 55 = .ok (.goto 4, 3) := by decide +kernel
theorem dX12_layFridge_58 : decode cX12_layFridge 58 = .ok (.iconst 2, 1) := by decide +kernel
theorem dX12_layFridge_59 : decode cX12_layFridge 59 = .ok (.iastore, 1) := by decide +kernel
theorem dX12_layFridge_60 : decode cX12_layFridge 60 = .ok (.aload_n 0, 1) := by decide +kernel
theorem dX12_layFridge_61 : decode cX12_layFridge 61 = .ok (.getfield 85, 3) := by decide +kernel
theorem dX12_layFridge_64 : decode cX12_layFridge 64 = .ok (.iload_n 1, 1) := by decide +kernel
theorem dX12_layFridge_65 : decode cX12_layFridge 65 = .ok (.iconst 0, 1) := by decide +kernel
theorem dX12_layFridge_66 : decode cX12_layFridge 66 = .ok (.iastore, 1) := by decide +kernel
theorem dX12_layFridge_67 : decode cX12_layFridge 67 = .ok (.iinc 1 1, 3) := by decide +kernel
theorem dX12_layFridge_70 : decode cX12_layFridge 70 = .ok (.goto (-68), 3) := by decide +kernel
theorem dX12_layFridge_73 : decode cX12_layFridge 73 = .ok (.aload_n 0, 1) := by decide +kernel
theorem dX12_layFridge_74 : decode cX12_layFridge 74 = .ok (.getfield 88, 3) := by decide +kernel
theorem dX12_layFridge_77 : decode cX12_layFridge 77 = .ok (.iconst 0, 1) := by decide +kernel
theorem dX12_layFridge_78 : decode cX12_layFridge 78 = .ok (.iconst 0, 1) := by decide +kernel
theorem dX12_layFridge_79 : decode cX12_layFridge 79 = .ok (.iastore, 1) := by decide +kernel
theorem dX12_layFridge_80 : decode cX12_layFridge 80 = .ok (.aload_n 0, 1) := by decide +kernel
theorem dX12_layFridge_81 : decode cX12_layFridge 81 = .ok (.iconst 0, 1) := by decide +kernel
theorem dX12_layFridge_82 : decode cX12_layFridge 82 = .ok (.putfield 157, 3) := by decide +kernel
theorem dX12_layFridge_85 : decode cX12_layFridge 85 = .ok (.aload_n 0, 1) := by decide +kernel
theorem dX12_layFridge_86 : decode cX12_layFridge 86 = .ok (.iconst 0, 1) := by decide +kernel
theorem dX12_layFridge_87 : decode cX12_layFridge 87 = .ok (.putfield 160, 3) := by decide +kernel
theorem dX12_layFridge_90 : decode cX12_layFridge 90 = .ok (.return_, 1) := by decide +kernel
theorem dX12_lay_0 : decode cX12_lay 0 = .ok (.aload_n 0, 1) := by decide +kernel
theorem dX12_lay_1 : decode cX12_lay 1 = .ok (.invokevirtual 153, 3) := by decide +kernel
theorem dX12_lay_4 : decode cX12_lay 4 = .ok (.bipush (-4), 2) := by decide +kernel
theorem dX12_lay_6 : decode cX12_lay 6 = .ok (.if_icmp .ne 28, 3) := by decide +kernel
theorem dX12_lay_9 : decode cX12_lay 9 = .ok (.aload_n 0, 1) := by decide +kernel
theorem dX12_lay_10 : decode cX12_lay 10 = .ok (.getfield 13, 3) := by decide +kernel
theorem dX12_lay_13 : decode cX12_lay 13 = .ok (.iconst 1, 1) := by decide +kernel
theorem dX12_lay_14 : decode cX12_lay 14 = .ok (.iaload, 1) := by decide +kernel
theorem dX12_lay_15 : decode cX12_lay 15 = .ok (.ifCond .eq 19, 3) := by decide +kernel
theorem dX12_lay_18 : decode cX12_lay 18 = .ok (.aload_n 0, 1) := by decide +kernel
theorem dX12_lay_19 : decode cX12_lay 19 = .ok (.getfield 28, 3) := by decide +kernel
theorem dX12_lay_22 : decode cX12_lay 22 = .ok (.iconst 1, 1) := by decide +kernel
theorem dX12_lay_23 : decode cX12_lay 23 = .ok (.iaload, 1) := by decide +kernel
theorem dX12_lay_24 : decode cX12_lay 24 = .ok (.ifCond .eq 10, 3) := by decide +kernel
theorem dX12_lay_27 : decode cX12_lay 27 = .ok (.aload_n 0, 1) := by decide +kernel
theorem dX12_lay_28 : decode cX12_lay 28 = .ok (.invokevirtual 163, 3) := by decide +kernel
theorem dX12_lay_31 : decode cX12_lay 31 = .ok (.ifCond .ne 6, 3) := by decide +kernel
theorem dX12_lay_34 : decode cX12_lay 34 = .ok (.bipush (-2), 2) := by decide +kernel
theorem dX12_lay_36 : decode cX12_lay 36 = .ok (.ireturn, 1) := by decide +kernel
theorem dX12_lay_37 : decode cX12_lay 37 = .ok (.aload_n 0, 1) := by decide +kernel
theorem dX12_lay_38 : decode cX12_lay 38 = .ok (.getfield 13, 3) := by decide +kernel
theorem dX12_lay_41 : decode cX12_lay 41 = .ok (.iconst 0, 1) := by decide +kernel
theorem dX12_lay_42 : decode cX12_lay 42 = .ok (.aload_n 0, 1) := by decide +kernel
theorem dX12_lay_43 : decode cX12_lay 43 = .ok (.getfield 13, 3) := by decide +kernel
theorem dX12_lay_46 : decode cX12_lay 46 = .ok (.iconst 1, 1) := by decide +kernel
theorem dX12_lay_47 : decode cX12_lay 47 = .ok (.iaload, 1) := by decide +kernel
theorem dX12_lay_48 : decode cX12_lay 48 = .ok (.iastore, 1) := by decide +kernel
theorem dX12_lay_49 : decode cX12_lay 49 = .ok (.aload_n 0, 1) := by decide +kernel
theorem dX12_lay_50 : decode cX12_lay 50 = .ok (.getfield 25, 3) := by decide +kernel
theorem dX12_lay_53 : decode cX12_lay 53 = .ok (.iconst 0, 1) := by decide +kernel
theorem dX12_lay_54 : decode cX12_lay 54 = .ok (.aload_n 0, 1) := by decide +kernel
theorem dX12_lay_55 : decode cX12_lay 55 = .ok (.getfield 25, 3) := by decide +kernel
theorem dX12_lay_58 : decode cX12_lay 58 = .ok (.iconst 1, 1) := by decide +kernel
theorem dX12_lay_59 : decode cX12_lay 59 = .ok (.iaload, 1) := by decide +kernel
theorem dX12_lay_60 : decode cX12_lay 60 = .ok (.iastore, 1) := by decide +kernel
theorem dX12_lay_61 : decode cX12_lay 61 = .ok (.aload_n 0, 1) := by decide +kernel
theorem dX12_lay_62 : decode cX12_lay 62 = .ok (.getfield 28, 3) := by decide +kernel
theorem dX12_lay_65 : decode cX12_lay 65 = .ok (.iconst 0, 1) := by decide +kernel
theorem dX12_lay_66 : decode cX12_lay 66 = .ok (.aload_n 0, 1) := by decide +kernel
theorem dX12_lay_67 : decode cX12_lay 67 = .ok (.getfield 28, 3) := by decide +kernel
theorem dX12_lay_70 : decode cX12_lay 70 = .ok (.iconst 1, 1) := by decide +kernel
theorem dX12_lay_71 : decode cX12_lay 71 = .ok (.iaload, 1) := by decide +kernel
theorem dX12_lay_72 : decode cX12_lay 72 = .ok (.iastore, 1) := by decide +kernel
theorem dX12_lay_73 : decode cX12_lay 73 = .ok (.aload_n 0, 1) := by decide +kernel
theorem dX12_lay_74 : decode cX12_lay 74 = .ok (.getfield 49, 3) := by decide +kernel
theorem dX12_lay_77 : decode cX12_lay 77 = .ok (.iconst 0, 1) := by decide +kernel
theorem dX12_lay_78 : decode cX12_lay 78 = .ok (.aload_n 0, 1) := by decide +kernel
theorem dX12_lay_79 : decode cX12_lay 79 = .ok (.getfield 49, 3) := by decide +kernel
theorem dX12_lay_82 : decode cX12_lay 82 = .ok (.iconst 1, 1) := by decide +kernel
theorem dX12_lay_83 : decode cX12_lay 83 = .ok (.iaload, 1) := by decide +kernel
theorem dX12_lay_84 : decode cX12_lay 84 = .ok (.iastore, 1) := by decide +kernel
theorem dX12_lay_85 : decode cX12_lay 85 = .ok (.aload_n 0, 1) := by decide +kernel
theorem dX12_lay_86 : decode cX12_lay 86 = .ok (.getfield 55, 3) := by decide +kernel
theorem dX12_lay_89 : decode cX12_lay 89 = .ok (.iconst 0, 1) := by decide +kernel
theorem dX12_lay_90 : decode cX12_lay 90 = .ok (.aload_n 0, 1) := by decide +kernel
theorem dX12_lay_91 : decode cX12_lay 91 = .ok (.getfield 55, 3) := by decide +kernel
theorem dX12_lay_94 : decode cX12_lay 94 = .ok (.iconst 1, 1) := by decide +kernel
theorem dX12_lay_95 : decode cX12_lay 95 = .ok (.iaload, 1) := by decide +kernel
theorem dX12_lay_96 : decode cX12_lay 96 = .ok (.iastore, 1) := by decide +kernel
theorem dX12_lay_97 : decode cX12_lay 97 = .ok (.aload_n 0, 1) := by decide +kernel
theorem dX12_lay_98 : decode cX12_lay 98 = .ok (.getfield 61, 3) := by decide +kernel
theorem dX12_lay_101 : decode cX12_lay 101 = .ok (.iconst 0, 1) := by decide +kernel
theorem dX12_lay_102 : decode cX12_lay 102 = .ok (.aload_n 0, 1) := by decide +kernel
theorem dX12_lay_103 : decode cX12_lay 103 = .ok (.getfield 61, 3) := by decide +kernel
theorem dX12_lay_106 : decode cX12_lay 106 = .ok (.iconst 1, 1) := by decide +kernel
theorem dX12_lay_107 : decode cX12_lay 107 = .ok (.iaload, 1) := by decide +kernel
theorem dX12_lay_108 : decode cX12_lay 108 = .ok (.iastore, 1) := by decide +kernel
theorem dX12_lay_109 : decode cX12_lay 109 = .ok (.iconst 0, 1) := by decide +kernel
theorem dX12_lay_110 : decode cX12_lay 110 = .ok (.istore_n 1, 1) := by decide +kernel
theorem dX12_lay_111 : decode cX12_lay 111 = .ok (.iload_n 1, 1) := by decide +kernel
theorem dX12_lay_112 : decode cX12_lay 112 = .ok (.bipush 10, 2) := by decide +kernel
theorem dX12_lay_114 : decode cX12_lay 114 = .ok (.if_icmp .ge 99, 3) := by decide +kernel
theorem dX12_lay_117 : decode cX12_lay 117 = .ok (.aload_n 0, 1) := by decide +kernel
theorem dX12_lay_118 : decode cX12_lay 118 = .ok (.getfield 31, 3) := by decide +kernel
theorem dX12_lay_121 : decode cX12_lay 121 = .ok (.iload_n 1, 1) := by decide +kernel
theorem dX12_lay_122 : decode cX12_lay 122 = .ok (.aload_n 0, 1) := by decide +kernel
theorem dX12_lay_123 : decode cX12_lay 123 = .ok (.getfield 31, 3) := by decide +kernel
theorem dX12_lay_126 : decode cX12_lay 126 = .ok (.bipush 10, 2) := by decide +kernel
theorem dX12_lay_128 : decode cX12_lay 128 = .ok (.iload_n 1, 1) := by decide +kernel
theorem dX12_lay_129 : decode cX12_lay 129 = .ok (.iadd, 1) := by decide +kernel
theorem dX12_lay_130 : decode cX12_lay 130 = .ok (.iaload, 1) := by decide +kernel
theorem dX12_lay_131 : decode cX12_lay 131 = .ok (.iastore, 1) := by decide +kernel
theorem dX12_lay_132 : decode cX12_lay 132 = .ok (.aload_n 0, 1) := by decide +kernel
theorem dX12_lay_133 : decode cX12_lay 133 = .ok (.getfield 34, 3) := by decide +kernel
theorem dX12_lay_136 : decode cX12_lay 136 = .ok (.iload_n 1, 1) := by decide +kernel
theorem dX12_lay_137 : decode cX12_lay 137 = .ok (.aload_n 0, 1) := by decide +kernel
theorem dX12_lay_138 : decode cX12_lay 138 = .ok (.getfield 34, 3) := by decide +kernel
theorem dX12_lay_141 : decode cX12_lay 141 = .ok (.bipush 10, 2) := by decide +kernel
theorem dX12_lay_143 : decode cX12_lay 143 = .ok (.iload_n 1, 1) := by decide +kernel
theorem dX12_lay_144 : decode cX12_lay 144 = .ok (.iadd, 1) := by decide +kernel
theorem dX12_lay_145 : decode cX12_lay 145 = .ok (.iaload, 1) := by decide +kernel
theorem dX12_lay_146 : decode cX12_lay 146 = .ok (.iastore, 1) := by decide +kernel
theorem dX12_lay_147 : decode cX12_lay 147 = .ok (.aload_n 0, 1) := by decide +kernel
theorem dX12_lay_148 : decode cX12_lay 148 = .ok (.getfield 37, 3) := by decide +kernel
theorem dX12_lay_151 : decode cX12_lay 151 = .ok (.iload_n 1, 1) := by decide +kernel
theorem dX12_lay_152 : decode cX12_lay 152 = .ok (.aload_n 0, 1) := by decide +kernel
theorem dX12_lay_153 : decode cX12_lay 153 = .ok (.getfield 37, 3) := by decide +kernel
theorem dX12_lay_156 : decode cX12_lay 156 = .ok (.bipush 10, 2) := by decide +kernel
theorem dX12_lay_158 : decode cX12_lay 158 = .ok (.iload_n 1, 1) := by decide +kernel
theorem dX12_lay_159 : decode cX12_lay 159 = .ok (.iadd, 1) := by decide +kernel
theorem dX12_lay_160 : decode cX12_lay 160 = .ok (.iaload, 1) := by decide +kernel
theorem dX12_lay_161 : decode cX12_lay 161 = .ok (.iastore, 1) := by decide +kernel
theorem dX12_lay_162 : decode cX12_lay 162 = .ok (.aload_n 0, 1) := by decide +kernel
theorem dX12_lay_163 : decode cX12_lay 163 = .ok (.getfield 40, 3) := by decide +kernel
theorem dX12_lay_166 : decode cX12_lay 166 = .ok (.iload_n 1, 1) := by decide +kernel
theorem dX12_lay_167 : decode cX12_lay 167 = .ok (.aload_n 0, 1) := by decide +kernel
theorem dX12_lay_168 : decode cX12_lay 168 = .ok (.getfield 40, 3) := by decide +kernel
theorem dX12_lay_171 : decode cX12_lay 171 = .ok (.bipush 10, 2) := by decide +kernel
theorem dX12_lay_173 : decode cX12_lay 173 = .ok (.iload_n 1, 1) := by decide +kernel
theorem dX12_lay_174 : decode cX12_lay 174 = .ok (.iadd, 1) := by decide +kernel
theorem dX12_lay_175 : decode cX12_lay 175 = .ok (.iaload, 1) := by decide +kernel
theorem dX12_lay_176 : decode cX12_lay 176 = .ok (.iastore, 1) := by decide +kernel
theorem dX12_lay_177 : decode cX12_lay 177 = .ok (.aload_n 0, 1) := by decide +kernel
theorem dX12_lay_178 : decode cX12_lay 178 = .ok (.getfield 43, 3) := by decide +kernel
theorem dX12_lay_181 : decode cX12_lay 181 = .ok (.iload_n 1, 1) := by decide +kernel
theorem dX12_lay_182 : decode cX12_lay 182 = .ok (.aload_n 0, 1) := by decide +kernel
theorem dX12_lay_183 : decode cX12_lay 183 = .ok (.getfield 43, 3) := by decide +kernel
theorem dX12_lay_186 : decode cX12_lay 186 = .ok (.bipush 10, 2) := by decide +kernel
theorem dX12_lay_188 : decode cX12_lay 188 = .ok (.iload_n 1, 1) := by decide +kernel
theorem dX12_lay_189 : decode cX12_lay 189 = .ok (.iadd, 1) := by decide +kernel
theorem dX12_lay_190 : decode cX12_lay 190 = .ok (.iaload, 1) := by decide +kernel
theorem dX12_lay_191 : decode cX12_lay 191 = .ok (.iastore, 1) := by decide +kernel
theorem dX12_lay_192 : decode cX12_lay 192 = .ok (.aload_n 0, 1) := by decide +kernel
theorem dX12_lay_193 : decode cX12_lay 193 = .ok (.getfield 46, 3) := by decide +kernel
theorem dX12_lay_196 : decode cX12_lay 196 = .ok (.iload_n 1, 1) := by decide +kernel
theorem dX12_lay_197 : decode cX12_lay 197 = .ok (.aload_n 0, 1) := by decide +kernel
theorem dX12_lay_198 : decode cX12_lay 198 = .ok (.getfield 46, 3) := by decide +kernel
theorem dX12_lay_201 : decode cX12_lay 201 = .ok (.bipush 10, 2) := by decide +kernel
theorem dX12_lay_203 : decode cX12_lay 203 = .ok (.iload_n 1, 1) := by decide +kernel
theorem dX12_lay_204 : decode cX12_lay 204 = .ok (.iadd, 1) := by decide +kernel
theorem dX12_lay_205 : decode cX12_lay 205 = .ok (.iaload, 1) := by decide +kernel
theorem dX12_lay_206 : decode cX12_lay 206 = .ok (.iastore, 1) := by decide +kernel
theorem dX12_lay_207 : decode cX12_lay 207 = .ok (.iinc 1 1, 3) := by decide +kernel
theorem dX12_lay_210 : decode cX12_lay 210 = .ok (.goto (-99), 3) := by decide +kernel
theorem dX12_lay_213 : decode cX12_lay 213 = .ok (.iconst 0, 1) := by decide +kernel
theorem dX12_lay_214 : decode cX12_lay 214 = .ok (.istore_n 1, 1) := by decide +kernel
theorem dX12_lay_215 : decode cX12_lay 215 = .ok (.iload_n 1, 1) := by decide +kernel
theorem dX12_lay_216 : decode cX12_lay 216 = .ok (.bipush 6, 2) := by decide +kernel
theorem dX12_lay_218 : decode cX12_lay 218 = .ok (.if_icmp .ge 84, 3) := by decide +kernel
theorem dX12_lay_221 : decode cX12_lay 221 = .ok (.aload_n 0, 1) := by decide +kernel
theorem dX12_lay_222 : decode cX12_lay 222 = .ok (.getfield 16, 3) := by decide +kernel
theorem dX12_lay_225 : decode cX12_lay 225 = .ok (.iload_n 1, 1) := by decide +kernel
theorem dX12_lay_226 : decode cX12_lay 226 = .ok (.aload_n 0, 1) := by decide +kernel
theorem dX12_lay_227 : decode cX12_lay 227 = .ok (.getfield 16, 3) := by decide +kernel
theorem dX12_lay_230 : decode cX12_lay 230 = .ok (.bipush 6, 2) := by decide +kernel
theorem dX12_lay_232 : decode cX12_lay 232 = .ok (.iload_n 1, 1) := by decide +kernel
theorem dX12_lay_233 : decode cX12_lay 233 = .ok (.iadd, 1) := by decide +kernel
theorem dX12_lay_234 : decode cX12_lay 234 = .ok (.iaload, 1) := by decide +kernel
theorem dX12_lay_235 : decode cX12_lay 235 = .ok (.iastore, 1) := by decide +kernel
theorem dX12_lay_236 : decode cX12_lay 236 = .ok (.aload_n 0, 1) := by decide +kernel
theorem dX12_lay_237 : decode cX12_lay 237 = .ok (.getfield 19, 3) := by decide +kernel
theorem dX12_lay_240 : decode cX12_lay 240 = .ok (.iload_n 1, 1) := by decide +kernel
theorem dX12_lay_241 : decode cX12_lay 241 = .ok (.aload_n 0, 1) := by decide +kernel
theorem dX12_lay_242 : decode cX12_lay 242 = .ok (.getfield 19, 3) := by decide +kernel
theorem dX12_lay_245 : decode cX12_lay 245 = .ok (.bipush 6, 2) := by decide +kernel
theorem dX12_lay_247 : decode cX12_lay 247 = .ok (.iload_n 1, 1) := by decide +kernel
theorem dX12_lay_248 : decode cX12_lay 248 = .ok (.iadd, 1) := by decide +kernel
theorem dX12_lay_249 : decode cX12_lay 249 = .ok (.iaload, 1) := by decide +kernel
theorem dX12_lay_250 : decode cX12_lay 250 = .ok (.iastore, 1) := by decide +kernel
theorem dX12_lay_251 : decode cX12_lay 251 = .ok (.aload_n 0, 1) := by decide +kernel
theorem dX12_lay_252 : decode cX12_lay 252 = .ok (.getfield 22, 3) := by decide +kernel
theorem dX12_lay_255 : decode cX12_lay 255 = .ok (.iload_n 1, 1) := by decide +kernel
theorem dX12_lay_256 : decode cX12_lay 256 = .ok (.aload_n 0, 1) := by decide +kernel
theorem dX12_lay_257 : decode cX12_lay 257 = .ok (.getfield 22, 3) := by decide +kernel
theorem dX12_lay_260 : decode cX12_lay 260 = .ok (.bipush 6, 2) := by decide +kernel
theorem dX12_lay_262 : decode cX12_lay 262 = .ok (.iload_n 1, 1) := by decide +kernel
theorem dX12_lay_263 : decode cX12_lay 263 = .ok (.iadd, 1) := by decide +kernel
theorem dX12_lay_264 : decode cX12_lay 264 = .ok (.iaload, 1) := by decide +kernel
theorem dX12_lay_265 : decode cX12_lay 265 = .ok (.iastore, 1) := by decide +kernel
theorem dX12_lay_266 : decode cX12_lay 266 = .ok (.aload_n 0, 1) := by decide +kernel
theorem dX12_lay_267 : decode cX12_lay 267 = .ok (.getfield 64, 3) := by decide +kernel
theorem dX12_lay_270 : decode cX12_lay 270 = .ok (.iload_n 1, 1) := by decide +kernel
theorem dX12_lay_271 : decode cX12_lay 271 = .ok (.aload_n 0, 1) := by decide +kernel
theorem dX12_lay_272 : decode cX12_lay 272 = .ok (.getfield 64, 3) := by decide +kernel
theorem dX12_lay_275 : decode cX12_lay 275 = .ok (.bipush 6, 2) := by decide +kernel
theorem dX12_lay_277 : decode cX12_lay 277 = .ok (.iload_n 1, 1) := by decide +kernel
theorem dX12_lay_278 : decode cX12_lay 278 = .ok (.iadd, 1) := by decide +kernel
theorem dX12_lay_279 : decode cX12_lay 279 = .ok (.iaload, 1) := by decide +kernel
theorem dX12_lay_280 : decode cX12_lay 280 = .ok (.iastore, 1) := by decide +kernel
theorem dX12_lay_281 : decode cX12_lay 281 = .ok (.aload_n 0, 1) := by decide +kernel
theorem dX12_lay_282 : decode cX12_lay 282 = .ok (.getfield 67, 3) := by decide +kernel
theorem dX12_lay_285 : decode cX12_lay 285 = .ok (.iload_n 1, 1) := by decide +kernel
theorem dX12_lay_286 : decode cX12_lay 286 = .ok (.aload_n 0, 1) := by decide +kernel
theorem dX12_lay_287 : decode cX12_lay 287 = .ok (.getfield 67, 3) := by decide +kernel
theorem dX12_lay_290 : decode cX12_lay 290 = .ok (.bipush 6, 2) := by decide +kernel
theorem dX12_lay_292 : decode cX12_lay 292 = .ok (.iload_n 1, 1) := by decide +kernel
theorem dX12_lay_293 : decode cX12_lay 293 = .ok (.iadd, 1) := by decide +kernel
theorem dX12_lay_294 : decode cX12_lay 294 = .ok (.iaload, 1) := by decide +kernel
theorem dX12_lay_295 : decode cX12_lay 295 = .ok (.iastore, 1) := by decide +kernel
theorem dX12_lay_296 : decode cX12_lay 296 = .ok (.iinc 1 1, 3) := by decide +kernel
theorem dX12_lay_299 : decode cX12_lay 299 = .ok (.goto (-84), 3) := by decide +kernel
theorem dX12_lay_302 : decode cX12_lay 302 = .ok (.iconst 0, 1) := by decide +kernel
theorem dX12_lay_303 : decode cX12_lay 303 = .ok (.istore_n 1, 1) := by decide +kernel
theorem dX12_lay_304 : decode cX12_lay 304 = .ok (.iload_n 1, 1) := by decide +kernel
theorem dX12_lay_305 : decode cX12_lay 305 = .ok (.iconst 5, 1) := by decide +kernel
theorem dX12_lay_306 : decode cX12_lay 306 = .ok (.if_icmp .ge 23, 3) := by decide +kernel
theorem dX12_lay_309 : decode cX12_lay 309 = .ok (.aload_n 0, 1) := by decide +kernel
theorem dX12_lay_310 : decode cX12_lay 310 = .ok (.getfield 52, 3) := by decide +kernel
theorem dX12_lay_313 : decode cX12_lay 313 = .ok (.iload_n 1, 1) := by decide +kernel
theorem dX12_lay_314 : decode cX12_lay 314 = .ok (.aload_n 0, 1) := by decide +kernel
theorem dX12_lay_315 : decode cX12_lay 315 = .ok (.getfield 52, 3) := by decide +kernel
theorem dX12_lay_318 : decode cX12_lay 318 = .ok (.iconst 5, 1) := by decide +kernel
theorem dX12_lay_319 : decode cX12_lay 319 = .ok (.iload_n 1, 1) := by decide +kernel
theorem dX12_lay_320 : decode cX12_lay 320 = .ok (.iadd, 1) := by decide +kernel
theorem dX12_lay_321 : decode cX12_lay 321 = .ok (.iaload, 1) := by decide +kernel
theorem dX12_lay_322 : decode cX12_lay 322 = .ok (.iastore, 1) := by decide +kernel
theorem dX12_lay_323 : decode cX12_lay 323 = .ok (.iinc 1 1, 3) := by decide +kernel
theorem dX12_lay_326 : decode cX12_lay 326 = .ok (.goto (-22), 3) := by decide +kernel
theorem dX12_lay_329 : decode cX12_lay 329 = .ok (.iconst 0, 1) := by decide +kernel
theorem dX12_lay_330 : decode cX12_lay 330 = .ok (.istore_n 1, 1) := by decide +kernel
theorem dX12_lay_331 : decode cX12_lay 331 = .ok (.iload_n 1, 1) := by decide +kernel
theorem dX12_lay_332 : decode cX12_lay 332 = .ok (.iconst 4, 1) := by decide +kernel
theorem dX12_lay_333 : decode cX12_lay 333 = .ok (.if_icmp .ge 23, 3) := by decide +kernel
theorem dX12_lay_336 : decode cX12_lay 336 = .ok (.aload_n 0, 1) := by decide +kernel
theorem dX12_lay_337 : decode cX12_lay 337 = .ok (.getfield 58, 3) := by decide +kernel
theorem dX12_lay_340 : decode cX12_lay 340 = .ok (.iload_n 1, 1) := by decide +kernel
theorem dX12_lay_341 : decode cX12_lay 341 = .ok (.aload_n 0, 1) := by decide +kernel
theorem dX12_lay_342 : decode cX12_lay 342 = .ok (.getfield 58, 3) := by decide +kernel
theorem dX12_lay_345 : decode cX12_lay 345 = .ok (.iconst 4, 1) := by decide +kernel
theorem dX12_lay_346 : decode cX12_lay 346 = .ok (.iload_n 1, 1) := by decide +kernel
theorem dX12_lay_347 : decode cX12_lay 347 = .ok (.iadd, 1) := by decide +kernel
theorem dX12_lay_348 : decode cX12_lay 348 = .ok (.iaload, 1) := by decide +kernel
theorem dX12_lay_349 : decode cX12_lay 349 = .ok (.iastore, 1) := by decide +kernel
theorem dX12_lay_350 : decode cX12_lay 350 = .ok (.iinc 1 1, 3) := by decide +kernel
theorem dX12_lay_353 : decode cX12_lay 353 = .ok (.goto (-22), 3) := by decide +kernel
theorem dX12_lay_356 : decode cX12_lay 356 = .ok (.iconst 0, 1) := by decide +kernel
theorem dX12_lay_357 : decode cX12_lay 357 = .ok (.istore_n 1, 1) := by decide +kernel
theorem dX12_lay_358 : decode cX12_lay 358 = .ok (.iload_n 1, 1) := by decide +kernel
theorem dX12_lay_359 : decode cX12_lay 359 = .ok (.iconst 3, 1) := by decide +kernel
theorem dX12_lay_360 : decode cX12_lay 360 = .ok (.if_icmp .ge 23, 3) := by decide +kernel
theorem dX12_lay_363 : decode cX12_lay 363 = .ok (.aload_n 0, 1) := by decide +kernel
theorem dX12_lay_364 : decode cX12_lay 364 = .ok (.getfield 70, 3) := by decide +kernel
theorem dX12_lay_367 : decode cX12_lay 367 = .ok (.iload_n 1, 1) := by decide +kernel
theorem dX12_lay_368 : decode cX12_lay 368 = .ok (.aload_n 0, 1) := by decide +kernel
theorem dX12_lay_369 : decode cX12_lay 369 = .ok (.getfield 70, 3) := by decide +kernel
theorem dX12_lay_372 : decode cX12_lay 372 = .ok (.iconst 3, 1) := by decide +kernel
theorem dX12_lay_373 : decode cX12_lay 373 = .ok (.iload_n 1, 1) := by decide +kernel
theorem dX12_lay_374 : decode cX12_lay 374 = .ok (.iadd, 1) := by decide +kernel
theorem dX12_lay_375 : decode cX12_lay 375 = .ok (.iaload, 1) := by decide +kernel
theorem dX12_lay_376 : decode cX12_lay 376 = .ok (.iastore, 1) := by decide +kernel
theorem dX12_lay_377 : decode cX12_lay 377 = .ok (.iinc 1 1, 3) := by decide +kernel
theorem dX12_lay_380 : decode cX12_lay 380 = .ok (.goto (-22), 3) := by decide +kernel
theorem dX12_lay_383 : decode cX12_lay 383 = .ok (.aload_n 0, 1) := by decide +kernel
theorem dX12_lay_384 : decode cX12_lay 384 = .ok (.invokevirtual 101, 3) := by decide +kernel
theorem dX12_lay_387 : decode cX12_lay 387 = .ok (.aload_n 0, 1) := by decide +kernel
theorem dX12_lay_388 : decode cX12_lay 388 = .ok (.getfield 28, 3) := by decide +kernel
theorem dX12_lay_391 : decode cX12_lay 391 = .ok (.iconst 0, 1) := by decide +kernel
theorem dX12_lay_392 : decode cX12_lay 392 = .ok (.iaload, 1) := by decide +kernel
theorem dX12_lay_393 : decode cX12_lay 393 = .ok (.ireturn, 1) := by decide +kernel
theorem dX12_isFood_0 : decode cX12_isFood 0 = .ok (.iload_n 1, 1) := by decide +kernel
theorem dX12_isFood_1 : decode cX12_isFood 1 = .ok (.i2l, 1) := by decide +kernel
theorem dX12_isFood_2 : decode cX12_isFood 2 = .ok (.lconst 0, 1) := by decide +kernel
theorem dX12_isFood_3 : decode cX12_isFood 3 = .ok (.aload_n 0, 1) := by decide +kernel
theorem dX12_isFood_4 : decode cX12_isFood 4 = .ok (.getfield 28, 3) := by decide +kernel
theorem dX12_isFood_7 : decode cX12_isFood 7 = .ok (.iconst 0, 1) := by decide +kernel
theorem dX12_isFood_8 : decode cX12_isFood 8 = .ok (.iaload, 1) := by decide +kernel
theorem dX12_isFood_9 : decode cX12_isFood 9 = .ok (.iconst 1, 1) := by decide +kernel
theorem dX12_isFood_10 : decode cX12_isFood 10 = .ok (.isub, 1) := by decide +kernel
theorem dX12_isFood_11 : decode cX12_isFood 11 = .ok (.i2l, 1) := by decide +kernel
theorem dX12_isFood_12 : decode cX12_isFood 12 = .ok (.invokestatic 106, 3) := by decide +kernel
theorem dX12_isFood_15 : decode cX12_isFood 15 = .ok (.ireturn, 1) := by decide +kernel
theorem dX12_isCell_0 : decode cX12_isCell 0 = .ok (.iload_n 1, 1) := by decide +kernel
theorem dX12_isCell_1 : decode cX12_isCell 1 = .ok (.i2l, 1) := by decide +kernel
theorem dX12_isCell_2 : decode cX12_isCell 2 = .ok (.lconst 0, 1) := by decide +kernel
theorem dX12_isCell_3 : decode cX12_isCell 3 = .ok (.aload_n 0, 1) := by decide +kernel
theorem dX12_isCell_4 : decode cX12_isCell 4 = .ok (.getfield 13, 3) := by decide +kernel
theorem dX12_isCell_7 : decode cX12_isCell 7 = .ok (.iconst 0, 1) := by decide +kernel
theorem dX12_isCell_8 : decode cX12_isCell 8 = .ok (.iaload, 1) := by decide +kernel
theorem dX12_isCell_9 : decode cX12_isCell 9 = .ok (.iconst 1, 1) := by decide +kernel
theorem dX12_isCell_10 : decode cX12_isCell 10 = .ok (.isub, 1) := by decide +kernel
theorem dX12_isCell_11 : decode cX12_isCell 11 = .ok (.i2l, 1) := by decide +kernel
theorem dX12_isCell_12 : decode cX12_isCell 12 = .ok (.invokestatic 106, 3) := by decide +kernel
theorem dX12_isCell_15 : decode cX12_isCell 15 = .ok (.ireturn, 1) := by decide +kernel
theorem dX12_warmthOf_0 : decode cX12_warmthOf 0 = .ok (.aload_n 0, 1) := by decide +kernel
theorem dX12_warmthOf_1 : decode cX12_warmthOf 1 = .ok (.getfield 16, 3) := by decide +kernel
theorem dX12_warmthOf_4 : decode cX12_warmthOf 4 = .ok (.iload_n 1, 1) := by decide +kernel
theorem dX12_warmthOf_5 : decode cX12_warmthOf 5 = .ok (.iaload, 1) := by decide +kernel
theorem dX12_warmthOf_6 : decode cX12_warmthOf 6 = .ok (.aload_n 0, 1) := by decide +kernel
theorem dX12_warmthOf_7 : decode cX12_warmthOf 7 = .ok (.getfield 25, 3) := by decide +kernel
theorem dX12_warmthOf_10 : decode cX12_warmthOf 10 = .ok (.iconst 0, 1) := by decide +kernel
theorem dX12_warmthOf_11 : decode cX12_warmthOf 11 = .ok (.iaload, 1) := by decide +kernel
theorem dX12_warmthOf_12 : decode cX12_warmthOf 12 = .ok (.iload_n 2, 1) := by decide +kernel
theorem dX12_warmthOf_13 : decode cX12_warmthOf 13 = .ok (.bipush 24, 2) := by decide +kernel
theorem dX12_warmthOf_15 : decode cX12_warmthOf 15 = .ok (.irem, 1) := by decide +kernel
theorem dX12_warmthOf_16 : decode cX12_warmthOf 16 = .ok (.invokestatic 166, 3) := by decide +kernel
theorem dX12_warmthOf_19 : decode cX12_warmthOf 19 = .ok (.ifCond .eq 12, 3) := by decide +kernel
theorem dX12_warmthOf_22 : decode cX12_warmthOf 22 = .ok (.aload_n 0, 1) := by decide +kernel
theorem dX12_warmthOf_23 : decode cX12_warmthOf 23 = .ok (.getfield 19, 3) := by decide +kernel
theorem dX12_warmthOf_26 : decode cX12_warmthOf 26 = .ok (.iload_n 1, 1) := by decide +kernel
theorem dX12_warmthOf_27 : decode cX12_warmthOf 27 = .ok (.iaload, 1) := by decide +kernel
theorem dX12_warmthOf_28 : decode cX12_warmthOf 28 = .ok (.goto 4, 3) := by decide +kernel
theorem dX12_warmthOf_31 : decode cX12_warmthOf 31 = .ok (.iconst 0, 1) := by decide +kernel
theorem dX12_warmthOf_32 : decode cX12_warmthOf 32 = .ok (.iadd, 1) := by decide +kernel
theorem dX12_warmthOf_33 : decode cX12_warmthOf 33 = .ok (.ireturn, 1) := by decide +kernel
theorem dX12_limitOf_0 : decode cX12_limitOf 0 = .ok (.bipush 50, 2) := by decide +kernel
theorem dX12_limitOf_2 : decode cX12_limitOf 2 = .ok (.aload_n 0, 1) := by decide +kernel
theorem dX12_limitOf_3 : decode cX12_limitOf 3 = .ok (.getfield 40, 3) := by decide +kernel
theorem dX12_limitOf_6 : decode cX12_limitOf 6 = .ok (.iload_n 1, 1) := by decide +kernel
theorem dX12_limitOf_7 : decode cX12_limitOf 7 = .ok (.bipush 10, 2) := by decide +kernel
theorem dX12_limitOf_9 : decode cX12_limitOf 9 = .ok (.irem, 1) := by decide +kernel
theorem dX12_limitOf_10 : decode cX12_limitOf 10 = .ok (.iaload, 1) := by decide +kernel
theorem dX12_limitOf_11 : decode cX12_limitOf 11 = .ok (.aload_n 0, 1) := by decide +kernel
theorem dX12_limitOf_12 : decode cX12_limitOf 12 = .ok (.getfield 73, 3) := by decide +kernel
theorem dX12_limitOf_15 : decode cX12_limitOf 15 = .ok (.iload_n 1, 1) := by decide +kernel
theorem dX12_limitOf_16 : decode cX12_limitOf 16 = .ok (.iaload, 1) := by decide +kernel
theorem dX12_limitOf_17 : decode cX12_limitOf 17 = .ok (.iconst 2, 1) := by decide +kernel
theorem dX12_limitOf_18 : decode cX12_limitOf 18 = .ok (.if_icmp .ne 8, 3) := by decide +kernel
theorem dX12_limitOf_21 : decode cX12_limitOf 21 = .ok (.bipush 96, 2) := by decide +kernel
theorem dX12_limitOf_23 : decode cX12_limitOf 23 = .ok (.goto 4, 3) := by decide +kernel
theorem dX12_limitOf_26 : decode cX12_limitOf 26 = .ok (.iconst 0, 1) := by decide +kernel
theorem dX12_limitOf_27 : decode cX12_limitOf 27 = .ok (.iadd, 1) := by decide +kernel
theorem dX12_limitOf_28 : decode cX12_limitOf 28 = .ok (.imul, 1) := by decide +kernel
theorem dX12_limitOf_29 : decode cX12_limitOf 29 = .ok (.ireturn, 1) := by decide +kernel
theorem dX12_isOff_0 : decode cX12_isOff 0 = .ok (.aload_n 0, 1) := by decide +kernel
theorem dX12_isOff_1 : decode cX12_isOff 1 = .ok (.getfield 79, 3) := by decide +kernel
theorem dX12_isOff_4 : decode cX12_isOff 4 = .ok (.iload_n 1, 1) := by decide +kernel
theorem dX12_isOff_5 : decode cX12_isOff 5 = .ok (.iaload, 1) := by decide +kernel
theorem dX12_isOff_6 : decode cX12_isOff 6 = .ok (.aload_n 0, 1) := by decide +kernel
theorem dX12_isOff_7 : decode cX12_isOff 7 = .ok (.iload_n 1, 1) := by decide +kernel
theorem dX12_isOff_8 : decode cX12_isOff 8 = .ok (.invokevirtual 170, 3) := by decide +kernel
theorem dX12_isOff_11 : decode cX12_isOff 11 = .ok (.if_icmp .lt 7, 3) := by decide +kernel
theorem dX12_isOff_14 : decode cX12_isOff 14 = .ok (.iconst 1, 1) := by decide +kernel
theorem dX12_isOff_15 : decode cX12_isOff 15 = .ok (.goto 4, 3) := by decide +kernel
theorem dX12_isOff_18 : decode cX12_isOff 18 = .ok (.iconst 0, 1) := by decide +kernel
theorem dX12_isOff_19 : decode cX12_isOff 19 = .ok (.ireturn, 1) := by decide +kernel
theorem dX12_agesBy_0 : decode cX12_agesBy 0 = .ok (.iload_n 0, 1) := by decide +kernel
theorem dX12_agesBy_1 : decode cX12_agesBy 1 = .ok (.iconst 3, 1) := by decide +kernel
theorem dX12_agesBy_2 : decode cX12_agesBy 2 = .ok (.if_icmp .ne 7, 3) := by decide +kernel
theorem dX12_agesBy_5 : decode cX12_agesBy 5 = .ok (.iconst 1, 1) := by decide +kernel
theorem dX12_agesBy_6 : decode cX12_agesBy 6 = .ok (.goto 18, 3) := by decide +kernel
theorem dX12_agesBy_9 : decode cX12_agesBy 9 = .ok (.bipush 10, 2) := by decide +kernel
theorem dX12_agesBy_11 : decode cX12_agesBy 11 = .ok (.iload_n 1, 1) := by decide +kernel
theorem dX12_agesBy_12 : decode cX12_agesBy 12 = .ok (.iadd, 1) := by decide +kernel
theorem dX12_agesBy_13 : decode cX12_agesBy 13 = .ok (.iload_n 0, 1) := by decide +kernel
theorem dX12_agesBy_14 : decode cX12_agesBy 14 = .ok (.iconst 1, 1) := by decide +kernel
theorem dX12_agesBy_15 : decode cX12_agesBy 15 = .ok (.if_icmp .ne 7, 3) := by decide +kernel
theorem dX12_agesBy_18 : decode cX12_agesBy 18 = .ok (.iconst 2, 1) := by decide +kernel
theorem dX12_agesBy_19 : decode cX12_agesBy 19 = .ok (.goto 4, 3) := by decide +kernel
theorem dX12_agesBy_22 : decode cX12_agesBy 22 = .ok (.iconst 1, 1) := by decide +kernel
theorem dX12_agesBy_23 : decode cX12_agesBy 23 = .ok (.imul, 1) := by decide +kernel
theorem dX12_agesBy_24 : decode cX12_agesBy 24 = .ok (.ireturn, 1) := by decide +kernel
theorem dX12_copy_0 : decode cX12_copy 0 = .ok (.iconst 0, 1) := by decide +kernel
theorem dX12_copy_1 : decode cX12_copy 1 = .ok (.istore_n 3, 1) := by decide +kernel
theorem dX12_copy_2 : decode cX12_copy 2 = .ok (.iload_n 3, 1) := by decide +kernel
theorem dX12_copy_3 : decode cX12_copy 3 = .ok (.bipush 10, 2) := by decide +kernel
theorem dX12_copy_5 : decode cX12_copy 5 = .ok (.if_icmp .ge 119, 3) := by decide +kernel
theorem dX12_copy_8 : decode cX12_copy 8 = .ok (.aload_n 0, 1) := by decide +kernel
theorem dX12_copy_9 : decode cX12_copy 9 = .ok (.getfield 73, 3) := by decide +kernel
theorem dX12_copy_12 : decode cX12_copy 12 = .ok (.bipush 10, 2) := by decide +kernel
theorem dX12_copy_14 : decode cX12_copy 14 = .ok (.iload_n 2, 1) := by decide +kernel
theorem dX12_copy_15 : decode cX12_copy 15 = .ok (.imul, 1) := by decide +kernel
theorem dX12_copy_16 : decode cX12_copy 16 = .ok (.iload_n 3, 1) := by decide +kernel
theorem dX12_copy_17 : decode cX12_copy 17 = .ok (.iadd, 1) := by decide +kernel
theorem dX12_copy_18 : decode cX12_copy 18 = .ok (.aload_n 0, 1) := by decide +kernel
theorem dX12_copy_19 : decode cX12_copy 19 = .ok (.getfield 73, 3) := by decide +kernel
theorem dX12_copy_22 : decode cX12_copy 22 = .ok (.bipush 10, 2) := by decide +kernel
theorem dX12_copy_24 : decode cX12_copy 24 = .ok (.iload_n 1, 1) := by decide +kernel
theorem dX12_copy_25 : decode cX12_copy 25 = .ok (.imul, 1) := by decide +kernel
theorem dX12_copy_26 : decode cX12_copy 26 = .ok (.iload_n 3, 1) := by decide +kernel
theorem dX12_copy_27 : decode cX12_copy 27 = .ok (.iadd, 1) := by decide +kernel
theorem dX12_copy_28 : decode cX12_copy 28 = .ok (.iaload, 1) := by decide +kernel
theorem dX12_copy_29 : decode cX12_copy 29 = .ok (.iastore, 1) := by decide +kernel
theorem dX12_copy_30 : decode cX12_copy 30 = .ok (.aload_n 0, 1) := by decide +kernel
theorem dX12_copy_31 : decode cX12_copy 31 = .ok (.getfield 76, 3) := by decide +kernel
theorem dX12_copy_34 : decode cX12_copy 34 = .ok (.bipush 10, 2) := by decide +kernel
theorem dX12_copy_36 : decode cX12_copy 36 = .ok (.iload_n 2, 1) := by decide +kernel
theorem dX12_copy_37 : decode cX12_copy 37 = .ok (.imul, 1) := by decide +kernel
theorem dX12_copy_38 : decode cX12_copy 38 = .ok (.iload_n 3, 1) := by decide +kernel
theorem dX12_copy_39 : decode cX12_copy 39 = .ok (.iadd, 1) := by decide +kernel
theorem dX12_copy_40 : decode cX12_copy 40 = .ok (.aload_n 0, 1) := by decide +kernel
theorem dX12_copy_41 : decode cX12_copy 41 = .ok (.getfield 76, 3) := by decide +kernel
theorem dX12_copy_44 : decode cX12_copy 44 = .ok (.bipush 10, 2) := by decide +kernel
theorem dX12_copy_46 : decode cX12_copy 46 = .ok (.iload_n 1, 1) := by decide +kernel
theorem dX12_copy_47 : decode cX12_copy 47 = .ok (.imul, 1) := by decide +kernel
theorem dX12_copy_48 : decode cX12_copy 48 = .ok (.iload_n 3, 1) := by decide +kernel
theorem dX12_copy_49 : decode cX12_copy 49 = .ok (.iadd, 1) := by decide +kernel
theorem dX12_copy_50 : decode cX12_copy 50 = .ok (.iaload, 1) := by decide +kernel
theorem dX12_copy_51 : decode cX12_copy 51 = .ok (.iastore, 1) := by decide +kernel
theorem dX12_copy_52 : decode cX12_copy 52 = .ok (.aload_n 0, 1) := by decide +kernel
theorem dX12_copy_53 : decode cX12_copy 53 = .ok (.getfield 79, 3) := by decide +kernel
theorem dX12_copy_56 : decode cX12_copy 56 = .ok (.bipush 10, 2) := by decide +kernel
theorem dX12_copy_58 : decode cX12_copy 58 = .ok (.iload_n 2, 1) := by decide +kernel
theorem dX12_copy_59 : decode cX12_copy 59 = .ok (.imul, 1) := by decide +kernel
theorem dX12_copy_60 : decode cX12_copy 60 = .ok (.iload_n 3, 1) := by decide +kernel
theorem dX12_copy_61 : decode cX12_copy 61 = .ok (.iadd, 1) := by decide +kernel
theorem dX12_copy_62 : decode cX12_copy 62 = .ok (.aload_n 0, 1) := by decide +kernel
theorem dX12_copy_63 : decode cX12_copy 63 = .ok (.getfield 79, 3) := by decide +kernel
theorem dX12_copy_66 : decode cX12_copy 66 = .ok (.bipush 10, 2) := by decide +kernel
theorem dX12_copy_68 : decode cX12_copy 68 = .ok (.iload_n 1, 1) := by decide +kernel
theorem dX12_copy_69 : decode cX12_copy 69 = .ok (.imul, 1) := by decide +kernel
theorem dX12_copy_70 : decode cX12_copy 70 = .ok (.iload_n 3, 1) := by decide +kernel
theorem dX12_copy_71 : decode cX12_copy 71 = .ok (.iadd, 1) := by decide +kernel
theorem dX12_copy_72 : decode cX12_copy 72 = .ok (.iaload, 1) := by decide +kernel
theorem dX12_copy_73 : decode cX12_copy 73 = .ok (.iastore, 1) := by decide +kernel
theorem dX12_copy_74 : decode cX12_copy 74 = .ok (.aload_n 0, 1) := by decide +kernel
theorem dX12_copy_75 : decode cX12_copy 75 = .ok (.getfield 82, 3) := by decide +kernel
theorem dX12_copy_78 : decode cX12_copy 78 = .ok (.bipush 10, 2) := by decide +kernel
theorem dX12_copy_80 : decode cX12_copy 80 = .ok (.iload_n 2, 1) := by decide +kernel
theorem dX12_copy_81 : decode cX12_copy 81 = .ok (.imul, 1) := by decide +kernel
theorem dX12_copy_82 : decode cX12_copy 82 = .ok (.iload_n 3, 1) := by decide +kernel
theorem dX12_copy_83 : decode cX12_copy 83 = .ok (.iadd, 1) := by decide +kernel
theorem dX12_copy_84 : decode cX12_copy 84 = .ok (.aload_n 0, 1) := by decide +kernel
theorem dX12_copy_85 : decode cX12_copy 85 = .ok (.getfield 82, 3) := by decide +kernel
theorem dX12_copy_88 : decode cX12_copy 88 = .ok (.bipush 10, 2) := by decide +kernel
theorem dX12_copy_90 : decode cX12_copy 90 = .ok (.iload_n 1, 1) := by decide +kernel
theorem dX12_copy_91 : decode cX12_copy 91 = .ok (.imul, 1) := by decide +kernel
theorem dX12_copy_92 : decode cX12_copy 92 = .ok (.iload_n 3, 1) := by decide +kernel
theorem dX12_copy_93 : decode cX12_copy 93 = .ok (.iadd, 1) := by decide +kernel
theorem dX12_copy_94 : decode cX12_copy 94 = .ok (.iaload, 1) := by decide +kernel
theorem dX12_copy_95 : decode cX12_copy 95 = .ok (.iastore, 1) := by decide +kernel
theorem dX12_copy_96 : decode cX12_copy 96 = .ok (.aload_n 0, 1) := by decide +kernel
theorem dX12_copy_97 : decode cX12_copy 97 = .ok (.getfield 85, 3) := by decide +kernel
theorem dX12_copy_100 : decode cX12_copy 100 = .ok (.bipush 10, 2) := by decide +kernel
theorem dX12_copy_102 : decode cX12_copy 102 = .ok (.iload_n 2, 1) := by decide +kernel
theorem dX12_copy_103 : decode cX12_copy 103 = .ok (.imul, 1) := by decide +kernel
theorem dX12_copy_104 : decode cX12_copy 104 = .ok (.iload_n 3, 1) := by decide +kernel
theorem dX12_copy_105 : decode cX12_copy 105 = .ok (.iadd, 1) := by decide +kernel
theorem dX12_copy_106 : decode cX12_copy 106 = .ok (.aload_n 0, 1) := by decide +kernel
theorem dX12_copy_107 : decode cX12_copy 107 = .ok (.getfield 85, 3) := by decide +kernel
theorem dX12_copy_110 : decode cX12_copy 110 = .ok (.bipush 10, 2) := by decide +kernel
theorem dX12_copy_112 : decode cX12_copy 112 = .ok (.iload_n 1, 1) := by decide +kernel
theorem dX12_copy_113 : decode cX12_copy 113 = .ok (.imul, 1) := by decide +kernel
theorem dX12_copy_114 : decode cX12_copy 114 = .ok (.iload_n 3, 1) := by decide +kernel
theorem dX12_copy_115 : decode cX12_copy 115 = .ok (.iadd, 1) := by decide +kernel
theorem dX12_copy_116 : decode cX12_copy 116 = .ok (.iaload, 1) := by decide +kernel
theorem dX12_copy_117 : decode cX12_copy 117 = .ok (.iastore, 1) := by decide +kernel
theorem dX12_copy_118 : decode cX12_copy 118 = .ok (.iinc 3 1, 3) := by decide +kernel
theorem dX12_copy_121 : decode cX12_copy 121 = .ok (.goto (-119), 3) := by decide +kernel
theorem dX12_copy_124 : decode cX12_copy 124 = .ok (.aload_n 0, 1) := by decide +kernel
theorem dX12_copy_125 : decode cX12_copy 125 = .ok (.getfield 88, 3) := by decide +kernel
theorem dX12_copy_128 : decode cX12_copy 128 = .ok (.iload_n 2, 1) := by decide +kernel
theorem dX12_copy_129 : decode cX12_copy 129 = .ok (.aload_n 0, 1) := by decide +kernel
theorem dX12_copy_130 : decode cX12_copy 130 = .ok (.getfield 88, 3) := by decide +kernel
theorem dX12_copy_133 : decode cX12_copy 133 = .ok (.iload_n 1, 1) := by decide +kernel
theorem dX12_copy_134 : decode cX12_copy 134 = .ok (.iaload, 1) := by decide +kernel
theorem dX12_copy_135 : decode cX12_copy 135 = .ok (.iastore, 1) := by decide +kernel
theorem dX12_copy_136 : decode cX12_copy 136 = .ok (.return_, 1) := by decide +kernel
theorem dX12_goHour_0 : decode cX12_goHour 0 = .ok (.iconst 0, 1) := by decide +kernel
theorem dX12_goHour_1 : decode cX12_goHour 1 = .ok (.istore_n 2, 1) := by decide +kernel
theorem dX12_goHour_2 : decode cX12_goHour 2 = .ok (.iload_n 2, 1) := by decide +kernel
theorem dX12_goHour_3 : decode cX12_goHour 3 = .ok (.aload_n 0, 1) := by decide +kernel
theorem dX12_goHour_4 : decode cX12_goHour 4 = .ok (.getfield 28, 3) := by decide +kernel
theorem dX12_goHour_7 : decode cX12_goHour 7 = .ok (.iconst 0, 1) := by decide +kernel
theorem dX12_goHour_8 : decode cX12_goHour 8 = .ok (.iaload, 1) := by decide +kernel
theorem dX12_goHour_9 : decode cX12_goHour 9 = .ok (.if_icmp .ge 63, 3) := by decide +kernel
theorem dX12_goHour_12 : decode cX12_goHour 12 = .ok (.bipush 10, 2) := by decide +kernel
theorem dX12_goHour_14 : decode cX12_goHour 14 = .ok (.iload_n 1, 1) := by decide +kernel
theorem dX12_goHour_15 : decode cX12_goHour 15 = .ok (.imul, 1) := by decide +kernel
theorem dX12_goHour_16 : decode cX12_goHour 16 = .ok (.iload_n 2, 1) := by decide +kernel
theorem dX12_goHour_17 : decode cX12_goHour 17 = .ok (.iadd, 1) := by decide +kernel
theorem dX12_goHour_18 : decode cX12_goHour 18 = .ok (.istore_n 3, 1) := by decide +kernel
theorem dX12_goHour_19 : decode cX12_goHour 19 = .ok (.aload_n 0, 1) := by decide +kernel
theorem dX12_goHour_20 : decode cX12_goHour 20 = .ok (.getfield 79, 3) := by decide +kernel
theorem dX12_goHour_23 : decode cX12_goHour 23 = .ok (.iload_n 3, 1) := by decide +kernel
theorem dX12_goHour_24 : decode cX12_goHour 24 = .ok (.dup2, 1) := by decide +kernel
theorem dX12_goHour_25 : decode cX12_goHour 25 = .ok (.iaload, 1) := by decide +kernel
theorem dX12_goHour_26 : decode cX12_goHour 26 = .ok (.aload_n 0, 1) := by decide +kernel
theorem dX12_goHour_27 : decode cX12_goHour 27 = .ok (.getfield 82, 3) := by decide +kernel
theorem dX12_goHour_30 : decode cX12_goHour 30 = .ok (.iload_n 3, 1) := by decide +kernel
theorem dX12_goHour_31 : decode cX12_goHour 31 = .ok (.iaload, 1) := by decide +kernel
theorem dX12_goHour_32 : decode cX12_goHour 32 = .ok (.ifCond .ne 31, 3) := by decide +kernel
theorem dX12_goHour_35 : decode cX12_goHour 35 = .ok (.aload_n 0, 1) := by decide +kernel
theorem dX12_goHour_36 : decode cX12_goHour 36 = .ok (.getfield 73, 3) := by decide +kernel
theorem dX12_goHour_39 : decode cX12_goHour 39 = .ok (.iload_n 3, 1) := by decide +kernel
theorem dX12_goHour_40 : decode cX12_goHour 40 = .ok (.iaload, 1) := by decide +kernel
theorem dX12_goHour_41 : decode cX12_goHour 41 = .ok (.aload_n 0, 1) := by decide +kernel
theorem dX12_goHour_42 : decode cX12_goHour 42 = .ok (.aload_n 0, 1) := by decide +kernel
theorem dX12_goHour_43 : decode cX12_goHour 43 = .ok (.getfield 76, 3) := by decide +kernel
theorem dX12_goHour_46 : decode cX12_goHour 46 = .ok (.iload_n 3, 1) := by decide +kernel
theorem dX12_goHour_47 : decode cX12_goHour 47 = .ok (.iaload, 1) := by decide +kernel
theorem dX12_goHour_48 : decode cX12_goHour 48 = .ok (.aload_n 0, 1) := by decide +kernel
theorem dX12_goHour_49 : decode cX12_goHour 49 = .ok (.getfield 88, 3) := by decide +kernel
theorem dX12_goHour_52 : decode cX12_goHour 52 = .ok (.iload_n 1, 1) := by decide +kernel
theorem dX12_goHour_53 : decode cX12_goHour 53 = .ok (.iaload, 1) := by decide +kernel
theorem dX12_goHour_54 : decode cX12_goHour 54 = .ok (.invokevirtual 173, 3) := by decide +kernel
theorem dX12_goHour_57 : decode cX12_goHour 57 = .ok (.invokestatic 177, 3) := by decide +kernel
theorem dX12_goHour_60 : decode cX12_goHour 60 = .ok (.goto 4, 3) := by decide +kernel
theorem dX12_goHour_63 : decode cX12_goHour 63 = .ok (.iconst 0, 1) := by decide +kernel
theorem dX12_goHour_64 : decode cX12_goHour 64 = .ok (.iadd, 1) := by decide +kernel
theorem dX12_goHour_65 : decode cX12_goHour 65 = .ok (.iastore, 1) := by decide +kernel
theorem dX12_goHour_66 : decode cX12_goHour 66 = .ok (.iinc 2 1, 3) := by decide +kernel
theorem dX12_goHour_69 : decode cX12_goHour 69 = .ok (.goto (-67), 3) := by decide +kernel
theorem dX12_goHour_72 : decode cX12_goHour 72 = .ok (.aload_n 0, 1) := by decide +kernel
theorem dX12_goHour_73 : decode cX12_goHour 73 = .ok (.getfield 88, 3) := by decide +kernel
theorem dX12_goHour_76 : decode cX12_goHour 76 = .ok (.iload_n 1, 1) := by decide +kernel
theorem dX12_goHour_77 : decode cX12_goHour 77 = .ok (.dup2, 1) := by decide +kernel
end
section
theorem dX12_goHour_78 : decode cX12_goHour 78 = .ok (.iaload, 1) := by decide +kernel
theorem dX12_goHour_79 : decode cX12_goHour 79 = .ok (.iconst 1, 1) := by decide +kernel
theorem dX12_goHour_80 : decode cX12_goHour 80 = .ok (.iadd, 1) := by decide +kernel
theorem dX12_goHour_81 : decode cX12_goHour 81 = .ok (.iastore, 1) := by decide +kernel
theorem dX12_goHour_82 : decode cX12_goHour 82 = .ok (.return_, 1) := by decide +kernel
theorem dX12_offCoin_0 : decode cX12_offCoin 0 = .ok (.iconst 0, 1) := by decide +kernel
theorem dX12_offCoin_1 : decode cX12_offCoin 1 = .ok (.istore_n 2, 1) := by decide +kernel
theorem dX12_offCoin_2 : decode cX12_offCoin 2 = .ok (.iconst 0, 1) := by decide +kernel
theorem dX12_offCoin_3 : decode cX12_offCoin 3 = .ok (.istore_n 3, 1) := by decide +kernel
theorem dX12_offCoin_4 : decode cX12_offCoin 4 = .ok (.iload_n 3, 1) := by decide +kernel
theorem dX12_offCoin_5 : decode cX12_offCoin 5 = .ok (.aload_n 0, 1) := by decide +kernel
theorem dX12_offCoin_6 : decode cX12_offCoin 6 = .ok (.getfield 28, 3) := by decide +kernel
theorem dX12_offCoin_9 : decode cX12_offCoin 9 = .ok (.iconst 0, 1) := by decide +kernel
theorem dX12_offCoin_10 : decode cX12_offCoin 10 = .ok (.iaload, 1) := by decide +kernel
theorem dX12_offCoin_11 : decode cX12_offCoin 11 = .ok (.if_icmp .ge 49, 3) := by decide +kernel
theorem dX12_offCoin_14 : decode cX12_offCoin 14 = .ok (.iload_n 2, 1) := by decide +kernel
theorem dX12_offCoin_15 : decode cX12_offCoin 15 = .ok (.aload_n 0, 1) := by decide +kernel
theorem dX12_offCoin_16 : decode cX12_offCoin 16 = .ok (.getfield 82, 3) := by decide +kernel
theorem dX12_offCoin_19 : decode cX12_offCoin 19 = .ok (.bipush 10, 2) := by decide +kernel
theorem dX12_offCoin_21 : decode cX12_offCoin 21 = .ok (.iload_n 1, 1) := by decide +kernel
theorem dX12_offCoin_22 : decode cX12_offCoin 22 = .ok (.imul, 1) := by decide +kernel
theorem dX12_offCoin_23 : decode cX12_offCoin 23 = .ok (.iload_n 3, 1) := by decide +kernel
theorem dX12_offCoin_24 : decode cX12_offCoin 24 = .ok (.iadd, 1) := by decide +kernel
theorem dX12_offCoin_25 : decode cX12_offCoin 25 = .ok (.iaload, 1) := by decide +kernel
theorem dX12_offCoin_26 : decode cX12_offCoin 26 = .ok (.ifCond .ne 25, 3) := by decide +kernel
theorem dX12_offCoin_29 : decode cX12_offCoin 29 = .ok (.aload_n 0, 1) := by decide +kernel
theorem dX12_offCoin_30 : decode cX12_offCoin 30 = .ok (.bipush 10, 2) := by decide +kernel
theorem dX12_offCoin_32 : decode cX12_offCoin 32 = .ok (.iload_n 1, 1) := by decide +kernel
theorem dX12_offCoin_33 : decode cX12_offCoin 33 = .ok (.imul, 1) := by decide +kernel
theorem dX12_offCoin_34 : decode cX12_offCoin 34 = .ok (.iload_n 3, 1) := by decide +kernel
theorem dX12_offCoin_35 : decode cX12_offCoin 35 = .ok (.iadd, 1) := by decide +kernel
theorem dX12_offCoin_36 : decode cX12_offCoin 36 = .ok (.invokevirtual 180, 3) := by decide +kernel
theorem dX12_offCoin_39 : decode cX12_offCoin 39 = .ok (.ifCond .eq 12, 3) := by decide +kernel
theorem dX12_offCoin_42 : decode cX12_offCoin 42 = .ok (.aload_n 0, 1) := by decide +kernel
theorem dX12_offCoin_43 : decode cX12_offCoin 43 = .ok (.getfield 37, 3) := by decide +kernel
theorem dX12_offCoin_46 : decode cX12_offCoin 46 = .ok (.iload_n 3, 1) := by decide +kernel
theorem dX12_offCoin_47 : decode cX12_offCoin 47 = .ok (.iaload, 1) := by decide +kernel
theorem dX12_offCoin_48 : decode cX12_offCoin 48 = .ok (.goto 4, 3) := by decide +kernel
theorem dX12_offCoin_51 : decode cX12_offCoin 51 = .ok (.iconst 0, 1) := by decide +kernel
theorem dX12_offCoin_52 : decode cX12_offCoin 52 = .ok (.iadd, 1) := by decide +kernel
theorem dX12_offCoin_53 : decode cX12_offCoin 53 = .ok (.istore_n 2, 1) := by decide +kernel
theorem dX12_offCoin_54 : decode cX12_offCoin 54 = .ok (.iinc 3 1, 3) := by decide +kernel
theorem dX12_offCoin_57 : decode cX12_offCoin 57 = .ok (.goto (-53), 3) := by decide +kernel
theorem dX12_offCoin_60 : decode cX12_offCoin 60 = .ok (.iload_n 2, 1) := by decide +kernel
theorem dX12_offCoin_61 : decode cX12_offCoin 61 = .ok (.ireturn, 1) := by decide +kernel
theorem dX12_food_0 : decode cX12_food 0 = .ok (.aload_n 0, 1) := by decide +kernel
theorem dX12_food_1 : decode cX12_food 1 = .ok (.iload_n 1, 1) := by decide +kernel
theorem dX12_food_2 : decode cX12_food 2 = .ok (.invokevirtual 183, 3) := by decide +kernel
theorem dX12_food_5 : decode cX12_food 5 = .ok (.ifCond .eq 15, 3) := by decide +kernel
theorem dX12_food_8 : decode cX12_food 8 = .ok (.iload_n 2, 1) := by decide +kernel
theorem dX12_food_9 : decode cX12_food 9 = .ok (.i2l, 1) := by decide +kernel
theorem dX12_food_10 : decode cX12_food 10 = .ok (.lconst 0, 1) := by decide +kernel
theorem dX12_food_11 : decode cX12_food 11 = .ok (.ldc2_w 186, 3) := by decide +kernel
theorem dX12_food_14 : decode cX12_food 14 = .ok (.invokestatic 106, 3) := by decide +kernel
theorem dX12_food_17 : decode cX12_food 17 = .ok (.ifCond .ne 5, 3) := by decide +kernel
theorem dX12_food_20 : decode cX12_food 20 = .ok (.iconst (-1), 1) := by decide +kernel
theorem dX12_food_21 : decode cX12_food 21 = .ok (.ireturn, 1) := by decide +kernel
theorem dX12_food_22 : decode cX12_food 22 = .ok (.iload_n 2, 1) := by decide +kernel
theorem dX12_food_23 : decode cX12_food 23 = .ok (.tableswitch 85 0 5 #[37, 44, 51, 58, 64, 71], 37) := by decide +kernel
theorem dX12_food_60 : decode cX12_food 60 = .ok (.aload_n 0, 1) := by decide +kernel
theorem dX12_food_61 : decode cX12_food 61 = .ok (.getfield 73, 3) := by decide +kernel
theorem dX12_food_64 : decode cX12_food 64 = .ok (.iload_n 1, 1) := by decide +kernel
theorem dX12_food_65 : decode cX12_food 65 = .ok (.iaload, 1) := by decide +kernel
theorem dX12_food_66 : decode cX12_food 66 = .ok (.ireturn, 1) := by decide +kernel
theorem dX12_food_67 : decode cX12_food 67 = .ok (.aload_n 0, 1) := by decide +kernel
theorem dX12_food_68 : decode cX12_food 68 = .ok (.getfield 76, 3) := by decide +kernel
theorem dX12_food_71 : decode cX12_food 71 = .ok (.iload_n 1, 1) := by decide +kernel
theorem dX12_food_72 : decode cX12_food 72 = .ok (.iaload, 1) := by decide +kernel
theorem dX12_food_73 : decode cX12_food 73 = .ok (.ireturn, 1) := by decide +kernel
theorem dX12_food_74 : decode cX12_food 74 = .ok (.aload_n 0, 1) := by decide +kernel
theorem dX12_food_75 : decode cX12_food 75 = .ok (.getfield 79, 3) := by decide +kernel
theorem dX12_food_78 : decode cX12_food 78 = .ok (.iload_n 1, 1) := by decide +kernel
theorem dX12_food_79 : decode cX12_food 79 = .ok (.iaload, 1) := by decide +kernel
theorem dX12_food_80 : decode cX12_food 80 = .ok (.ireturn, 1) := by decide +kernel
theorem dX12_food_81 : decode cX12_food 81 = .ok (.aload_n 0, 1) := by decide +kernel
theorem dX12_food_82 : decode cX12_food 82 = .ok (.iload_n 1, 1) := by decide +kernel
theorem dX12_food_83 : decode cX12_food 83 = .ok (.invokevirtual 170, 3) := by decide +kernel
theorem dX12_food_86 : decode cX12_food 86 = .ok (.ireturn, 1) := by decide +kernel
theorem dX12_food_87 : decode cX12_food 87 = .ok (.aload_n 0, 1) := by decide +kernel
theorem dX12_food_88 : decode cX12_food 88 = .ok (.getfield 82, 3) := by decide +kernel
theorem dX12_food_91 : decode cX12_food 91 = .ok (.iload_n 1, 1) := by decide +kernel
theorem dX12_food_92 : decode cX12_food 92 = .ok (.iaload, 1) := by decide +kernel
theorem dX12_food_93 : decode cX12_food 93 = .ok (.ireturn, 1) := by decide +kernel
theorem dX12_food_94 : decode cX12_food 94 = .ok (.aload_n 0, 1) := by decide +kernel
theorem dX12_food_95 : decode cX12_food 95 = .ok (.iload_n 1, 1) := by decide +kernel
theorem dX12_food_96 : decode cX12_food 96 = .ok (.invokevirtual 180, 3) := by decide +kernel
theorem dX12_food_99 : decode cX12_food 99 = .ok (.ifCond .eq 7, 3) := by decide +kernel
theorem dX12_food_102 : decode cX12_food 102 = .ok (.iconst 1, 1) := by decide +kernel
theorem dX12_food_103 : decode cX12_food 103 = .ok (.goto 4, 3) := by decide +kernel
theorem dX12_food_106 : decode cX12_food 106 = .ok (.iconst 0, 1) := by decide +kernel
theorem dX12_food_107 : decode cX12_food 107 = .ok (.ireturn, 1) := by decide +kernel
theorem dX12_food_108 : decode cX12_food 108 = .ok (.aload_n 0, 1) := by decide +kernel
theorem dX12_food_109 : decode cX12_food 109 = .ok (.getfield 46, 3) := by decide +kernel
theorem dX12_food_112 : decode cX12_food 112 = .ok (.iload_n 1, 1) := by decide +kernel
theorem dX12_food_113 : decode cX12_food 113 = .ok (.iaload, 1) := by decide +kernel
theorem dX12_food_114 : decode cX12_food 114 = .ok (.ireturn, 1) := by decide +kernel
theorem dX12_warmth_0 : decode cX12_warmth 0 = .ok (.aload_n 0, 1) := by decide +kernel
theorem dX12_warmth_1 : decode cX12_warmth 1 = .ok (.iload_n 1, 1) := by decide +kernel
theorem dX12_warmth_2 : decode cX12_warmth 2 = .ok (.invokevirtual 188, 3) := by decide +kernel
theorem dX12_warmth_5 : decode cX12_warmth 5 = .ok (.ifCond .eq 24, 3) := by decide +kernel
theorem dX12_warmth_8 : decode cX12_warmth 8 = .ok (.iload_n 2, 1) := by decide +kernel
theorem dX12_warmth_9 : decode cX12_warmth 9 = .ok (.i2l, 1) := by decide +kernel
theorem dX12_warmth_10 : decode cX12_warmth 10 = .ok (.lconst 0, 1) := by decide +kernel
theorem dX12_warmth_11 : decode cX12_warmth 11 = .ok (.ldc2_w 191, 3) := by decide +kernel
theorem dX12_warmth_14 : decode cX12_warmth 14 = .ok (.invokestatic 106, 3) := by decide +kernel
theorem dX12_warmth_17 : decode cX12_warmth 17 = .ok (.ifCond .eq 12, 3) := by decide +kernel
theorem dX12_warmth_20 : decode cX12_warmth 20 = .ok (.aload_n 0, 1) := by decide +kernel
theorem dX12_warmth_21 : decode cX12_warmth 21 = .ok (.iload_n 1, 1) := by decide +kernel
theorem dX12_warmth_22 : decode cX12_warmth 22 = .ok (.iload_n 2, 1) := by decide +kernel
theorem dX12_warmth_23 : decode cX12_warmth 23 = .ok (.invokevirtual 173, 3) := by decide +kernel
theorem dX12_warmth_26 : decode cX12_warmth 26 = .ok (.goto 4, 3) := by decide +kernel
theorem dX12_warmth_29 : decode cX12_warmth 29 = .ok (.iconst (-1), 1) := by decide +kernel
theorem dX12_warmth_30 : decode cX12_warmth 30 = .ok (.ireturn, 1) := by decide +kernel
theorem dX12_hours_0 : decode cX12_hours 0 = .ok (.iload_n 1, 1) := by decide +kernel
theorem dX12_hours_1 : decode cX12_hours 1 = .ok (.i2l, 1) := by decide +kernel
theorem dX12_hours_2 : decode cX12_hours 2 = .ok (.lconst 1, 1) := by decide +kernel
theorem dX12_hours_3 : decode cX12_hours 3 = .ok (.ldc2_w 193, 3) := by decide +kernel
theorem dX12_hours_6 : decode cX12_hours 6 = .ok (.invokestatic 106, 3) := by decide +kernel
theorem dX12_hours_9 : decode cX12_hours 9 = .ok (.ifCond .ne 5, 3) := by decide +kernel
theorem dX12_hours_12 : decode cX12_hours 12 = .ok (.iconst (-1), 1) := by decide +kernel
theorem dX12_hours_13 : decode cX12_hours 13 = .ok (.ireturn, 1) := by decide +kernel
theorem dX12_hours_14 : decode cX12_hours 14 = .ok (.aload_n 0, 1) := by decide +kernel
theorem dX12_hours_15 : decode cX12_hours 15 = .ok (.getfield 88, 3) := by decide +kernel
theorem dX12_hours_18 : decode cX12_hours 18 = .ok (.iconst 0, 1) := by decide +kernel
theorem dX12_hours_19 : decode cX12_hours 19 = .ok (.iaload, 1) := by decide +kernel
theorem dX12_hours_20 : decode cX12_hours 20 = .ok (.iload_n 1, 1) := by decide +kernel
theorem dX12_hours_21 : decode cX12_hours 21 = .ok (.iadd, 1) := by decide +kernel
theorem dX12_hours_22 : decode cX12_hours 22 = .ok (.ldc 195, 2) := by decide +kernel
theorem dX12_hours_24 : decode cX12_hours 24 = .ok (.if_icmp .le 6, 3) := by decide +kernel
theorem dX12_hours_27 : decode cX12_hours 27 = .ok (.bipush (-2), 2) := by decide +kernel
theorem dX12_hours_29 : decode cX12_hours 29 = .ok (.ireturn, 1) := by decide +kernel
theorem dX12_hours_30 : decode cX12_hours 30 = .ok (.iconst 0, 1) := by decide +kernel
theorem dX12_hours_31 : decode cX12_hours 31 = .ok (.istore_n 2, 1) := by decide +kernel
theorem dX12_hours_32 : decode cX12_hours 32 = .ok (.iload_n 2, 1) := by decide +kernel
theorem dX12_hours_33 : decode cX12_hours 33 = .ok (.iload_n 1, 1) := by decide +kernel
theorem dX12_hours_34 : decode cX12_hours 34 = .ok (.if_icmp .ge 14, 3) := by decide +kernel
theorem dX12_hours_37 : decode cX12_hours 37 = .ok (.aload_n 0, 1) := by decide +kernel
theorem dX12_hours_38 : decode cX12_hours 38 = .ok (.iconst 0, 1) := by decide +kernel
theorem dX12_hours_39 : decode cX12_hours 39 = .ok (.invokevirtual 196, 3) := by decide +kernel
theorem dX12_hours_42 : decode cX12_hours 42 = .ok (.iinc 2 1, 3) := by decide +kernel
theorem dX12_hours_45 : decode cX12_hours 45 = .ok (.goto (-13), 3) := by decide +kernel
theorem dX12_hours_48 : decode cX12_hours 48 = .ok (.iconst 0, 1) := by decide +kernel
theorem dX12_hours_49 : decode cX12_hours 49 = .ok (.istore_n 2, 1) := by decide +kernel
theorem dX12_hours_50 : decode cX12_hours 50 = .ok (.iconst 0, 1) := by decide +kernel
theorem dX12_hours_51 : decode cX12_hours 51 = .ok (.istore_n 3, 1) := by decide +kernel
theorem dX12_hours_52 : decode cX12_hours 52 = .ok (.iload_n 3, 1) := by decide +kernel
theorem dX12_hours_53 : decode cX12_hours 53 = .ok (.aload_n 0, 1) := by decide +kernel
theorem dX12_hours_54 : decode cX12_hours 54 = .ok (.getfield 28, 3) := by decide +kernel
theorem dX12_hours_57 : decode cX12_hours 57 = .ok (.iconst 0, 1) := by decide +kernel
theorem dX12_hours_58 : decode cX12_hours 58 = .ok (.iaload, 1) := by decide +kernel
theorem dX12_hours_59 : decode cX12_hours 59 = .ok (.if_icmp .ge 34, 3) := by decide +kernel
theorem dX12_hours_62 : decode cX12_hours 62 = .ok (.iload_n 2, 1) := by decide +kernel
theorem dX12_hours_63 : decode cX12_hours 63 = .ok (.aload_n 0, 1) := by decide +kernel
theorem dX12_hours_64 : decode cX12_hours 64 = .ok (.getfield 82, 3) := by decide +kernel
theorem dX12_hours_67 : decode cX12_hours 67 = .ok (.iload_n 3, 1) := by decide +kernel
theorem dX12_hours_68 : decode cX12_hours 68 = .ok (.iaload, 1) := by decide +kernel
theorem dX12_hours_69 : decode cX12_hours 69 = .ok (.ifCond .ne 15, 3) := by decide +kernel
theorem dX12_hours_72 : decode cX12_hours 72 = .ok (.aload_n 0, 1) := by decide +kernel
theorem dX12_hours_73 : decode cX12_hours 73 = .ok (.iload_n 3, 1) := by decide +kernel
theorem dX12_hours_74 : decode cX12_hours 74 = .ok (.invokevirtual 180, 3) := by decide +kernel
theorem dX12_hours_77 : decode cX12_hours 77 = .ok (.ifCond .eq 7, 3) := by decide +kernel
theorem dX12_hours_80 : decode cX12_hours 80 = .ok (.iconst 1, 1) := by decide +kernel
theorem dX12_hours_81 : decode cX12_hours 81 = .ok (.goto 4, 3) := by decide +kernel
theorem dX12_hours_84 : decode cX12_hours 84 = .ok (.iconst 0, 1) := by decide +kernel
theorem dX12_hours_85 : decode cX12_hours 85 = .ok (.iadd, 1) := by decide +kernel
theorem dX12_hours_86 : decode cX12_hours 86 = .ok (.istore_n 2, 1) := by decide +kernel
theorem dX12_hours_87 : decode cX12_hours 87 = .ok (.iinc 3 1, 3) := by decide +kernel
theorem dX12_hours_90 : decode cX12_hours 90 = .ok (.goto (-38), 3) := by decide +kernel
theorem dX12_hours_93 : decode cX12_hours 93 = .ok (.iload_n 2, 1) := by decide +kernel
theorem dX12_hours_94 : decode cX12_hours 94 = .ok (.ireturn, 1) := by decide +kernel
theorem dX12_inCell_0 : decode cX12_inCell 0 = .ok (.iconst 0, 1) := by decide +kernel
theorem dX12_inCell_1 : decode cX12_inCell 1 = .ok (.istore_n 2, 1) := by decide +kernel
theorem dX12_inCell_2 : decode cX12_inCell 2 = .ok (.iconst 0, 1) := by decide +kernel
theorem dX12_inCell_3 : decode cX12_inCell 3 = .ok (.istore_n 3, 1) := by decide +kernel
theorem dX12_inCell_4 : decode cX12_inCell 4 = .ok (.iload_n 3, 1) := by decide +kernel
theorem dX12_inCell_5 : decode cX12_inCell 5 = .ok (.aload_n 0, 1) := by decide +kernel
theorem dX12_inCell_6 : decode cX12_inCell 6 = .ok (.getfield 28, 3) := by decide +kernel
theorem dX12_inCell_9 : decode cX12_inCell 9 = .ok (.iconst 0, 1) := by decide +kernel
theorem dX12_inCell_10 : decode cX12_inCell 10 = .ok (.iaload, 1) := by decide +kernel
theorem dX12_inCell_11 : decode cX12_inCell 11 = .ok (.if_icmp .ge 36, 3) := by decide +kernel
theorem dX12_inCell_14 : decode cX12_inCell 14 = .ok (.iload_n 2, 1) := by decide +kernel
theorem dX12_inCell_15 : decode cX12_inCell 15 = .ok (.aload_n 0, 1) := by decide +kernel
theorem dX12_inCell_16 : decode cX12_inCell 16 = .ok (.getfield 82, 3) := by decide +kernel
theorem dX12_inCell_19 : decode cX12_inCell 19 = .ok (.iload_n 3, 1) := by decide +kernel
theorem dX12_inCell_20 : decode cX12_inCell 20 = .ok (.iaload, 1) := by decide +kernel
theorem dX12_inCell_21 : decode cX12_inCell 21 = .ok (.ifCond .ne 17, 3) := by decide +kernel
theorem dX12_inCell_24 : decode cX12_inCell 24 = .ok (.aload_n 0, 1) := by decide +kernel
theorem dX12_inCell_25 : decode cX12_inCell 25 = .ok (.getfield 76, 3) := by decide +kernel
theorem dX12_inCell_28 : decode cX12_inCell 28 = .ok (.iload_n 3, 1) := by decide +kernel
theorem dX12_inCell_29 : decode cX12_inCell 29 = .ok (.iaload, 1) := by decide +kernel
theorem dX12_inCell_30 : decode cX12_inCell 30 = .ok (.iload_n 1, 1) := by decide +kernel
theorem dX12_inCell_31 : decode cX12_inCell 31 = .ok (.if_icmp .ne 7, 3) := by decide +kernel
theorem dX12_inCell_34 : decode cX12_inCell 34 = .ok (.iconst 1, 1) := by decide +kernel
theorem dX12_inCell_35 : decode cX12_inCell 35 = .ok (.goto 4, 3) := by decide +kernel
theorem dX12_inCell_38 : decode cX12_inCell 38 = .ok (.iconst 0, 1) := by decide +kernel
theorem dX12_inCell_39 : decode cX12_inCell 39 = .ok (.iadd, 1) := by decide +kernel
theorem dX12_inCell_40 : decode cX12_inCell 40 = .ok (.istore_n 2, 1) := by decide +kernel
theorem dX12_inCell_41 : decode cX12_inCell 41 = .ok (.iinc 3 1, 3) := by decide +kernel
theorem dX12_inCell_44 : decode cX12_inCell 44 = .ok (.goto (-40), 3) := by decide +kernel
theorem dX12_inCell_47 : decode cX12_inCell 47 = .ok (.iload_n 2, 1) := by decide +kernel
theorem dX12_inCell_48 : decode cX12_inCell 48 = .ok (.ireturn, 1) := by decide +kernel
theorem dX12_move_0 : decode cX12_move 0 = .ok (.aload_n 0, 1) := by decide +kernel
theorem dX12_move_1 : decode cX12_move 1 = .ok (.iload_n 1, 1) := by decide +kernel
theorem dX12_move_2 : decode cX12_move 2 = .ok (.invokevirtual 183, 3) := by decide +kernel
theorem dX12_move_5 : decode cX12_move 5 = .ok (.ifCond .eq 11, 3) := by decide +kernel
theorem dX12_move_8 : decode cX12_move 8 = .ok (.aload_n 0, 1) := by decide +kernel
theorem dX12_move_9 : decode cX12_move 9 = .ok (.iload_n 2, 1) := by decide +kernel
theorem dX12_move_10 : decode cX12_move 10 = .ok (.invokevirtual 188, 3) := by decide +kernel
theorem dX12_move_13 : decode cX12_move 13 = .ok (.ifCond .ne 5, 3) := by decide +kernel
theorem dX12_move_16 : decode cX12_move 16 = .ok (.iconst (-1), 1) := by decide +kernel
theorem dX12_move_17 : decode cX12_move 17 = .ok (.ireturn, 1) := by decide +kernel
theorem dX12_move_18 : decode cX12_move 18 = .ok (.aload_n 0, 1) := by decide +kernel
theorem dX12_move_19 : decode cX12_move 19 = .ok (.getfield 82, 3) := by decide +kernel
theorem dX12_move_22 : decode cX12_move 22 = .ok (.iload_n 1, 1) := by decide +kernel
theorem dX12_move_23 : decode cX12_move 23 = .ok (.iaload, 1) := by decide +kernel
theorem dX12_move_24 : decode cX12_move 24 = .ok (.ifCond .ne 27, 3) := by decide +kernel
theorem dX12_move_27 : decode cX12_move 27 = .ok (.aload_n 0, 1) := by decide +kernel
theorem dX12_move_28 : decode cX12_move 28 = .ok (.getfield 76, 3) := by decide +kernel
theorem dX12_move_31 : decode cX12_move 31 = .ok (.iload_n 1, 1) := by decide +kernel
theorem dX12_move_32 : decode cX12_move 32 = .ok (.iaload, 1) := by decide +kernel
theorem dX12_move_33 : decode cX12_move 33 = .ok (.iload_n 2, 1) := by decide +kernel
theorem dX12_move_34 : decode cX12_move 34 = .ok (.if_icmp .eq 17, 3) := by decide +kernel
theorem dX12_move_37 : decode cX12_move 37 = .ok (.aload_n 0, 1) := by decide +kernel
theorem dX12_move_38 : decode cX12_move 38 = .ok (.iload_n 2, 1) := by decide +kernel
theorem dX12_move_39 : decode cX12_move 39 = .ok (.invokevirtual 199, 3) := by decide +kernel
theorem dX12_move_42 : decode cX12_move 42 = .ok (.aload_n 0, 1) := by decide +kernel
theorem dX12_move_43 : decode cX12_move 43 = .ok (.getfield 22, 3) := by decide +kernel
theorem dX12_move_46 : decode cX12_move 46 = .ok (.iload_n 2, 1) := by decide +kernel
theorem dX12_move_47 : decode cX12_move 47 = .ok (.iaload, 1) := by decide +kernel
theorem dX12_move_48 : decode cX12_move 48 = .ok (.if_icmp .ne 6, 3) := by decide +kernel
theorem dX12_move_51 : decode cX12_move 51 = .ok (.bipush (-2), 2) := by decide +kernel
theorem dX12_move_53 : decode cX12_move 53 = .ok (.ireturn, 1) := by decide +kernel
theorem dX12_move_54 : decode cX12_move 54 = .ok (.aload_n 0, 1) := by decide +kernel
theorem dX12_move_55 : decode cX12_move 55 = .ok (.getfield 76, 3) := by decide +kernel
theorem dX12_move_58 : decode cX12_move 58 = .ok (.iload_n 1, 1) := by decide +kernel
theorem dX12_move_59 : decode cX12_move 59 = .ok (.iload_n 2, 1) := by decide +kernel
theorem dX12_move_60 : decode cX12_move 60 = .ok (.iastore, 1) := by decide +kernel
theorem dX12_move_61 : decode cX12_move 61 = .ok (.aload_n 0, 1) := by decide +kernel
theorem dX12_move_62 : decode cX12_move 62 = .ok (.iload_n 2, 1) := by decide +kernel
theorem dX12_move_63 : decode cX12_move 63 = .ok (.invokevirtual 199, 3) := by decide +kernel
theorem dX12_move_66 : decode cX12_move 66 = .ok (.ireturn, 1) := by decide +kernel
theorem dX12_make_0 : decode cX12_make 0 = .ok (.aload_n 0, 1) := by decide +kernel
theorem dX12_make_1 : decode cX12_make 1 = .ok (.iload_n 1, 1) := by decide +kernel
theorem dX12_make_2 : decode cX12_make 2 = .ok (.invokevirtual 183, 3) := by decide +kernel
theorem dX12_make_5 : decode cX12_make 5 = .ok (.ifCond .eq 15, 3) := by decide +kernel
theorem dX12_make_8 : decode cX12_make 8 = .ok (.iload_n 2, 1) := by decide +kernel
theorem dX12_make_9 : decode cX12_make 9 = .ok (.i2l, 1) := by decide +kernel
theorem dX12_make_10 : decode cX12_make 10 = .ok (.lconst 0, 1) := by decide +kernel
theorem dX12_make_11 : decode cX12_make 11 = .ok (.ldc2_w 127, 3) := by decide +kernel
theorem dX12_make_14 : decode cX12_make 14 = .ok (.invokestatic 106, 3) := by decide +kernel
theorem dX12_make_17 : decode cX12_make 17 = .ok (.ifCond .ne 5, 3) := by decide +kernel
theorem dX12_make_20 : decode cX12_make 20 = .ok (.iconst (-1), 1) := by decide +kernel
theorem dX12_make_21 : decode cX12_make 21 = .ok (.ireturn, 1) := by decide +kernel
theorem dX12_make_22 : decode cX12_make 22 = .ok (.aload_n 0, 1) := by decide +kernel
theorem dX12_make_23 : decode cX12_make 23 = .ok (.getfield 73, 3) := by decide +kernel
theorem dX12_make_26 : decode cX12_make 26 = .ok (.iload_n 1, 1) := by decide +kernel
theorem dX12_make_27 : decode cX12_make 27 = .ok (.iaload, 1) := by decide +kernel
theorem dX12_make_28 : decode cX12_make 28 = .ok (.istore_n 3, 1) := by decide +kernel
theorem dX12_make_29 : decode cX12_make 29 = .ok (.iload_n 2, 1) := by decide +kernel
theorem dX12_make_30 : decode cX12_make 30 = .ok (.ifCond .ne 16, 3) := by decide +kernel
theorem dX12_make_33 : decode cX12_make 33 = .ok (.iload_n 3, 1) := by decide +kernel
theorem dX12_make_34 : decode cX12_make 34 = .ok (.iconst 3, 1) := by decide +kernel
theorem dX12_make_35 : decode cX12_make 35 = .ok (.if_icmp .ne 7, 3) := by decide +kernel
theorem dX12_make_38 : decode cX12_make 38 = .ok (.iconst 1, 1) := by decide +kernel
theorem dX12_make_39 : decode cX12_make 39 = .ok (.goto 52, 3) := by decide +kernel
theorem dX12_make_42 : decode cX12_make 42 = .ok (.iconst 0, 1) := by decide +kernel
theorem dX12_make_43 : decode cX12_make 43 = .ok (.goto 48, 3) := by decide +kernel
theorem dX12_make_46 : decode cX12_make 46 = .ok (.iload_n 2, 1) := by decide +kernel
theorem dX12_make_47 : decode cX12_make 47 = .ok (.iconst 1, 1) := by decide +kernel
theorem dX12_make_48 : decode cX12_make 48 = .ok (.if_icmp .ne 15, 3) := by decide +kernel
theorem dX12_make_51 : decode cX12_make 51 = .ok (.iload_n 3, 1) := by decide +kernel
theorem dX12_make_52 : decode cX12_make 52 = .ok (.ifCond .ne 7, 3) := by decide +kernel
theorem dX12_make_55 : decode cX12_make 55 = .ok (.iconst 1, 1) := by decide +kernel
theorem dX12_make_56 : decode cX12_make 56 = .ok (.goto 35, 3) := by decide +kernel
theorem dX12_make_59 : decode cX12_make 59 = .ok (.iconst 0, 1) := by decide +kernel
theorem dX12_make_60 : decode cX12_make 60 = .ok (.goto 31, 3) := by decide +kernel
theorem dX12_make_63 : decode cX12_make 63 = .ok (.iload_n 2, 1) := by decide +kernel
theorem dX12_make_64 : decode cX12_make 64 = .ok (.iconst 2, 1) := by decide +kernel
theorem dX12_make_65 : decode cX12_make 65 = .ok (.if_icmp .ne 16, 3) := by decide +kernel
theorem dX12_make_68 : decode cX12_make 68 = .ok (.iload_n 3, 1) := by decide +kernel
theorem dX12_make_69 : decode cX12_make 69 = .ok (.iconst 2, 1) := by decide +kernel
theorem dX12_make_70 : decode cX12_make 70 = .ok (.if_icmp .ge 7, 3) := by decide +kernel
theorem dX12_make_73 : decode cX12_make 73 = .ok (.iconst 1, 1) := by decide +kernel
theorem dX12_make_74 : decode cX12_make 74 = .ok (.goto 17, 3) := by decide +kernel
theorem dX12_make_77 : decode cX12_make 77 = .ok (.iconst 0, 1) := by decide +kernel
theorem dX12_make_78 : decode cX12_make 78 = .ok (.goto 13, 3) := by decide +kernel
theorem dX12_make_81 : decode cX12_make 81 = .ok (.iload_n 3, 1) := by decide +kernel
theorem dX12_make_82 : decode cX12_make 82 = .ok (.iconst 3, 1) := by decide +kernel
theorem dX12_make_83 : decode cX12_make 83 = .ok (.if_icmp .eq 7, 3) := by decide +kernel
theorem dX12_make_86 : decode cX12_make 86 = .ok (.iconst 1, 1) := by decide +kernel
theorem dX12_make_87 : decode cX12_make 87 = .ok (.goto 4, 3) := by decide +kernel
theorem dX12_make_90 : decode cX12_make 90 = .ok (.iconst 0, 1) := by decide +kernel
theorem dX12_make_91 : decode cX12_make 91 = .ok (.istore 4, 2) := by decide +kernel
theorem dX12_make_93 : decode cX12_make 93 = .ok (.aload_n 0, 1) := by decide +kernel
theorem dX12_make_94 : decode cX12_make 94 = .ok (.getfield 82, 3) := by decide +kernel
theorem dX12_make_97 : decode cX12_make 97 = .ok (.iload_n 1, 1) := by decide +kernel
theorem dX12_make_98 : decode cX12_make 98 = .ok (.iaload, 1) := by decide +kernel
theorem dX12_make_99 : decode cX12_make 99 = .ok (.ifCond .ne 8, 3) := by decide +kernel
theorem dX12_make_102 : decode cX12_make 102 = .ok (.iload 4, 2) := by decide +kernel
theorem dX12_make_104 : decode cX12_make 104 = .ok (.ifCond .ne 6, 3) := by decide +kernel
theorem dX12_make_107 : decode cX12_make 107 = .ok (.bipush (-2), 2) := by decide +kernel
theorem dX12_make_109 : decode cX12_make 109 = .ok (.ireturn, 1) := by decide +kernel
theorem dX12_make_110 : decode cX12_make 110 = .ok (.aload_n 0, 1) := by decide +kernel
theorem dX12_make_111 : decode cX12_make 111 = .ok (.getfield 73, 3) := by decide +kernel
theorem dX12_make_114 : decode cX12_make 114 = .ok (.iload_n 1, 1) := by decide +kernel
theorem dX12_make_115 : decode cX12_make 115 = .ok (.iload_n 2, 1) := by decide +kernel
theorem dX12_make_116 : decode cX12_make 116 = .ok (.ifCond .ne 7, 3) := by decide +kernel
theorem dX12_make_119 : decode cX12_make 119 = .ok (.iconst 1, 1) := by decide +kernel
theorem dX12_make_120 : decode cX12_make 120 = .ok (.goto 4, 3) := by decide +kernel
theorem dX12_make_123 : decode cX12_make 123 = .ok (.iload_n 2, 1) := by decide +kernel
theorem dX12_make_124 : decode cX12_make 124 = .ok (.iastore, 1) := by decide +kernel
theorem dX12_make_125 : decode cX12_make 125 = .ok (.iload_n 3, 1) := by decide +kernel
theorem dX12_make_126 : decode cX12_make 126 = .ok (.ireturn, 1) := by decide +kernel
theorem dX12_take_0 : decode cX12_take 0 = .ok (.aload_n 0, 1) := by decide +kernel
theorem dX12_take_1 : decode cX12_take 1 = .ok (.iload_n 1, 1) := by decide +kernel
theorem dX12_take_2 : decode cX12_take 2 = .ok (.invokevirtual 183, 3) := by decide +kernel
theorem dX12_take_5 : decode cX12_take 5 = .ok (.ifCond .ne 5, 3) := by decide +kernel
theorem dX12_take_8 : decode cX12_take 8 = .ok (.iconst (-1), 1) := by decide +kernel
theorem dX12_take_9 : decode cX12_take 9 = .ok (.ireturn, 1) := by decide +kernel
theorem dX12_take_10 : decode cX12_take 10 = .ok (.aload_n 0, 1) := by decide +kernel
theorem dX12_take_11 : decode cX12_take 11 = .ok (.getfield 82, 3) := by decide +kernel
theorem dX12_take_14 : decode cX12_take 14 = .ok (.iload_n 1, 1) := by decide +kernel
theorem dX12_take_15 : decode cX12_take 15 = .ok (.iaload, 1) := by decide +kernel
theorem dX12_take_16 : decode cX12_take 16 = .ok (.ifCond .eq 6, 3) := by decide +kernel
theorem dX12_take_19 : decode cX12_take 19 = .ok (.bipush (-2), 2) := by decide +kernel
theorem dX12_take_21 : decode cX12_take 21 = .ok (.ireturn, 1) := by decide +kernel
theorem dX12_take_22 : decode cX12_take 22 = .ok (.aload_n 0, 1) := by decide +kernel
theorem dX12_take_23 : decode cX12_take 23 = .ok (.getfield 82, 3) := by decide +kernel
theorem dX12_take_26 : decode cX12_take 26 = .ok (.iload_n 1, 1) := by decide +kernel
theorem dX12_take_27 : decode cX12_take 27 = .ok (.iload_n 2, 1) := by decide +kernel
theorem dX12_take_28 : decode cX12_take 28 = .ok (.iastore, 1) := by decide +kernel
theorem dX12_take_29 : decode cX12_take 29 = .ok (.aload_n 0, 1) := by decide +kernel
theorem dX12_take_30 : decode cX12_take 30 = .ok (.getfield 85, 3) := by decide +kernel
theorem dX12_take_33 : decode cX12_take 33 = .ok (.iload_n 1, 1) := by decide +kernel
theorem dX12_take_34 : decode cX12_take 34 = .ok (.aload_n 0, 1) := by decide +kernel
theorem dX12_take_35 : decode cX12_take 35 = .ok (.getfield 88, 3) := by decide +kernel
theorem dX12_take_38 : decode cX12_take 38 = .ok (.iconst 0, 1) := by decide +kernel
theorem dX12_take_39 : decode cX12_take 39 = .ok (.iaload, 1) := by decide +kernel
theorem dX12_take_40 : decode cX12_take 40 = .ok (.iastore, 1) := by decide +kernel
theorem dX12_take_41 : decode cX12_take 41 = .ok (.aload_n 0, 1) := by decide +kernel
theorem dX12_take_42 : decode cX12_take 42 = .ok (.iload_n 1, 1) := by decide +kernel
theorem dX12_take_43 : decode cX12_take 43 = .ok (.invokevirtual 180, 3) := by decide +kernel
theorem dX12_take_46 : decode cX12_take 46 = .ok (.ifCond .eq 7, 3) := by decide +kernel
theorem dX12_take_49 : decode cX12_take 49 = .ok (.iconst 1, 1) := by decide +kernel
theorem dX12_take_50 : decode cX12_take 50 = .ok (.goto 4, 3) := by decide +kernel
theorem dX12_take_53 : decode cX12_take 53 = .ok (.iconst 0, 1) := by decide +kernel
theorem dX12_take_54 : decode cX12_take 54 = .ok (.ireturn, 1) := by decide +kernel
theorem dX12_eat_0 : decode cX12_eat 0 = .ok (.aload_n 0, 1) := by decide +kernel
theorem dX12_eat_1 : decode cX12_eat 1 = .ok (.iload_n 1, 1) := by decide +kernel
theorem dX12_eat_2 : decode cX12_eat 2 = .ok (.iconst 1, 1) := by decide +kernel
theorem dX12_eat_3 : decode cX12_eat 3 = .ok (.invokevirtual 202, 3) := by decide +kernel
theorem dX12_eat_6 : decode cX12_eat 6 = .ok (.ireturn, 1) := by decide +kernel
theorem dX12_throwOut_0 : decode cX12_throwOut 0 = .ok (.aload_n 0, 1) := by decide +kernel
theorem dX12_throwOut_1 : decode cX12_throwOut 1 = .ok (.iload_n 1, 1) := by decide +kernel
theorem dX12_throwOut_2 : decode cX12_throwOut 2 = .ok (.iconst 2, 1) := by decide +kernel
theorem dX12_throwOut_3 : decode cX12_throwOut 3 = .ok (.invokevirtual 202, 3) := by decide +kernel
theorem dX12_throwOut_6 : decode cX12_throwOut 6 = .ok (.ireturn, 1) := by decide +kernel
theorem dX12_offIn_0 : decode cX12_offIn 0 = .ok (.aload_n 0, 1) := by decide +kernel
theorem dX12_offIn_1 : decode cX12_offIn 1 = .ok (.iload_n 1, 1) := by decide +kernel
theorem dX12_offIn_2 : decode cX12_offIn 2 = .ok (.invokevirtual 183, 3) := by decide +kernel
theorem dX12_offIn_5 : decode cX12_offIn 5 = .ok (.ifCond .eq 11, 3) := by decide +kernel
theorem dX12_offIn_8 : decode cX12_offIn 8 = .ok (.aload_n 0, 1) := by decide +kernel
theorem dX12_offIn_9 : decode cX12_offIn 9 = .ok (.iload_n 2, 1) := by decide +kernel
theorem dX12_offIn_10 : decode cX12_offIn 10 = .ok (.invokevirtual 188, 3) := by decide +kernel
theorem dX12_offIn_13 : decode cX12_offIn 13 = .ok (.ifCond .ne 5, 3) := by decide +kernel
theorem dX12_offIn_16 : decode cX12_offIn 16 = .ok (.iconst (-1), 1) := by decide +kernel
theorem dX12_offIn_17 : decode cX12_offIn 17 = .ok (.ireturn, 1) := by decide +kernel
theorem dX12_offIn_18 : decode cX12_offIn 18 = .ok (.aload_n 0, 1) := by decide +kernel
theorem dX12_offIn_19 : decode cX12_offIn 19 = .ok (.getfield 82, 3) := by decide +kernel
theorem dX12_offIn_22 : decode cX12_offIn 22 = .ok (.iload_n 1, 1) := by decide +kernel
theorem dX12_offIn_23 : decode cX12_offIn 23 = .ok (.iaload, 1) := by decide +kernel
theorem dX12_offIn_24 : decode cX12_offIn 24 = .ok (.ifCond .eq 6, 3) := by decide +kernel
theorem dX12_offIn_27 : decode cX12_offIn 27 = .ok (.bipush (-2), 2) := by decide +kernel
theorem dX12_offIn_29 : decode cX12_offIn 29 = .ok (.ireturn, 1) := by decide +kernel
theorem dX12_offIn_30 : decode cX12_offIn 30 = .ok (.aload_n 0, 1) := by decide +kernel
theorem dX12_offIn_31 : decode cX12_offIn 31 = .ok (.getfield 79, 3) := by decide +kernel
theorem dX12_offIn_34 : decode cX12_offIn 34 = .ok (.iload_n 1, 1) := by decide +kernel
theorem dX12_offIn_35 : decode cX12_offIn 35 = .ok (.iaload, 1) := by decide +kernel
theorem dX12_offIn_36 : decode cX12_offIn 36 = .ok (.istore_n 3, 1) := by decide +kernel
theorem dX12_offIn_37 : decode cX12_offIn 37 = .ok (.aload_n 0, 1) := by decide +kernel
theorem dX12_offIn_38 : decode cX12_offIn 38 = .ok (.iload_n 1, 1) := by decide +kernel
theorem dX12_offIn_39 : decode cX12_offIn 39 = .ok (.invokevirtual 170, 3) := by decide +kernel
theorem dX12_offIn_42 : decode cX12_offIn 42 = .ok (.istore 4, 2) := by decide +kernel
theorem dX12_offIn_44 : decode cX12_offIn 44 = .ok (.iconst 0, 1) := by decide +kernel
theorem dX12_offIn_45 : decode cX12_offIn 45 = .ok (.istore 5, 2) := by decide +kernel
theorem dX12_offIn_47 : decode cX12_offIn 47 = .ok (.iload 5, 2) := by decide +kernel
theorem dX12_offIn_49 : decode cX12_offIn 49 = .ok (.sipush 5000, 3) := by decide +kernel
theorem dX12_offIn_52 : decode cX12_offIn 52 = .ok (.if_icmp .gt 44, 3) := by decide +kernel
theorem dX12_offIn_55 : decode cX12_offIn 55 = .ok (.iload_n 3, 1) := by decide +kernel
theorem dX12_offIn_56 : decode cX12_offIn 56 = .ok (.iload 4, 2) := by decide +kernel
theorem dX12_offIn_58 : decode cX12_offIn 58 = .ok (.if_icmp .lt 6, 3) := by decide +kernel
theorem dX12_offIn_61 : decode cX12_offIn 61 = .ok (.iload 5, 2) := by decide +kernel
theorem dX12_offIn_63 : decode cX12_offIn 63 = .ok (.ireturn, 1) := by decide +kernel
theorem dX12_offIn_64 : decode cX12_offIn 64 = .ok (.iload_n 3, 1) := by decide +kernel
theorem dX12_offIn_65 : decode cX12_offIn 65 = .ok (.aload_n 0, 1) := by decide +kernel
theorem dX12_offIn_66 : decode cX12_offIn 66 = .ok (.getfield 73, 3) := by decide +kernel
theorem dX12_offIn_69 : decode cX12_offIn 69 = .ok (.iload_n 1, 1) := by decide +kernel
theorem dX12_offIn_70 : decode cX12_offIn 70 = .ok (.iaload, 1) := by decide +kernel
theorem dX12_offIn_71 : decode cX12_offIn 71 = .ok (.aload_n 0, 1) := by decide +kernel
theorem dX12_offIn_72 : decode cX12_offIn 72 = .ok (.iload_n 2, 1) := by decide +kernel
theorem dX12_offIn_73 : decode cX12_offIn 73 = .ok (.aload_n 0, 1) := by decide +kernel
theorem dX12_offIn_74 : decode cX12_offIn 74 = .ok (.getfield 88, 3) := by decide +kernel
theorem dX12_offIn_77 : decode cX12_offIn 77 = .ok (.iconst 0, 1) := by decide +kernel
theorem dX12_offIn_78 : decode cX12_offIn 78 = .ok (.iaload, 1) := by decide +kernel
theorem dX12_offIn_79 : decode cX12_offIn 79 = .ok (.iload 5, 2) := by decide +kernel
theorem dX12_offIn_81 : decode cX12_offIn 81 = .ok (.iadd, 1) := by decide +kernel
theorem dX12_offIn_82 : decode cX12_offIn 82 = .ok (.invokevirtual 173, 3) := by decide +kernel
theorem dX12_offIn_85 : decode cX12_offIn 85 = .ok (.invokestatic 177, 3) := by decide +kernel
theorem dX12_offIn_88 : decode cX12_offIn 88 = .ok (.iadd, 1) := by decide +kernel
theorem dX12_offIn_89 : decode cX12_offIn 89 = .ok (.istore_n 3, 1) := by decide +kernel
theorem dX12_offIn_90 : decode cX12_offIn 90 = .ok (.iinc 5 1, 3) := by decide +kernel
theorem dX12_offIn_93 : decode cX12_offIn 93 = .ok (.goto (-46), 3) := by decide +kernel
theorem dX12_offIn_96 : decode cX12_offIn 96 = .ok (.bipush (-4), 2) := by decide +kernel
theorem dX12_offIn_98 : decode cX12_offIn 98 = .ok (.ireturn, 1) := by decide +kernel
theorem dX12_isLater_0 : decode cX12_isLater 0 = .ok (.iload_n 0, 1) := by decide +kernel
theorem dX12_isLater_1 : decode cX12_isLater 1 = .ok (.i2l, 1) := by decide +kernel
theorem dX12_isLater_2 : decode cX12_isLater 2 = .ok (.lconst 0, 1) := by decide +kernel
theorem dX12_isLater_3 : decode cX12_isLater 3 = .ok (.ldc2_w 205, 3) := by decide +kernel
theorem dX12_isLater_6 : decode cX12_isLater 6 = .ok (.invokestatic 106, 3) := by decide +kernel
theorem dX12_isLater_9 : decode cX12_isLater 9 = .ok (.ireturn, 1) := by decide +kernel
theorem dX12_lostOf_0 : decode cX12_lostOf 0 = .ok (.iconst 0, 1) := by decide +kernel
theorem dX12_lostOf_1 : decode cX12_lostOf 1 = .ok (.istore_n 2, 1) := by decide +kernel
theorem dX12_lostOf_2 : decode cX12_lostOf 2 = .ok (.iload_n 2, 1) := by decide +kernel
theorem dX12_lostOf_3 : decode cX12_lostOf 3 = .ok (.iload_n 1, 1) := by decide +kernel
theorem dX12_lostOf_4 : decode cX12_lostOf 4 = .ok (.if_icmp .ge 14, 3) := by decide +kernel
theorem dX12_lostOf_7 : decode cX12_lostOf 7 = .ok (.aload_n 0, 1) := by decide +kernel
theorem dX12_lostOf_8 : decode cX12_lostOf 8 = .ok (.iconst 1, 1) := by decide +kernel
theorem dX12_lostOf_9 : decode cX12_lostOf 9 = .ok (.invokevirtual 196, 3) := by decide +kernel
theorem dX12_lostOf_12 : decode cX12_lostOf 12 = .ok (.iinc 2 1, 3) := by decide +kernel
theorem dX12_lostOf_15 : decode cX12_lostOf 15 = .ok (.goto (-13), 3) := by decide +kernel
theorem dX12_lostOf_18 : decode cX12_lostOf 18 = .ok (.aload_n 0, 1) := by decide +kernel
theorem dX12_lostOf_19 : decode cX12_lostOf 19 = .ok (.iconst 1, 1) := by decide +kernel
theorem dX12_lostOf_20 : decode cX12_lostOf 20 = .ok (.invokevirtual 207, 3) := by decide +kernel
theorem dX12_lostOf_23 : decode cX12_lostOf 23 = .ok (.ireturn, 1) := by decide +kernel
theorem dX12_lost_0 : decode cX12_lost 0 = .ok (.iload_n 1, 1) := by decide +kernel
theorem dX12_lost_1 : decode cX12_lost 1 = .ok (.invokestatic 210, 3) := by decide +kernel
theorem dX12_lost_4 : decode cX12_lost 4 = .ok (.ifCond .ne 5, 3) := by decide +kernel
theorem dX12_lost_7 : decode cX12_lost 7 = .ok (.iconst (-1), 1) := by decide +kernel
theorem dX12_lost_8 : decode cX12_lost 8 = .ok (.ireturn, 1) := by decide +kernel
theorem dX12_lost_9 : decode cX12_lost 9 = .ok (.aload_n 0, 1) := by decide +kernel
theorem dX12_lost_10 : decode cX12_lost 10 = .ok (.iconst 0, 1) := by decide +kernel
theorem dX12_lost_11 : decode cX12_lost 11 = .ok (.iconst 1, 1) := by decide +kernel
theorem dX12_lost_12 : decode cX12_lost 12 = .ok (.invokevirtual 213, 3) := by decide +kernel
theorem dX12_lost_15 : decode cX12_lost 15 = .ok (.aload_n 0, 1) := by decide +kernel
theorem dX12_lost_16 : decode cX12_lost 16 = .ok (.iload_n 1, 1) := by decide +kernel
theorem dX12_lost_17 : decode cX12_lost 17 = .ok (.invokevirtual 217, 3) := by decide +kernel
theorem dX12_lost_20 : decode cX12_lost 20 = .ok (.ireturn, 1) := by decide +kernel
theorem dX12_isOlder_0 : decode cX12_isOlder 0 = .ok (.aload_n 0, 1) := by decide +kernel
theorem dX12_isOlder_1 : decode cX12_isOlder 1 = .ok (.getfield 79, 3) := by decide +kernel
theorem dX12_isOlder_4 : decode cX12_isOlder 4 = .ok (.iload_n 1, 1) := by decide +kernel
theorem dX12_isOlder_5 : decode cX12_isOlder 5 = .ok (.iaload, 1) := by decide +kernel
theorem dX12_isOlder_6 : decode cX12_isOlder 6 = .ok (.i2l, 1) := by decide +kernel
theorem dX12_isOlder_7 : decode cX12_isOlder 7 = .ok (.aload_n 0, 1) := by decide +kernel
theorem dX12_isOlder_8 : decode cX12_isOlder 8 = .ok (.iload_n 2, 1) := by decide +kernel
theorem dX12_isOlder_9 : decode cX12_isOlder 9 = .ok (.invokevirtual 170, 3) := by decide +kernel
theorem dX12_isOlder_12 : decode cX12_isOlder 12 = .ok (.i2l, 1) := by decide +kernel
theorem dX12_isOlder_13 : decode cX12_isOlder 13 = .ok (.lmul, 1) := by decide +kernel
theorem dX12_isOlder_14 : decode cX12_isOlder 14 = .ok (.aload_n 0, 1) := by decide +kernel
theorem dX12_isOlder_15 : decode cX12_isOlder 15 = .ok (.getfield 79, 3) := by decide +kernel
theorem dX12_isOlder_18 : decode cX12_isOlder 18 = .ok (.iload_n 2, 1) := by decide +kernel
theorem dX12_isOlder_19 : decode cX12_isOlder 19 = .ok (.iaload, 1) := by decide +kernel
theorem dX12_isOlder_20 : decode cX12_isOlder 20 = .ok (.i2l, 1) := by decide +kernel
theorem dX12_isOlder_21 : decode cX12_isOlder 21 = .ok (.aload_n 0, 1) := by decide +kernel
theorem dX12_isOlder_22 : decode cX12_isOlder 22 = .ok (.iload_n 1, 1) := by decide +kernel
theorem dX12_isOlder_23 : decode cX12_isOlder 23 = .ok (.invokevirtual 170, 3) := by decide +kernel
theorem dX12_isOlder_26 : decode cX12_isOlder 26 = .ok (.i2l, 1) := by decide +kernel
theorem dX12_isOlder_27 : decode cX12_isOlder 27 = .ok (.lmul, 1) := by decide +kernel
theorem dX12_isOlder_28 : decode cX12_isOlder 28 = .ok (.lcmp, 1) := by decide +kernel
theorem dX12_isOlder_29 : decode cX12_isOlder 29 = .ok (.ifCond .le 7, 3) := by decide +kernel
theorem dX12_isOlder_32 : decode cX12_isOlder 32 = .ok (.iconst 1, 1) := by decide +kernel
theorem dX12_isOlder_33 : decode cX12_isOlder 33 = .ok (.goto 4, 3) := by decide +kernel
theorem dX12_isOlder_36 : decode cX12_isOlder 36 = .ok (.iconst 0, 1) := by decide +kernel
theorem dX12_isOlder_37 : decode cX12_isOlder 37 = .ok (.ireturn, 1) := by decide +kernel
theorem dX12_oldestOf_0 : decode cX12_oldestOf 0 = .ok (.bipush (-4), 2) := by decide +kernel
theorem dX12_oldestOf_2 : decode cX12_oldestOf 2 = .ok (.istore_n 2, 1) := by decide +kernel
theorem dX12_oldestOf_3 : decode cX12_oldestOf 3 = .ok (.bipush 10, 2) := by decide +kernel
theorem dX12_oldestOf_5 : decode cX12_oldestOf 5 = .ok (.istore_n 3, 1) := by decide +kernel
theorem dX12_oldestOf_6 : decode cX12_oldestOf 6 = .ok (.iload_n 3, 1) := by decide +kernel
theorem dX12_oldestOf_7 : decode cX12_oldestOf 7 = .ok (.bipush 10, 2) := by decide +kernel
theorem dX12_oldestOf_9 : decode cX12_oldestOf 9 = .ok (.aload_n 0, 1) := by decide +kernel
theorem dX12_oldestOf_10 : decode cX12_oldestOf 10 = .ok (.getfield 28, 3) := by decide +kernel
theorem dX12_oldestOf_13 : decode cX12_oldestOf 13 = .ok (.iconst 0, 1) := by decide +kernel
theorem dX12_oldestOf_14 : decode cX12_oldestOf 14 = .ok (.iaload, 1) := by decide +kernel
theorem dX12_oldestOf_15 : decode cX12_oldestOf 15 = .ok (.iadd, 1) := by decide +kernel
theorem dX12_oldestOf_16 : decode cX12_oldestOf 16 = .ok (.if_icmp .ge 70, 3) := by decide +kernel
theorem dX12_oldestOf_19 : decode cX12_oldestOf 19 = .ok (.aload_n 0, 1) := by decide +kernel
theorem dX12_oldestOf_20 : decode cX12_oldestOf 20 = .ok (.getfield 82, 3) := by decide +kernel
theorem dX12_oldestOf_23 : decode cX12_oldestOf 23 = .ok (.iload_n 3, 1) := by decide +kernel
theorem dX12_oldestOf_24 : decode cX12_oldestOf 24 = .ok (.iaload, 1) := by decide +kernel
theorem dX12_oldestOf_25 : decode cX12_oldestOf 25 = .ok (.ifCond .ne 28, 3) := by decide +kernel
theorem dX12_oldestOf_28 : decode cX12_oldestOf 28 = .ok (.aload_n 0, 1) := by decide +kernel
theorem dX12_oldestOf_29 : decode cX12_oldestOf 29 = .ok (.iload_n 3, 1) := by decide +kernel
theorem dX12_oldestOf_30 : decode cX12_oldestOf 30 = .ok (.invokevirtual 180, 3) := by decide +kernel
theorem dX12_oldestOf_33 : decode cX12_oldestOf 33 = .ok (.ifCond .ne 20, 3) := by decide +kernel
theorem dX12_oldestOf_36 : decode cX12_oldestOf 36 = .ok (.aload_n 0, 1) := by decide +kernel
theorem dX12_oldestOf_37 : decode cX12_oldestOf 37 = .ok (.getfield 46, 3) := by decide +kernel
theorem dX12_oldestOf_40 : decode cX12_oldestOf 40 = .ok (.iload_n 3, 1) := by decide +kernel
theorem dX12_oldestOf_41 : decode cX12_oldestOf 41 = .ok (.bipush 10, 2) := by decide +kernel
theorem dX12_oldestOf_43 : decode cX12_oldestOf 43 = .ok (.isub, 1) := by decide +kernel
theorem dX12_oldestOf_44 : decode cX12_oldestOf 44 = .ok (.iaload, 1) := by decide +kernel
theorem dX12_oldestOf_45 : decode cX12_oldestOf 45 = .ok (.iload_n 1, 1) := by decide +kernel
theorem dX12_oldestOf_46 : decode cX12_oldestOf 46 = .ok (.if_icmp .ne 7, 3) := by decide +kernel
theorem dX12_oldestOf_49 : decode cX12_oldestOf 49 = .ok (.iconst 1, 1) := by decide +kernel
theorem dX12_oldestOf_50 : decode cX12_oldestOf 50 = .ok (.goto 4, 3) := by decide +kernel
theorem dX12_oldestOf_53 : decode cX12_oldestOf 53 = .ok (.iconst 0, 1) := by decide +kernel
theorem dX12_oldestOf_54 : decode cX12_oldestOf 54 = .ok (.istore 4, 2) := by decide +kernel
theorem dX12_oldestOf_56 : decode cX12_oldestOf 56 = .ok (.iload 4, 2) := by decide +kernel
theorem dX12_oldestOf_58 : decode cX12_oldestOf 58 = .ok (.ifCond .eq 20, 3) := by decide +kernel
theorem dX12_oldestOf_61 : decode cX12_oldestOf 61 = .ok (.iload_n 2, 1) := by decide +kernel
theorem dX12_oldestOf_62 : decode cX12_oldestOf 62 = .ok (.ifCond .lt 12, 3) := by decide +kernel
theorem dX12_oldestOf_65 : decode cX12_oldestOf 65 = .ok (.aload_n 0, 1) := by decide +kernel
theorem dX12_oldestOf_66 : decode cX12_oldestOf 66 = .ok (.iload_n 3, 1) := by decide +kernel
theorem dX12_oldestOf_67 : decode cX12_oldestOf 67 = .ok (.iload_n 2, 1) := by decide +kernel
theorem dX12_oldestOf_68 : decode cX12_oldestOf 68 = .ok (.invokevirtual 220, 3) := by decide +kernel
theorem dX12_oldestOf_71 : decode cX12_oldestOf 71 = .ok (.ifCond .eq 7, 3) := by decide +kernel
theorem dX12_oldestOf_74 : decode cX12_oldestOf 74 = .ok (.iload_n 3, 1) := by decide +kernel
theorem dX12_oldestOf_75 : decode cX12_oldestOf 75 = .ok (.goto 4, 3) := by decide +kernel
theorem dX12_oldestOf_78 : decode cX12_oldestOf 78 = .ok (.iload_n 2, 1) := by decide +kernel
theorem dX12_oldestOf_79 : decode cX12_oldestOf 79 = .ok (.istore_n 2, 1) := by decide +kernel
theorem dX12_oldestOf_80 : decode cX12_oldestOf 80 = .ok (.iinc 3 1, 3) := by decide +kernel
theorem dX12_oldestOf_83 : decode cX12_oldestOf 83 = .ok (.goto (-77), 3) := by decide +kernel
theorem dX12_oldestOf_86 : decode cX12_oldestOf 86 = .ok (.iload_n 2, 1) := by decide +kernel
theorem dX12_oldestOf_87 : decode cX12_oldestOf 87 = .ok (.ireturn, 1) := by decide +kernel
theorem dX12_eatDish_0 : decode cX12_eatDish 0 = .ok (.iconst 0, 1) := by decide +kernel
theorem dX12_eatDish_1 : decode cX12_eatDish 1 = .ok (.istore_n 2, 1) := by decide +kernel
theorem dX12_eatDish_2 : decode cX12_eatDish 2 = .ok (.iload_n 2, 1) := by decide +kernel
theorem dX12_eatDish_3 : decode cX12_eatDish 3 = .ok (.iconst 4, 1) := by decide +kernel
theorem dX12_eatDish_4 : decode cX12_eatDish 4 = .ok (.if_icmp .ge 48, 3) := by decide +kernel
theorem dX12_eatDish_7 : decode cX12_eatDish 7 = .ok (.iload_n 1, 1) := by decide +kernel
theorem dX12_eatDish_8 : decode cX12_eatDish 8 = .ok (.iload_n 2, 1) := by decide +kernel
theorem dX12_eatDish_9 : decode cX12_eatDish 9 = .ok (.invokestatic 166, 3) := by decide +kernel
theorem dX12_eatDish_12 : decode cX12_eatDish 12 = .ok (.ifCond .eq 11, 3) := by decide +kernel
theorem dX12_eatDish_15 : decode cX12_eatDish 15 = .ok (.aload_n 0, 1) := by decide +kernel
theorem dX12_eatDish_16 : decode cX12_eatDish 16 = .ok (.iload_n 2, 1) := by decide +kernel
theorem dX12_eatDish_17 : decode cX12_eatDish 17 = .ok (.invokevirtual 223, 3) := by decide +kernel
theorem dX12_eatDish_20 : decode cX12_eatDish 20 = .ok (.goto 4, 3) := by decide +kernel
theorem dX12_eatDish_23 : decode cX12_eatDish 23 = .ok (.iconst 0, 1) := by decide +kernel
theorem dX12_eatDish_24 : decode cX12_eatDish 24 = .ok (.istore_n 3, 1) := by decide +kernel
theorem dX12_eatDish_25 : decode cX12_eatDish 25 = .ok (.iload_n 3, 1) := by decide +kernel
theorem dX12_eatDish_26 : decode cX12_eatDish 26 = .ok (.ifCond .ge 5, 3) := by decide +kernel
theorem dX12_eatDish_29 : decode cX12_eatDish 29 = .ok (.iconst 0, 1) := by decide +kernel
theorem dX12_eatDish_30 : decode cX12_eatDish 30 = .ok (.ireturn, 1) := by decide +kernel
theorem dX12_eatDish_31 : decode cX12_eatDish 31 = .ok (.iload_n 1, 1) := by decide +kernel
theorem dX12_eatDish_32 : decode cX12_eatDish 32 = .ok (.iload_n 2, 1) := by decide +kernel
theorem dX12_eatDish_33 : decode cX12_eatDish 33 = .ok (.invokestatic 166, 3) := by decide +kernel
theorem dX12_eatDish_36 : decode cX12_eatDish 36 = .ok (.ifCond .eq 10, 3) := by decide +kernel
theorem dX12_eatDish_39 : decode cX12_eatDish 39 = .ok (.aload_n 0, 1) := by decide +kernel
theorem dX12_eatDish_40 : decode cX12_eatDish 40 = .ok (.getfield 82, 3) := by decide +kernel
theorem dX12_eatDish_43 : decode cX12_eatDish 43 = .ok (.iload_n 3, 1) := by decide +kernel
theorem dX12_eatDish_44 : decode cX12_eatDish 44 = .ok (.iconst 1, 1) := by decide +kernel
theorem dX12_eatDish_45 : decode cX12_eatDish 45 = .ok (.iastore, 1) := by decide +kernel
theorem dX12_eatDish_46 : decode cX12_eatDish 46 = .ok (.iinc 2 1, 3) := by decide +kernel
theorem dX12_eatDish_49 : decode cX12_eatDish 49 = .ok (.goto (-47), 3) := by decide +kernel
theorem dX12_eatDish_52 : decode cX12_eatDish 52 = .ok (.iconst 1, 1) := by decide +kernel
theorem dX12_eatDish_53 : decode cX12_eatDish 53 = .ok (.ireturn, 1) := by decide +kernel
theorem dX12_hungryOf_0 : decode cX12_hungryOf 0 = .ok (.iconst 0, 1) := by decide +kernel
theorem dX12_hungryOf_1 : decode cX12_hungryOf 1 = .ok (.istore_n 2, 1) := by decide +kernel
theorem dX12_hungryOf_2 : decode cX12_hungryOf 2 = .ok (.iconst 0, 1) := by decide +kernel
theorem dX12_hungryOf_3 : decode cX12_hungryOf 3 = .ok (.istore_n 3, 1) := by decide +kernel
theorem dX12_hungryOf_4 : decode cX12_hungryOf 4 = .ok (.iload_n 3, 1) := by decide +kernel
theorem dX12_hungryOf_5 : decode cX12_hungryOf 5 = .ok (.aload_n 0, 1) := by decide +kernel
theorem dX12_hungryOf_6 : decode cX12_hungryOf 6 = .ok (.getfield 55, 3) := by decide +kernel
theorem dX12_hungryOf_9 : decode cX12_hungryOf 9 = .ok (.iconst 0, 1) := by decide +kernel
theorem dX12_hungryOf_10 : decode cX12_hungryOf 10 = .ok (.iaload, 1) := by decide +kernel
theorem dX12_hungryOf_11 : decode cX12_hungryOf 11 = .ok (.if_icmp .ge 32, 3) := by decide +kernel
theorem dX12_hungryOf_14 : decode cX12_hungryOf 14 = .ok (.iload_n 2, 1) := by decide +kernel
theorem dX12_hungryOf_15 : decode cX12_hungryOf 15 = .ok (.iload_n 1, 1) := by decide +kernel
theorem dX12_hungryOf_16 : decode cX12_hungryOf 16 = .ok (.ifCond .eq 14, 3) := by decide +kernel
theorem dX12_hungryOf_19 : decode cX12_hungryOf 19 = .ok (.aload_n 0, 1) := by decide +kernel
theorem dX12_hungryOf_20 : decode cX12_hungryOf 20 = .ok (.getfield 58, 3) := by decide +kernel
theorem dX12_hungryOf_23 : decode cX12_hungryOf 23 = .ok (.iload_n 3, 1) := by decide +kernel
theorem dX12_hungryOf_24 : decode cX12_hungryOf 24 = .ok (.iaload, 1) := by decide +kernel
theorem dX12_hungryOf_25 : decode cX12_hungryOf 25 = .ok (.iload_n 1, 1) := by decide +kernel
theorem dX12_hungryOf_26 : decode cX12_hungryOf 26 = .ok (.iand, 1) := by decide +kernel
theorem dX12_hungryOf_27 : decode cX12_hungryOf 27 = .ok (.ifCond .eq 7, 3) := by decide +kernel
theorem dX12_hungryOf_30 : decode cX12_hungryOf 30 = .ok (.iconst 1, 1) := by decide +kernel
theorem dX12_hungryOf_31 : decode cX12_hungryOf 31 = .ok (.goto 4, 3) := by decide +kernel
theorem dX12_hungryOf_34 : decode cX12_hungryOf 34 = .ok (.iconst 0, 1) := by decide +kernel
theorem dX12_hungryOf_35 : decode cX12_hungryOf 35 = .ok (.iadd, 1) := by decide +kernel
theorem dX12_hungryOf_36 : decode cX12_hungryOf 36 = .ok (.istore_n 2, 1) := by decide +kernel
theorem dX12_hungryOf_37 : decode cX12_hungryOf 37 = .ok (.iinc 3 1, 3) := by decide +kernel
theorem dX12_hungryOf_40 : decode cX12_hungryOf 40 = .ok (.goto (-36), 3) := by decide +kernel
theorem dX12_hungryOf_43 : decode cX12_hungryOf 43 = .ok (.iload_n 2, 1) := by decide +kernel
theorem dX12_hungryOf_44 : decode cX12_hungryOf 44 = .ok (.ireturn, 1) := by decide +kernel
theorem dX12_goToEvening_0 : decode cX12_goToEvening 0 = .ok (.aload_n 0, 1) := by decide +kernel
theorem dX12_goToEvening_1 : decode cX12_goToEvening 1 = .ok (.getfield 88, 3) := by decide +kernel
theorem dX12_goToEvening_4 : decode cX12_goToEvening 4 = .ok (.iconst 1, 1) := by decide +kernel
theorem dX12_goToEvening_5 : decode cX12_goToEvening 5 = .ok (.iaload, 1) := by decide +kernel
theorem dX12_goToEvening_6 : decode cX12_goToEvening 6 = .ok (.bipush 24, 2) := by decide +kernel
theorem dX12_goToEvening_8 : decode cX12_goToEvening 8 = .ok (.irem, 1) := by decide +kernel
theorem dX12_goToEvening_9 : decode cX12_goToEvening 9 = .ok (.bipush 18, 2) := by decide +kernel
theorem dX12_goToEvening_11 : decode cX12_goToEvening 11 = .ok (.if_icmp .eq 11, 3) := by decide +kernel
theorem dX12_goToEvening_14 : decode cX12_goToEvening 14 = .ok (.aload_n 0, 1) := by decide +kernel
theorem dX12_goToEvening_15 : decode cX12_goToEvening 15 = .ok (.iconst 1, 1) := by decide +kernel
theorem dX12_goToEvening_16 : decode cX12_goToEvening 16 = .ok (.invokevirtual 196, 3) := by decide +kernel
theorem dX12_goToEvening_19 : decode cX12_goToEvening 19 = .ok (.goto (-19), 3) := by decide +kernel
theorem dX12_goToEvening_22 : decode cX12_goToEvening 22 = .ok (.return_, 1) := by decide +kernel
theorem dX12_figure_0 : decode cX12_figure 0 = .ok (.iload_n 1, 1) := by decide +kernel
theorem dX12_figure_1 : decode cX12_figure 1 = .ok (.istore 5, 2) := by decide +kernel
theorem dX12_figure_3 : decode cX12_figure 3 = .ok (.iload_n 3, 1) := by decide +kernel
theorem dX12_figure_4 : decode cX12_figure 4 = .ok (.iconst 1, 1) := by decide +kernel
theorem dX12_figure_5 : decode cX12_figure 5 = .ok (.isub, 1) := by decide +kernel
theorem dX12_figure_6 : decode cX12_figure 6 = .ok (.istore 6, 2) := by decide +kernel
theorem dX12_figure_8 : decode cX12_figure 8 = .ok (.iload 6, 2) := by decide +kernel
theorem dX12_figure_10 : decode cX12_figure 10 = .ok (.iload 4, 2) := by decide +kernel
theorem dX12_figure_12 : decode cX12_figure 12 = .ok (.if_icmp .le 15, 3) := by decide +kernel
theorem dX12_figure_15 : decode cX12_figure 15 = .ok (.iload 5, 2) := by decide +kernel
theorem dX12_figure_17 : decode cX12_figure 17 = .ok (.iload_n 2, 1) := by decide +kernel
theorem dX12_figure_18 : decode cX12_figure 18 = .ok (.idiv, 1) := by decide +kernel
theorem dX12_figure_19 : decode cX12_figure 19 = .ok (.istore 5, 2) := by decide +kernel
theorem dX12_figure_21 : decode cX12_figure 21 = .ok (.iinc 6 (-1), 3) := by decide +kernel
theorem dX12_figure_24 : decode cX12_figure 24 = .ok (.goto (-16), 3) := by decide +kernel
theorem dX12_figure_27 : decode cX12_figure 27 = .ok (.iload 5, 2) := by decide +kernel
theorem dX12_figure_29 : decode cX12_figure 29 = .ok (.iload_n 2, 1) := by decide +kernel
theorem dX12_figure_30 : decode cX12_figure 30 = .ok (.irem, 1) := by decide +kernel
theorem dX12_figure_31 : decode cX12_figure 31 = .ok (.ireturn, 1) := by decide +kernel
theorem dX12_costOf_0 : decode cX12_costOf 0 = .ok (.aload_n 0, 1) := by decide +kernel
theorem dX12_costOf_1 : decode cX12_costOf 1 = .ok (.iconst 0, 1) := by decide +kernel
theorem dX12_costOf_2 : decode cX12_costOf 2 = .ok (.iconst 1, 1) := by decide +kernel
theorem dX12_costOf_3 : decode cX12_costOf 3 = .ok (.invokevirtual 213, 3) := by decide +kernel
theorem dX12_costOf_6 : decode cX12_costOf 6 = .ok (.iconst 0, 1) := by decide +kernel
theorem dX12_costOf_7 : decode cX12_costOf 7 = .ok (.istore_n 3, 1) := by decide +kernel
theorem dX12_costOf_8 : decode cX12_costOf 8 = .ok (.iconst 0, 1) := by decide +kernel
theorem dX12_costOf_9 : decode cX12_costOf 9 = .ok (.istore 4, 2) := by decide +kernel
theorem dX12_costOf_11 : decode cX12_costOf 11 = .ok (.iload 4, 2) := by decide +kernel
theorem dX12_costOf_13 : decode cX12_costOf 13 = .ok (.iload_n 2, 1) := by decide +kernel
theorem dX12_costOf_14 : decode cX12_costOf 14 = .ok (.if_icmp .ge 85, 3) := by decide +kernel
theorem dX12_costOf_17 : decode cX12_costOf 17 = .ok (.iload 4, 2) := by decide +kernel
theorem dX12_costOf_19 : decode cX12_costOf 19 = .ok (.ifCond .le 8, 3) := by decide +kernel
theorem dX12_costOf_22 : decode cX12_costOf 22 = .ok (.aload_n 0, 1) := by decide +kernel
theorem dX12_costOf_23 : decode cX12_costOf 23 = .ok (.iconst 1, 1) := by decide +kernel
theorem dX12_costOf_24 : decode cX12_costOf 24 = .ok (.invokevirtual 196, 3) := by decide +kernel
theorem dX12_costOf_27 : decode cX12_costOf 27 = .ok (.aload_n 0, 1) := by decide +kernel
theorem dX12_costOf_28 : decode cX12_costOf 28 = .ok (.invokevirtual 226, 3) := by decide +kernel
theorem dX12_costOf_31 : decode cX12_costOf 31 = .ok (.aload_n 0, 1) := by decide +kernel
theorem dX12_costOf_32 : decode cX12_costOf 32 = .ok (.iload_n 1, 1) := by decide +kernel
theorem dX12_costOf_33 : decode cX12_costOf 33 = .ok (.aload_n 0, 1) := by decide +kernel
theorem dX12_costOf_34 : decode cX12_costOf 34 = .ok (.getfield 49, 3) := by decide +kernel
theorem dX12_costOf_37 : decode cX12_costOf 37 = .ok (.iconst 0, 1) := by decide +kernel
theorem dX12_costOf_38 : decode cX12_costOf 38 = .ok (.iaload, 1) := by decide +kernel
theorem dX12_costOf_39 : decode cX12_costOf 39 = .ok (.iconst 1, 1) := by decide +kernel
theorem dX12_costOf_40 : decode cX12_costOf 40 = .ok (.iadd, 1) := by decide +kernel
theorem dX12_costOf_41 : decode cX12_costOf 41 = .ok (.iload_n 2, 1) := by decide +kernel
theorem dX12_costOf_42 : decode cX12_costOf 42 = .ok (.iload 4, 2) := by decide +kernel
theorem dX12_costOf_44 : decode cX12_costOf 44 = .ok (.invokevirtual 229, 3) := by decide +kernel
theorem dX12_costOf_47 : decode cX12_costOf 47 = .ok (.istore 5, 2) := by decide +kernel
theorem dX12_costOf_49 : decode cX12_costOf 49 = .ok (.iload 5, 2) := by decide +kernel
theorem dX12_costOf_51 : decode cX12_costOf 51 = .ok (.ifCond .ne 7, 3) := by decide +kernel
theorem dX12_costOf_54 : decode cX12_costOf 54 = .ok (.iconst 0, 1) := by decide +kernel
theorem dX12_costOf_55 : decode cX12_costOf 55 = .ok (.goto 12, 3) := by decide +kernel
theorem dX12_costOf_58 : decode cX12_costOf 58 = .ok (.aload_n 0, 1) := by decide +kernel
theorem dX12_costOf_59 : decode cX12_costOf 59 = .ok (.getfield 52, 3) := by decide +kernel
theorem dX12_costOf_62 : decode cX12_costOf 62 = .ok (.iload 5, 2) := by decide +kernel
theorem dX12_costOf_64 : decode cX12_costOf 64 = .ok (.iconst 1, 1) := by decide +kernel
theorem dX12_costOf_65 : decode cX12_costOf 65 = .ok (.isub, 1) := by decide +kernel
theorem dX12_costOf_66 : decode cX12_costOf 66 = .ok (.iaload, 1) := by decide +kernel
theorem dX12_costOf_67 : decode cX12_costOf 67 = .ok (.istore 6, 2) := by decide +kernel
theorem dX12_costOf_69 : decode cX12_costOf 69 = .ok (.aload_n 0, 1) := by decide +kernel
theorem dX12_costOf_70 : decode cX12_costOf 70 = .ok (.iload 6, 2) := by decide +kernel
theorem dX12_costOf_72 : decode cX12_costOf 72 = .ok (.invokevirtual 233, 3) := by decide +kernel
theorem dX12_costOf_75 : decode cX12_costOf 75 = .ok (.ifCond .ne 6, 3) := by decide +kernel
theorem dX12_costOf_78 : decode cX12_costOf 78 = .ok (.bipush (-4), 2) := by decide +kernel
theorem dX12_costOf_80 : decode cX12_costOf 80 = .ok (.ireturn, 1) := by decide +kernel
theorem dX12_costOf_81 : decode cX12_costOf 81 = .ok (.iload_n 3, 1) := by decide +kernel
theorem dX12_costOf_82 : decode cX12_costOf 82 = .ok (.bipush 10, 2) := by decide +kernel
theorem dX12_costOf_84 : decode cX12_costOf 84 = .ok (.aload_n 0, 1) := by decide +kernel
theorem dX12_costOf_85 : decode cX12_costOf 85 = .ok (.iload 6, 2) := by decide +kernel
theorem dX12_costOf_87 : decode cX12_costOf 87 = .ok (.invokevirtual 236, 3) := by decide +kernel
theorem dX12_costOf_90 : decode cX12_costOf 90 = .ok (.imul, 1) := by decide +kernel
theorem dX12_costOf_91 : decode cX12_costOf 91 = .ok (.iadd, 1) := by decide +kernel
theorem dX12_costOf_92 : decode cX12_costOf 92 = .ok (.istore_n 3, 1) := by decide +kernel
theorem dX12_costOf_93 : decode cX12_costOf 93 = .ok (.iinc 4 1, 3) := by decide +kernel
theorem dX12_costOf_96 : decode cX12_costOf 96 = .ok (.goto (-85), 3) := by decide +kernel
theorem dX12_costOf_99 : decode cX12_costOf 99 = .ok (.iload_n 3, 1) := by decide +kernel
theorem dX12_costOf_100 : decode cX12_costOf 100 = .ok (.aload_n 0, 1) := by decide +kernel
theorem dX12_costOf_101 : decode cX12_costOf 101 = .ok (.iconst 1, 1) := by decide +kernel
theorem dX12_costOf_102 : decode cX12_costOf 102 = .ok (.invokevirtual 207, 3) := by decide +kernel
theorem dX12_costOf_105 : decode cX12_costOf 105 = .ok (.iadd, 1) := by decide +kernel
theorem dX12_costOf_106 : decode cX12_costOf 106 = .ok (.ireturn, 1) := by decide +kernel
theorem dX12_plan_0 : decode cX12_plan 0 = .ok (.iload_n 1, 1) := by decide +kernel
theorem dX12_plan_1 : decode cX12_plan 1 = .ok (.i2l, 1) := by decide +kernel
theorem dX12_plan_2 : decode cX12_plan 2 = .ok (.lconst 1, 1) := by decide +kernel
theorem dX12_plan_3 : decode cX12_plan 3 = .ok (.ldc2_w 239, 3) := by decide +kernel
theorem dX12_plan_6 : decode cX12_plan 6 = .ok (.invokestatic 106, 3) := by decide +kernel
theorem dX12_plan_9 : decode cX12_plan 9 = .ok (.ifCond .eq 18, 3) := by decide +kernel
theorem dX12_plan_12 : decode cX12_plan 12 = .ok (.iload_n 2, 1) := by decide +kernel
theorem dX12_plan_13 : decode cX12_plan 13 = .ok (.i2l, 1) := by decide +kernel
theorem dX12_plan_14 : decode cX12_plan 14 = .ok (.ldc2_w 241, 3) := by decide +kernel
theorem dX12_plan_17 : decode cX12_plan 17 = .ok (.iload_n 1, 1) := by decide +kernel
theorem dX12_plan_18 : decode cX12_plan 18 = .ok (.iconst 1, 1) := by decide +kernel
theorem dX12_plan_19 : decode cX12_plan 19 = .ok (.isub, 1) := by decide +kernel
theorem dX12_plan_20 : decode cX12_plan 20 = .ok (.i2l, 1) := by decide +kernel
theorem dX12_plan_21 : decode cX12_plan 21 = .ok (.invokestatic 106, 3) := by decide +kernel
theorem dX12_plan_24 : decode cX12_plan 24 = .ok (.ifCond .ne 5, 3) := by decide +kernel
theorem dX12_plan_27 : decode cX12_plan 27 = .ok (.iconst (-1), 1) := by decide +kernel
theorem dX12_plan_28 : decode cX12_plan 28 = .ok (.ireturn, 1) := by decide +kernel
theorem dX12_plan_29 : decode cX12_plan 29 = .ok (.iconst 1, 1) := by decide +kernel
theorem dX12_plan_30 : decode cX12_plan 30 = .ok (.istore_n 3, 1) := by decide +kernel
theorem dX12_plan_31 : decode cX12_plan 31 = .ok (.iconst 0, 1) := by decide +kernel
theorem dX12_plan_32 : decode cX12_plan 32 = .ok (.istore 4, 2) := by decide +kernel
theorem dX12_plan_34 : decode cX12_plan 34 = .ok (.iload 4, 2) := by decide +kernel
theorem dX12_plan_36 : decode cX12_plan 36 = .ok (.iload_n 1, 1) := by decide +kernel
theorem dX12_plan_37 : decode cX12_plan 37 = .ok (.if_icmp .ge 20, 3) := by decide +kernel
theorem dX12_plan_40 : decode cX12_plan 40 = .ok (.iload_n 3, 1) := by decide +kernel
theorem dX12_plan_41 : decode cX12_plan 41 = .ok (.aload_n 0, 1) := by decide +kernel
theorem dX12_plan_42 : decode cX12_plan 42 = .ok (.getfield 49, 3) := by decide +kernel
theorem dX12_plan_45 : decode cX12_plan 45 = .ok (.iconst 0, 1) := by decide +kernel
theorem dX12_plan_46 : decode cX12_plan 46 = .ok (.iaload, 1) := by decide +kernel
theorem dX12_plan_47 : decode cX12_plan 47 = .ok (.iconst 1, 1) := by decide +kernel
theorem dX12_plan_48 : decode cX12_plan 48 = .ok (.iadd, 1) := by decide +kernel
theorem dX12_plan_49 : decode cX12_plan 49 = .ok (.imul, 1) := by decide +kernel
theorem dX12_plan_50 : decode cX12_plan 50 = .ok (.istore_n 3, 1) := by decide +kernel
theorem dX12_plan_51 : decode cX12_plan 51 = .ok (.iinc 4 1, 3) := by decide +kernel
theorem dX12_plan_54 : decode cX12_plan 54 = .ok (.goto (-20), 3) := by decide +kernel
theorem dX12_plan_57 : decode cX12_plan 57 = .ok (.bipush (-4), 2) := by decide +kernel
theorem dX12_plan_59 : decode cX12_plan 59 = .ok (.istore 4, 2) := by decide +kernel
theorem dX12_plan_61 : decode cX12_plan 61 = .ok (.iconst 0, 1) := by decide +kernel
theorem dX12_plan_62 : decode cX12_plan 62 = .ok (.istore 5, 2) := by decide +kernel
theorem dX12_plan_64 : decode cX12_plan 64 = .ok (.iconst 0, 1) := by decide +kernel
theorem dX12_plan_65 : decode cX12_plan 65 = .ok (.istore 6, 2) := by decide +kernel
theorem dX12_plan_67 : decode cX12_plan 67 = .ok (.iload 6, 2) := by decide +kernel
theorem dX12_plan_69 : decode cX12_plan 69 = .ok (.iload_n 3, 1) := by decide +kernel
theorem dX12_plan_70 : decode cX12_plan 70 = .ok (.if_icmp .ge 43, 3) := by decide +kernel
theorem dX12_plan_73 : decode cX12_plan 73 = .ok (.aload_n 0, 1) := by decide +kernel
theorem dX12_plan_74 : decode cX12_plan 74 = .ok (.iload 6, 2) := by decide +kernel
theorem dX12_plan_76 : decode cX12_plan 76 = .ok (.iload_n 1, 1) := by decide +kernel
theorem dX12_plan_77 : decode cX12_plan 77 = .ok (.invokevirtual 243, 3) := by decide +kernel
theorem dX12_plan_80 : decode cX12_plan 80 = .ok (.istore 7, 2) := by decide +kernel
theorem dX12_plan_82 : decode cX12_plan 82 = .ok (.iload 7, 2) := by decide +kernel
theorem dX12_plan_84 : decode cX12_plan 84 = .ok (.ifCond .lt 23, 3) := by decide +kernel
theorem dX12_plan_87 : decode cX12_plan 87 = .ok (.iload 4, 2) := by decide +kernel
theorem dX12_plan_89 : decode cX12_plan 89 = .ok (.ifCond .lt 10, 3) := by decide +kernel
theorem dX12_plan_92 : decode cX12_plan 92 = .ok (.iload 7, 2) := by decide +kernel
theorem dX12_plan_94 : decode cX12_plan 94 = .ok (.iload 5, 2) := by decide +kernel
theorem dX12_plan_96 : decode cX12_plan 96 = .ok (.if_icmp .ge 11, 3) := by decide +kernel
theorem dX12_plan_99 : decode cX12_plan 99 = .ok (.iload 6, 2) := by decide +kernel
theorem dX12_plan_101 : decode cX12_plan 101 = .ok (.istore 4, 2) := by decide +kernel
theorem dX12_plan_103 : decode cX12_plan 103 = .ok (.iload 7, 2) := by decide +kernel
theorem dX12_plan_105 : decode cX12_plan 105 = .ok (.istore 5, 2) := by decide +kernel
theorem dX12_plan_107 : decode cX12_plan 107 = .ok (.iinc 6 1, 3) := by decide +kernel
theorem dX12_plan_110 : decode cX12_plan 110 = .ok (.goto (-43), 3) := by decide +kernel
theorem dX12_plan_113 : decode cX12_plan 113 = .ok (.iload_n 2, 1) := by decide +kernel
theorem dX12_plan_114 : decode cX12_plan 114 = .ok (.ifCond .ge 6, 3) := by decide +kernel
theorem dX12_plan_117 : decode cX12_plan 117 = .ok (.iload 5, 2) := by decide +kernel
theorem dX12_plan_119 : decode cX12_plan 119 = .ok (.ireturn, 1) := by decide +kernel
theorem dX12_plan_120 : decode cX12_plan 120 = .ok (.aload_n 0, 1) := by decide +kernel
theorem dX12_plan_121 : decode cX12_plan 121 = .ok (.iload 4, 2) := by decide +kernel
theorem dX12_plan_123 : decode cX12_plan 123 = .ok (.aload_n 0, 1) := by decide +kernel
theorem dX12_plan_124 : decode cX12_plan 124 = .ok (.getfield 49, 3) := by decide +kernel
theorem dX12_plan_127 : decode cX12_plan 127 = .ok (.iconst 0, 1) := by decide +kernel
theorem dX12_plan_128 : decode cX12_plan 128 = .ok (.iaload, 1) := by decide +kernel
theorem dX12_plan_129 : decode cX12_plan 129 = .ok (.iconst 1, 1) := by decide +kernel
theorem dX12_plan_130 : decode cX12_plan 130 = .ok (.iadd, 1) := by decide +kernel
theorem dX12_plan_131 : decode cX12_plan 131 = .ok (.iload_n 1, 1) := by decide +kernel
theorem dX12_plan_132 : decode cX12_plan 132 = .ok (.iload_n 2, 1) := by decide +kernel
theorem dX12_plan_133 : decode cX12_plan 133 = .ok (.invokevirtual 229, 3) := by decide +kernel
theorem dX12_plan_136 : decode cX12_plan 136 = .ok (.istore 6, 2) := by decide +kernel
theorem dX12_plan_138 : decode cX12_plan 138 = .ok (.iload 6, 2) := by decide +kernel
theorem dX12_plan_140 : decode cX12_plan 140 = .ok (.ifCond .ne 8, 3) := by decide +kernel
theorem dX12_plan_143 : decode cX12_plan 143 = .ok (.bipush (-4), 2) := by decide +kernel
theorem dX12_plan_145 : decode cX12_plan 145 = .ok (.goto 7, 3) := by decide +kernel
theorem dX12_plan_148 : decode cX12_plan 148 = .ok (.iload 6, 2) := by decide +kernel
theorem dX12_plan_150 : decode cX12_plan 150 = .ok (.iconst 1, 1) := by decide +kernel
theorem dX12_plan_151 : decode cX12_plan 151 = .ok (.isub, 1) := by decide +kernel
theorem dX12_plan_152 : decode cX12_plan 152 = .ok (.ireturn, 1) := by decide +kernel
theorem dX12_freeze_0 : decode cX12_freeze 0 = .ok (.iload_n 1, 1) := by decide +kernel
theorem dX12_freeze_1 : decode cX12_freeze 1 = .ok (.invokestatic 210, 3) := by decide +kernel
theorem dX12_freeze_4 : decode cX12_freeze 4 = .ok (.ifCond .eq 13, 3) := by decide +kernel
theorem dX12_freeze_7 : decode cX12_freeze 7 = .ok (.iload_n 2, 1) := by decide +kernel
theorem dX12_freeze_8 : decode cX12_freeze 8 = .ok (.i2l, 1) := by decide +kernel
theorem dX12_freeze_9 : decode cX12_freeze 9 = .ok (.lconst 0, 1) := by decide +kernel
theorem dX12_freeze_10 : decode cX12_freeze 10 = .ok (.lconst 1, 1) := by decide +kernel
theorem dX12_freeze_11 : decode cX12_freeze 11 = .ok (.invokestatic 106, 3) := by decide +kernel
theorem dX12_freeze_14 : decode cX12_freeze 14 = .ok (.ifCond .ne 5, 3) := by decide +kernel
theorem dX12_freeze_17 : decode cX12_freeze 17 = .ok (.iconst (-1), 1) := by decide +kernel
theorem dX12_freeze_18 : decode cX12_freeze 18 = .ok (.ireturn, 1) := by decide +kernel
theorem dX12_freeze_19 : decode cX12_freeze 19 = .ok (.aload_n 0, 1) := by decide +kernel
theorem dX12_freeze_20 : decode cX12_freeze 20 = .ok (.iconst 0, 1) := by decide +kernel
theorem dX12_freeze_21 : decode cX12_freeze 21 = .ok (.iconst 1, 1) := by decide +kernel
theorem dX12_freeze_22 : decode cX12_freeze 22 = .ok (.invokevirtual 213, 3) := by decide +kernel
theorem dX12_freeze_25 : decode cX12_freeze 25 = .ok (.aload_n 0, 1) := by decide +kernel
theorem dX12_freeze_26 : decode cX12_freeze 26 = .ok (.iload_n 1, 1) := by decide +kernel
theorem dX12_freeze_27 : decode cX12_freeze 27 = .ok (.invokevirtual 217, 3) := by decide +kernel
theorem dX12_freeze_30 : decode cX12_freeze 30 = .ok (.istore_n 3, 1) := by decide +kernel
theorem dX12_freeze_31 : decode cX12_freeze 31 = .ok (.bipush (-4), 2) := by decide +kernel
theorem dX12_freeze_33 : decode cX12_freeze 33 = .ok (.istore 4, 2) := by decide +kernel
theorem dX12_freeze_35 : decode cX12_freeze 35 = .ok (.iconst 0, 1) := by decide +kernel
theorem dX12_freeze_36 : decode cX12_freeze 36 = .ok (.istore 5, 2) := by decide +kernel
theorem dX12_freeze_38 : decode cX12_freeze 38 = .ok (.iload 5, 2) := by decide +kernel
theorem dX12_freeze_40 : decode cX12_freeze 40 = .ok (.aload_n 0, 1) := by decide +kernel
theorem dX12_freeze_41 : decode cX12_freeze 41 = .ok (.getfield 28, 3) := by decide +kernel
theorem dX12_freeze_44 : decode cX12_freeze 44 = .ok (.iconst 0, 1) := by decide +kernel
theorem dX12_freeze_45 : decode cX12_freeze 45 = .ok (.iaload, 1) := by decide +kernel
theorem dX12_freeze_46 : decode cX12_freeze 46 = .ok (.if_icmp .ge 82, 3) := by decide +kernel
theorem dX12_freeze_49 : decode cX12_freeze 49 = .ok (.aload_n 0, 1) := by decide +kernel
theorem dX12_freeze_50 : decode cX12_freeze 50 = .ok (.getfield 82, 3) := by decide +kernel
theorem dX12_freeze_53 : decode cX12_freeze 53 = .ok (.iload 5, 2) := by decide +kernel
theorem dX12_freeze_55 : decode cX12_freeze 55 = .ok (.iaload, 1) := by decide +kernel
theorem dX12_freeze_56 : decode cX12_freeze 56 = .ok (.ifCond .ne 66, 3) := by decide +kernel
theorem dX12_freeze_59 : decode cX12_freeze 59 = .ok (.aload_n 0, 1) := by decide +kernel
theorem dX12_freeze_60 : decode cX12_freeze 60 = .ok (.getfield 73, 3) := by decide +kernel
theorem dX12_freeze_63 : decode cX12_freeze 63 = .ok (.iload 5, 2) := by decide +kernel
theorem dX12_freeze_65 : decode cX12_freeze 65 = .ok (.iaload, 1) := by decide +kernel
theorem dX12_freeze_66 : decode cX12_freeze 66 = .ok (.iconst 3, 1) := by decide +kernel
theorem dX12_freeze_67 : decode cX12_freeze 67 = .ok (.if_icmp .eq 55, 3) := by decide +kernel
theorem dX12_freeze_70 : decode cX12_freeze 70 = .ok (.aload_n 0, 1) := by decide +kernel
theorem dX12_freeze_71 : decode cX12_freeze 71 = .ok (.iconst 0, 1) := by decide +kernel
theorem dX12_freeze_72 : decode cX12_freeze 72 = .ok (.iconst 1, 1) := by decide +kernel
theorem dX12_freeze_73 : decode cX12_freeze 73 = .ok (.invokevirtual 213, 3) := by decide +kernel
theorem dX12_freeze_76 : decode cX12_freeze 76 = .ok (.aload_n 0, 1) := by decide +kernel
theorem dX12_freeze_77 : decode cX12_freeze 77 = .ok (.getfield 73, 3) := by decide +kernel
theorem dX12_freeze_80 : decode cX12_freeze 80 = .ok (.bipush 10, 2) := by decide +kernel
theorem dX12_freeze_82 : decode cX12_freeze 82 = .ok (.iload 5, 2) := by decide +kernel
theorem dX12_freeze_84 : decode cX12_freeze 84 = .ok (.iadd, 1) := by decide +kernel
theorem dX12_freeze_85 : decode cX12_freeze 85 = .ok (.iconst 3, 1) := by decide +kernel
theorem dX12_freeze_86 : decode cX12_freeze 86 = .ok (.iastore, 1) := by decide +kernel
theorem dX12_freeze_87 : decode cX12_freeze 87 = .ok (.aload_n 0, 1) := by decide +kernel
theorem dX12_freeze_88 : decode cX12_freeze 88 = .ok (.iload_n 1, 1) := by decide +kernel
theorem dX12_freeze_89 : decode cX12_freeze 89 = .ok (.invokevirtual 217, 3) := by decide +kernel
theorem dX12_freeze_92 : decode cX12_freeze 92 = .ok (.istore 6, 2) := by decide +kernel
theorem dX12_freeze_94 : decode cX12_freeze 94 = .ok (.iload 6, 2) := by decide +kernel
theorem dX12_freeze_96 : decode cX12_freeze 96 = .ok (.iload_n 3, 1) := by decide +kernel
theorem dX12_freeze_97 : decode cX12_freeze 97 = .ok (.if_icmp .ge 8, 3) := by decide +kernel
theorem dX12_freeze_100 : decode cX12_freeze 100 = .ok (.iload 5, 2) := by decide +kernel
theorem dX12_freeze_102 : decode cX12_freeze 102 = .ok (.goto 5, 3) := by decide +kernel
theorem dX12_freeze_105 : decode cX12_freeze 105 = .ok (.iload 4, 2) := by decide +kernel
theorem dX12_freeze_107 : decode cX12_freeze 107 = .ok (.istore 4, 2) := by decide +kernel
theorem dX12_freeze_109 : decode cX12_freeze 109 = .ok (.iload 6, 2) := by decide +kernel
theorem dX12_freeze_111 : decode cX12_freeze 111 = .ok (.iload_n 3, 1) := by decide +kernel
theorem dX12_freeze_112 : decode cX12_freeze 112 = .ok (.if_icmp .ge 8, 3) := by decide +kernel
theorem dX12_freeze_115 : decode cX12_freeze 115 = .ok (.iload 6, 2) := by decide +kernel
theorem dX12_freeze_117 : decode cX12_freeze 117 = .ok (.goto 4, 3) := by decide +kernel
theorem dX12_freeze_120 : decode cX12_freeze 120 = .ok (.iload_n 3, 1) := by decide +kernel
theorem dX12_freeze_121 : decode cX12_freeze 121 = .ok (.istore_n 3, 1) := by decide +kernel
theorem dX12_freeze_122 : decode cX12_freeze 122 = .ok (.iinc 5 1, 3) := by decide +kernel
theorem dX12_freeze_125 : decode cX12_freeze 125 = .ok (.goto (-87), 3) := by decide +kernel
theorem dX12_freeze_128 : decode cX12_freeze 128 = .ok (.iload 4, 2) := by decide +kernel
theorem dX12_freeze_130 : decode cX12_freeze 130 = .ok (.ifCond .ge 8, 3) := by decide +kernel
theorem dX12_freeze_133 : decode cX12_freeze 133 = .ok (.bipush (-4), 2) := by decide +kernel
theorem dX12_freeze_135 : decode cX12_freeze 135 = .ok (.goto 13, 3) := by decide +kernel
theorem dX12_freeze_138 : decode cX12_freeze 138 = .ok (.iload_n 2, 1) := by decide +kernel
theorem dX12_freeze_139 : decode cX12_freeze 139 = .ok (.ifCond .ne 8, 3) := by decide +kernel
theorem dX12_freeze_142 : decode cX12_freeze 142 = .ok (.iload 4, 2) := by decide +kernel
theorem dX12_freeze_144 : decode cX12_freeze 144 = .ok (.goto 4, 3) := by decide +kernel
theorem dX12_freeze_147 : decode cX12_freeze 147 = .ok (.iload_n 3, 1) := by decide +kernel
theorem dX12_freeze_148 : decode cX12_freeze 148 = .ok (.ireturn, 1) := by decide +kernel
theorem dX12_layAs_0 : decode cX12_layAs 0 = .ok (.aload_n 0, 1) := by decide +kernel
theorem dX12_layAs_1 : decode cX12_layAs 1 = .ok (.iconst 0, 1) := by decide +kernel
theorem dX12_layAs_2 : decode cX12_layAs 2 = .ok (.iconst 1, 1) := by decide +kernel
theorem dX12_layAs_3 : decode cX12_layAs 3 = .ok (.invokevirtual 213, 3) := by decide +kernel
theorem dX12_layAs_6 : decode cX12_layAs 6 = .ok (.iconst 0, 1) := by decide +kernel
theorem dX12_layAs_7 : decode cX12_layAs 7 = .ok (.istore_n 3, 1) := by decide +kernel
theorem dX12_layAs_8 : decode cX12_layAs 8 = .ok (.iconst 0, 1) := by decide +kernel
theorem dX12_layAs_9 : decode cX12_layAs 9 = .ok (.istore 4, 2) := by decide +kernel
theorem dX12_layAs_11 : decode cX12_layAs 11 = .ok (.iload 4, 2) := by decide +kernel
theorem dX12_layAs_13 : decode cX12_layAs 13 = .ok (.aload_n 0, 1) := by decide +kernel
theorem dX12_layAs_14 : decode cX12_layAs 14 = .ok (.getfield 28, 3) := by decide +kernel
theorem dX12_layAs_17 : decode cX12_layAs 17 = .ok (.iconst 0, 1) := by decide +kernel
theorem dX12_layAs_18 : decode cX12_layAs 18 = .ok (.iaload, 1) := by decide +kernel
theorem dX12_layAs_19 : decode cX12_layAs 19 = .ok (.if_icmp .ge 50, 3) := by decide +kernel
theorem dX12_layAs_22 : decode cX12_layAs 22 = .ok (.iload_n 3, 1) := by decide +kernel
theorem dX12_layAs_23 : decode cX12_layAs 23 = .ok (.iload_n 2, 1) := by decide +kernel
theorem dX12_layAs_24 : decode cX12_layAs 24 = .ok (.if_icmp .ge 45, 3) := by decide +kernel
theorem dX12_layAs_27 : decode cX12_layAs 27 = .ok (.aload_n 0, 1) := by decide +kernel
theorem dX12_layAs_28 : decode cX12_layAs 28 = .ok (.getfield 82, 3) := by decide +kernel
theorem dX12_layAs_31 : decode cX12_layAs 31 = .ok (.iload 4, 2) := by decide +kernel
theorem dX12_layAs_33 : decode cX12_layAs 33 = .ok (.iaload, 1) := by decide +kernel
theorem dX12_layAs_34 : decode cX12_layAs 34 = .ok (.ifCond .ne 29, 3) := by decide +kernel
theorem dX12_layAs_37 : decode cX12_layAs 37 = .ok (.aload_n 0, 1) := by decide +kernel
theorem dX12_layAs_38 : decode cX12_layAs 38 = .ok (.getfield 76, 3) := by decide +kernel
theorem dX12_layAs_41 : decode cX12_layAs 41 = .ok (.bipush 10, 2) := by decide +kernel
theorem dX12_layAs_43 : decode cX12_layAs 43 = .ok (.iload 4, 2) := by decide +kernel
theorem dX12_layAs_45 : decode cX12_layAs 45 = .ok (.iadd, 1) := by decide +kernel
theorem dX12_layAs_46 : decode cX12_layAs 46 = .ok (.aload_n 0, 1) := by decide +kernel
theorem dX12_layAs_47 : decode cX12_layAs 47 = .ok (.iload_n 1, 1) := by decide +kernel
theorem dX12_layAs_48 : decode cX12_layAs 48 = .ok (.aload_n 0, 1) := by decide +kernel
theorem dX12_layAs_49 : decode cX12_layAs 49 = .ok (.getfield 13, 3) := by decide +kernel
theorem dX12_layAs_52 : decode cX12_layAs 52 = .ok (.iconst 0, 1) := by decide +kernel
theorem dX12_layAs_53 : decode cX12_layAs 53 = .ok (.iaload, 1) := by decide +kernel
theorem dX12_layAs_54 : decode cX12_layAs 54 = .ok (.iload_n 2, 1) := by decide +kernel
theorem dX12_layAs_55 : decode cX12_layAs 55 = .ok (.iload_n 3, 1) := by decide +kernel
theorem dX12_layAs_56 : decode cX12_layAs 56 = .ok (.invokevirtual 229, 3) := by decide +kernel
theorem dX12_layAs_59 : decode cX12_layAs 59 = .ok (.iastore, 1) := by decide +kernel
theorem dX12_layAs_60 : decode cX12_layAs 60 = .ok (.iinc 3 1, 3) := by decide +kernel
theorem dX12_layAs_63 : decode cX12_layAs 63 = .ok (.iinc 4 1, 3) := by decide +kernel
theorem dX12_layAs_66 : decode cX12_layAs 66 = .ok (.goto (-55), 3) := by decide +kernel
theorem dX12_layAs_69 : decode cX12_layAs 69 = .ok (.iconst 1, 1) := by decide +kernel
theorem dX12_layAs_70 : decode cX12_layAs 70 = .ok (.istore 4, 2) := by decide +kernel
theorem dX12_layAs_72 : decode cX12_layAs 72 = .ok (.iconst 0, 1) := by decide +kernel
theorem dX12_layAs_73 : decode cX12_layAs 73 = .ok (.istore 5, 2) := by decide +kernel
theorem dX12_layAs_75 : decode cX12_layAs 75 = .ok (.iload 5, 2) := by decide +kernel
theorem dX12_layAs_77 : decode cX12_layAs 77 = .ok (.aload_n 0, 1) := by decide +kernel
theorem dX12_layAs_78 : decode cX12_layAs 78 = .ok (.getfield 13, 3) := by decide +kernel
theorem dX12_layAs_81 : decode cX12_layAs 81 = .ok (.iconst 0, 1) := by decide +kernel
theorem dX12_layAs_82 : decode cX12_layAs 82 = .ok (.iaload, 1) := by decide +kernel
theorem dX12_layAs_83 : decode cX12_layAs 83 = .ok (.if_icmp .ge 92, 3) := by decide +kernel
theorem dX12_layAs_86 : decode cX12_layAs 86 = .ok (.iconst 0, 1) := by decide +kernel
theorem dX12_layAs_87 : decode cX12_layAs 87 = .ok (.istore 6, 2) := by decide +kernel
theorem dX12_layAs_89 : decode cX12_layAs 89 = .ok (.bipush 10, 2) := by decide +kernel
theorem dX12_layAs_91 : decode cX12_layAs 91 = .ok (.istore 7, 2) := by decide +kernel
theorem dX12_layAs_93 : decode cX12_layAs 93 = .ok (.iload 7, 2) := by decide +kernel
theorem dX12_layAs_95 : decode cX12_layAs 95 = .ok (.bipush 10, 2) := by decide +kernel
theorem dX12_layAs_97 : decode cX12_layAs 97 = .ok (.aload_n 0, 1) := by decide +kernel
theorem dX12_layAs_98 : decode cX12_layAs 98 = .ok (.getfield 28, 3) := by decide +kernel
theorem dX12_layAs_101 : decode cX12_layAs 101 = .ok (.iconst 0, 1) := by decide +kernel
theorem dX12_layAs_102 : decode cX12_layAs 102 = .ok (.iaload, 1) := by decide +kernel
theorem dX12_layAs_103 : decode cX12_layAs 103 = .ok (.iadd, 1) := by decide +kernel
theorem dX12_layAs_104 : decode cX12_layAs 104 = .ok (.if_icmp .ge 41, 3) := by decide +kernel
theorem dX12_layAs_107 : decode cX12_layAs 107 = .ok (.iload 6, 2) := by decide +kernel
theorem dX12_layAs_109 : decode cX12_layAs 109 = .ok (.aload_n 0, 1) := by decide +kernel
theorem dX12_layAs_110 : decode cX12_layAs 110 = .ok (.getfield 82, 3) := by decide +kernel
theorem dX12_layAs_113 : decode cX12_layAs 113 = .ok (.iload 7, 2) := by decide +kernel
theorem dX12_layAs_115 : decode cX12_layAs 115 = .ok (.iaload, 1) := by decide +kernel
theorem dX12_layAs_116 : decode cX12_layAs 116 = .ok (.ifCond .ne 19, 3) := by decide +kernel
theorem dX12_layAs_119 : decode cX12_layAs 119 = .ok (.aload_n 0, 1) := by decide +kernel
theorem dX12_layAs_120 : decode cX12_layAs 120 = .ok (.getfield 76, 3) := by decide +kernel
theorem dX12_layAs_123 : decode cX12_layAs 123 = .ok (.iload 7, 2) := by decide +kernel
theorem dX12_layAs_125 : decode cX12_layAs 125 = .ok (.iaload, 1) := by decide +kernel
theorem dX12_layAs_126 : decode cX12_layAs 126 = .ok (.iload 5, 2) := by decide +kernel
theorem dX12_layAs_128 : decode cX12_layAs 128 = .ok (.if_icmp .ne 7, 3) := by decide +kernel
theorem dX12_layAs_131 : decode cX12_layAs 131 = .ok (.iconst 1, 1) := by decide +kernel
theorem dX12_layAs_132 : decode cX12_layAs 132 = .ok (.goto 4, 3) := by decide +kernel
theorem dX12_layAs_135 : decode cX12_layAs 135 = .ok (.iconst 0, 1) := by decide +kernel
theorem dX12_layAs_136 : decode cX12_layAs 136 = .ok (.iadd, 1) := by decide +kernel
theorem dX12_layAs_137 : decode cX12_layAs 137 = .ok (.istore 6, 2) := by decide +kernel
theorem dX12_layAs_139 : decode cX12_layAs 139 = .ok (.iinc 7 1, 3) := by decide +kernel
theorem dX12_layAs_142 : decode cX12_layAs 142 = .ok (.goto (-49), 3) := by decide +kernel
theorem dX12_layAs_145 : decode cX12_layAs 145 = .ok (.iload 4, 2) := by decide +kernel
theorem dX12_layAs_147 : decode cX12_layAs 147 = .ok (.ifCond .eq 19, 3) := by decide +kernel
theorem dX12_layAs_150 : decode cX12_layAs 150 = .ok (.iload 6, 2) := by decide +kernel
theorem dX12_layAs_152 : decode cX12_layAs 152 = .ok (.aload_n 0, 1) := by decide +kernel
theorem dX12_layAs_153 : decode cX12_layAs 153 = .ok (.getfield 22, 3) := by decide +kernel
theorem dX12_layAs_156 : decode cX12_layAs 156 = .ok (.iload 5, 2) := by decide +kernel
theorem dX12_layAs_158 : decode cX12_layAs 158 = .ok (.iaload, 1) := by decide +kernel
theorem dX12_layAs_159 : decode cX12_layAs 159 = .ok (.if_icmp .gt 7, 3) := by decide +kernel
theorem dX12_layAs_162 : decode cX12_layAs 162 = .ok (.iconst 1, 1) := by decide +kernel
theorem dX12_layAs_163 : decode cX12_layAs 163 = .ok (.goto 4, 3) := by decide +kernel
theorem dX12_layAs_166 : decode cX12_layAs 166 = .ok (.iconst 0, 1) := by decide +kernel
theorem dX12_layAs_167 : decode cX12_layAs 167 = .ok (.istore 4, 2) := by decide +kernel
theorem dX12_layAs_169 : decode cX12_layAs 169 = .ok (.iinc 5 1, 3) := by decide +kernel
theorem dX12_layAs_172 : decode cX12_layAs 172 = .ok (.goto (-97), 3) := by decide +kernel
theorem dX12_layAs_175 : decode cX12_layAs 175 = .ok (.iload 4, 2) := by decide +kernel
theorem dX12_layAs_177 : decode cX12_layAs 177 = .ok (.ireturn, 1) := by decide +kernel
theorem dX12_thereMany_0 : decode cX12_thereMany 0 = .ok (.iconst 0, 1) := by decide +kernel
theorem dX12_thereMany_1 : decode cX12_thereMany 1 = .ok (.istore_n 1, 1) := by decide +kernel
theorem dX12_thereMany_2 : decode cX12_thereMany 2 = .ok (.iconst 0, 1) := by decide +kernel
theorem dX12_thereMany_3 : decode cX12_thereMany 3 = .ok (.istore_n 2, 1) := by decide +kernel
theorem dX12_thereMany_4 : decode cX12_thereMany 4 = .ok (.iload_n 2, 1) := by decide +kernel
theorem dX12_thereMany_5 : decode cX12_thereMany 5 = .ok (.aload_n 0, 1) := by decide +kernel
theorem dX12_thereMany_6 : decode cX12_thereMany 6 = .ok (.getfield 28, 3) := by decide +kernel
theorem dX12_thereMany_9 : decode cX12_thereMany 9 = .ok (.iconst 0, 1) := by decide +kernel
theorem dX12_thereMany_10 : decode cX12_thereMany 10 = .ok (.iaload, 1) := by decide +kernel
theorem dX12_thereMany_11 : decode cX12_thereMany 11 = .ok (.if_icmp .ge 26, 3) := by decide +kernel
theorem dX12_thereMany_14 : decode cX12_thereMany 14 = .ok (.iload_n 1, 1) := by decide +kernel
theorem dX12_thereMany_15 : decode cX12_thereMany 15 = .ok (.aload_n 0, 1) := by decide +kernel
theorem dX12_thereMany_16 : decode cX12_thereMany 16 = .ok (.getfield 82, 3) := by decide +kernel
theorem dX12_thereMany_19 : decode cX12_thereMany 19 = .ok (.iload_n 2, 1) := by decide +kernel
theorem dX12_thereMany_20 : decode cX12_thereMany 20 = .ok (.iaload, 1) := by decide +kernel
theorem dX12_thereMany_21 : decode cX12_thereMany 21 = .ok (.ifCond .ne 7, 3) := by decide +kernel
theorem dX12_thereMany_24 : decode cX12_thereMany 24 = .ok (.iconst 1, 1) := by decide +kernel
theorem dX12_thereMany_25 : decode cX12_thereMany 25 = .ok (.goto 4, 3) := by decide +kernel
theorem dX12_thereMany_28 : decode cX12_thereMany 28 = .ok (.iconst 0, 1) := by decide +kernel
theorem dX12_thereMany_29 : decode cX12_thereMany 29 = .ok (.iadd, 1) := by decide +kernel
theorem dX12_thereMany_30 : decode cX12_thereMany 30 = .ok (.istore_n 1, 1) := by decide +kernel
theorem dX12_thereMany_31 : decode cX12_thereMany 31 = .ok (.iinc 2 1, 3) := by decide +kernel
theorem dX12_thereMany_34 : decode cX12_thereMany 34 = .ok (.goto (-30), 3) := by decide +kernel
theorem dX12_thereMany_37 : decode cX12_thereMany 37 = .ok (.iload_n 1, 1) := by decide +kernel
theorem dX12_thereMany_38 : decode cX12_thereMany 38 = .ok (.ireturn, 1) := by decide +kernel
theorem dX12_lie_0 : decode cX12_lie 0 = .ok (.iload_n 1, 1) := by decide +kernel
theorem dX12_lie_1 : decode cX12_lie 1 = .ok (.i2l, 1) := by decide +kernel
theorem dX12_lie_2 : decode cX12_lie 2 = .ok (.lconst 1, 1) := by decide +kernel
theorem dX12_lie_3 : decode cX12_lie 3 = .ok (.ldc2_w 239, 3) := by decide +kernel
theorem dX12_lie_6 : decode cX12_lie 6 = .ok (.invokestatic 106, 3) := by decide +kernel
theorem dX12_lie_9 : decode cX12_lie 9 = .ok (.ifCond .eq 25, 3) := by decide +kernel
theorem dX12_lie_12 : decode cX12_lie 12 = .ok (.iload_n 2, 1) := by decide +kernel
theorem dX12_lie_13 : decode cX12_lie 13 = .ok (.invokestatic 210, 3) := by decide +kernel
theorem dX12_lie_16 : decode cX12_lie 16 = .ok (.ifCond .eq 18, 3) := by decide +kernel
theorem dX12_lie_19 : decode cX12_lie 19 = .ok (.iload_n 3, 1) := by decide +kernel
theorem dX12_lie_20 : decode cX12_lie 20 = .ok (.i2l, 1) := by decide +kernel
theorem dX12_lie_21 : decode cX12_lie 21 = .ok (.ldc2_w 241, 3) := by decide +kernel
theorem dX12_lie_24 : decode cX12_lie 24 = .ok (.iload_n 1, 1) := by decide +kernel
theorem dX12_lie_25 : decode cX12_lie 25 = .ok (.iconst 1, 1) := by decide +kernel
theorem dX12_lie_26 : decode cX12_lie 26 = .ok (.isub, 1) := by decide +kernel
theorem dX12_lie_27 : decode cX12_lie 27 = .ok (.i2l, 1) := by decide +kernel
theorem dX12_lie_28 : decode cX12_lie 28 = .ok (.invokestatic 106, 3) := by decide +kernel
theorem dX12_lie_31 : decode cX12_lie 31 = .ok (.ifCond .ne 5, 3) := by decide +kernel
theorem dX12_lie_34 : decode cX12_lie 34 = .ok (.iconst (-1), 1) := by decide +kernel
theorem dX12_lie_35 : decode cX12_lie 35 = .ok (.ireturn, 1) := by decide +kernel
theorem dX12_lie_36 : decode cX12_lie 36 = .ok (.aload_n 0, 1) := by decide +kernel
theorem dX12_lie_37 : decode cX12_lie 37 = .ok (.invokevirtual 246, 3) := by decide +kernel
theorem dX12_lie_40 : decode cX12_lie 40 = .ok (.iload_n 1, 1) := by decide +kernel
theorem dX12_lie_41 : decode cX12_lie 41 = .ok (.if_icmp .ge 6, 3) := by decide +kernel
theorem dX12_lie_44 : decode cX12_lie 44 = .ok (.bipush (-4), 2) := by decide +kernel
theorem dX12_lie_46 : decode cX12_lie 46 = .ok (.ireturn, 1) := by decide +kernel
theorem dX12_lie_47 : decode cX12_lie 47 = .ok (.iconst 1, 1) := by decide +kernel
theorem dX12_lie_48 : decode cX12_lie 48 = .ok (.istore 4, 2) := by decide +kernel
theorem dX12_lie_50 : decode cX12_lie 50 = .ok (.iconst 0, 1) := by decide +kernel
theorem dX12_lie_51 : decode cX12_lie 51 = .ok (.istore 5, 2) := by decide +kernel
theorem dX12_lie_53 : decode cX12_lie 53 = .ok (.iload 5, 2) := by decide +kernel
theorem dX12_lie_55 : decode cX12_lie 55 = .ok (.iload_n 1, 1) := by decide +kernel
theorem dX12_lie_56 : decode cX12_lie 56 = .ok (.if_icmp .ge 20, 3) := by decide +kernel
theorem dX12_lie_59 : decode cX12_lie 59 = .ok (.iload 4, 2) := by decide +kernel
theorem dX12_lie_61 : decode cX12_lie 61 = .ok (.aload_n 0, 1) := by decide +kernel
theorem dX12_lie_62 : decode cX12_lie 62 = .ok (.getfield 13, 3) := by decide +kernel
theorem dX12_lie_65 : decode cX12_lie 65 = .ok (.iconst 0, 1) := by decide +kernel
theorem dX12_lie_66 : decode cX12_lie 66 = .ok (.iaload, 1) := by decide +kernel
theorem dX12_lie_67 : decode cX12_lie 67 = .ok (.imul, 1) := by decide +kernel
theorem dX12_lie_68 : decode cX12_lie 68 = .ok (.istore 4, 2) := by decide +kernel
theorem dX12_lie_70 : decode cX12_lie 70 = .ok (.iinc 5 1, 3) := by decide +kernel
theorem dX12_lie_73 : decode cX12_lie 73 = .ok (.goto (-20), 3) := by decide +kernel
theorem dX12_lie_76 : decode cX12_lie 76 = .ok (.bipush (-4), 2) := by decide +kernel
theorem dX12_lie_78 : decode cX12_lie 78 = .ok (.istore 5, 2) := by decide +kernel
theorem dX12_lie_80 : decode cX12_lie 80 = .ok (.iconst 0, 1) := by decide +kernel
theorem dX12_lie_81 : decode cX12_lie 81 = .ok (.istore 6, 2) := by decide +kernel
theorem dX12_lie_83 : decode cX12_lie 83 = .ok (.iconst 0, 1) := by decide +kernel
theorem dX12_lie_84 : decode cX12_lie 84 = .ok (.istore 7, 2) := by decide +kernel
theorem dX12_lie_86 : decode cX12_lie 86 = .ok (.iload 7, 2) := by decide +kernel
theorem dX12_lie_88 : decode cX12_lie 88 = .ok (.iload 4, 2) := by decide +kernel
theorem dX12_lie_90 : decode cX12_lie 90 = .ok (.if_icmp .ge 56, 3) := by decide +kernel
theorem dX12_lie_93 : decode cX12_lie 93 = .ok (.aload_n 0, 1) := by decide +kernel
theorem dX12_lie_94 : decode cX12_lie 94 = .ok (.iload 7, 2) := by decide +kernel
theorem dX12_lie_96 : decode cX12_lie 96 = .ok (.iload_n 1, 1) := by decide +kernel
theorem dX12_lie_97 : decode cX12_lie 97 = .ok (.invokevirtual 249, 3) := by decide +kernel
theorem dX12_lie_100 : decode cX12_lie 100 = .ok (.ifCond .eq 11, 3) := by decide +kernel
theorem dX12_lie_103 : decode cX12_lie 103 = .ok (.aload_n 0, 1) := by decide +kernel
theorem dX12_lie_104 : decode cX12_lie 104 = .ok (.iload_n 2, 1) := by decide +kernel
theorem dX12_lie_105 : decode cX12_lie 105 = .ok (.invokevirtual 217, 3) := by decide +kernel
theorem dX12_lie_108 : decode cX12_lie 108 = .ok (.goto 5, 3) := by decide +kernel
theorem dX12_lie_111 : decode cX12_lie 111 = .ok (.bipush (-4), 2) := by decide +kernel
theorem dX12_lie_113 : decode cX12_lie 113 = .ok (.istore 8, 2) := by decide +kernel
theorem dX12_lie_115 : decode cX12_lie 115 = .ok (.iload 8, 2) := by decide +kernel
theorem dX12_lie_117 : decode cX12_lie 117 = .ok (.ifCond .lt 23, 3) := by decide +kernel
theorem dX12_lie_120 : decode cX12_lie 120 = .ok (.iload 5, 2) := by decide +kernel
theorem dX12_lie_122 : decode cX12_lie 122 = .ok (.ifCond .lt 10, 3) := by decide +kernel
theorem dX12_lie_125 : decode cX12_lie 125 = .ok (.iload 8, 2) := by decide +kernel
theorem dX12_lie_127 : decode cX12_lie 127 = .ok (.iload 6, 2) := by decide +kernel
theorem dX12_lie_129 : decode cX12_lie 129 = .ok (.if_icmp .ge 11, 3) := by decide +kernel
theorem dX12_lie_132 : decode cX12_lie 132 = .ok (.iload 7, 2) := by decide +kernel
theorem dX12_lie_134 : decode cX12_lie 134 = .ok (.istore 5, 2) := by decide +kernel
theorem dX12_lie_136 : decode cX12_lie 136 = .ok (.iload 8, 2) := by decide +kernel
theorem dX12_lie_138 : decode cX12_lie 138 = .ok (.istore 6, 2) := by decide +kernel
theorem dX12_lie_140 : decode cX12_lie 140 = .ok (.iinc 7 1, 3) := by decide +kernel
theorem dX12_lie_143 : decode cX12_lie 143 = .ok (.goto (-57), 3) := by decide +kernel
theorem dX12_lie_146 : decode cX12_lie 146 = .ok (.iload_n 3, 1) := by decide +kernel
theorem dX12_lie_147 : decode cX12_lie 147 = .ok (.ifCond .ge 8, 3) := by decide +kernel
theorem dX12_lie_150 : decode cX12_lie 150 = .ok (.iload 6, 2) := by decide +kernel
theorem dX12_lie_152 : decode cX12_lie 152 = .ok (.goto 17, 3) := by decide +kernel
theorem dX12_lie_155 : decode cX12_lie 155 = .ok (.aload_n 0, 1) := by decide +kernel
theorem dX12_lie_156 : decode cX12_lie 156 = .ok (.iload 5, 2) := by decide +kernel
theorem dX12_lie_158 : decode cX12_lie 158 = .ok (.aload_n 0, 1) := by decide +kernel
theorem dX12_lie_159 : decode cX12_lie 159 = .ok (.getfield 13, 3) := by decide +kernel
theorem dX12_lie_162 : decode cX12_lie 162 = .ok (.iconst 0, 1) := by decide +kernel
theorem dX12_lie_163 : decode cX12_lie 163 = .ok (.iaload, 1) := by decide +kernel
theorem dX12_lie_164 : decode cX12_lie 164 = .ok (.iload_n 1, 1) := by decide +kernel
theorem dX12_lie_165 : decode cX12_lie 165 = .ok (.iload_n 3, 1) := by decide +kernel
theorem dX12_lie_166 : decode cX12_lie 166 = .ok (.invokevirtual 229, 3) := by decide +kernel
theorem dX12_lie_169 : decode cX12_lie 169 = .ok (.ireturn, 1) := by decide +kernel
theorem dX12_expectOf_0 : decode cX12_expectOf 0 = .ok (.iload_n 1, 1) := by decide +kernel
theorem dX12_expectOf_1 : decode cX12_expectOf 1 = .ok (.aload_n 0, 1) := by decide +kernel
theorem dX12_expectOf_2 : decode cX12_expectOf 2 = .ok (.getfield 70, 3) := by decide +kernel
theorem dX12_expectOf_5 : decode cX12_expectOf 5 = .ok (.iconst 0, 1) := by decide +kernel
theorem dX12_expectOf_6 : decode cX12_expectOf 6 = .ok (.iaload, 1) := by decide +kernel
theorem dX12_expectOf_7 : decode cX12_expectOf 7 = .ok (.imul, 1) := by decide +kernel
theorem dX12_expectOf_8 : decode cX12_expectOf 8 = .ok (.istore_n 2, 1) := by decide +kernel
theorem dX12_expectOf_9 : decode cX12_expectOf 9 = .ok (.iload_n 1, 1) := by decide +kernel
theorem dX12_expectOf_10 : decode cX12_expectOf 10 = .ok (.iconst 2, 1) := by decide +kernel
theorem dX12_expectOf_11 : decode cX12_expectOf 11 = .ok (.idiv, 1) := by decide +kernel
theorem dX12_expectOf_12 : decode cX12_expectOf 12 = .ok (.aload_n 0, 1) := by decide +kernel
theorem dX12_expectOf_13 : decode cX12_expectOf 13 = .ok (.getfield 70, 3) := by decide +kernel
theorem dX12_expectOf_16 : decode cX12_expectOf 16 = .ok (.iconst 1, 1) := by decide +kernel
theorem dX12_expectOf_17 : decode cX12_expectOf 17 = .ok (.iaload, 1) := by decide +kernel
theorem dX12_expectOf_18 : decode cX12_expectOf 18 = .ok (.imul, 1) := by decide +kernel
theorem dX12_expectOf_19 : decode cX12_expectOf 19 = .ok (.iload_n 1, 1) := by decide +kernel
theorem dX12_expectOf_20 : decode cX12_expectOf 20 = .ok (.iconst 2, 1) := by decide +kernel
theorem dX12_expectOf_21 : decode cX12_expectOf 21 = .ok (.irem, 1) := by decide +kernel
theorem dX12_expectOf_22 : decode cX12_expectOf 22 = .ok (.aload_n 0, 1) := by decide +kernel
theorem dX12_expectOf_23 : decode cX12_expectOf 23 = .ok (.getfield 70, 3) := by decide +kernel
theorem dX12_expectOf_26 : decode cX12_expectOf 26 = .ok (.iconst 0, 1) := by decide +kernel
theorem dX12_expectOf_27 : decode cX12_expectOf 27 = .ok (.iaload, 1) := by decide +kernel
theorem dX12_expectOf_28 : decode cX12_expectOf 28 = .ok (.imul, 1) := by decide +kernel
theorem dX12_expectOf_29 : decode cX12_expectOf 29 = .ok (.iadd, 1) := by decide +kernel
theorem dX12_expectOf_30 : decode cX12_expectOf 30 = .ok (.istore_n 3, 1) := by decide +kernel
theorem dX12_expectOf_31 : decode cX12_expectOf 31 = .ok (.iload_n 2, 1) := by decide +kernel
theorem dX12_expectOf_32 : decode cX12_expectOf 32 = .ok (.iload_n 3, 1) := by decide +kernel
theorem dX12_expectOf_33 : decode cX12_expectOf 33 = .ok (.if_icmp .ge 7, 3) := by decide +kernel
theorem dX12_expectOf_36 : decode cX12_expectOf 36 = .ok (.iload_n 2, 1) := by decide +kernel
theorem dX12_expectOf_37 : decode cX12_expectOf 37 = .ok (.goto 4, 3) := by decide +kernel
theorem dX12_expectOf_40 : decode cX12_expectOf 40 = .ok (.iload_n 3, 1) := by decide +kernel
theorem dX12_expectOf_41 : decode cX12_expectOf 41 = .ok (.istore 4, 2) := by decide +kernel
theorem dX12_expectOf_43 : decode cX12_expectOf 43 = .ok (.iconst 0, 1) := by decide +kernel
theorem dX12_expectOf_44 : decode cX12_expectOf 44 = .ok (.istore 5, 2) := by decide +kernel
theorem dX12_expectOf_46 : decode cX12_expectOf 46 = .ok (.iconst 0, 1) := by decide +kernel
theorem dX12_expectOf_47 : decode cX12_expectOf 47 = .ok (.istore 6, 2) := by decide +kernel
theorem dX12_expectOf_49 : decode cX12_expectOf 49 = .ok (.iload 6, 2) := by decide +kernel
theorem dX12_expectOf_51 : decode cX12_expectOf 51 = .ok (.aload_n 0, 1) := by decide +kernel
theorem dX12_expectOf_52 : decode cX12_expectOf 52 = .ok (.getfield 61, 3) := by decide +kernel
theorem dX12_expectOf_55 : decode cX12_expectOf 55 = .ok (.iconst 0, 1) := by decide +kernel
theorem dX12_expectOf_56 : decode cX12_expectOf 56 = .ok (.iaload, 1) := by decide +kernel
theorem dX12_expectOf_57 : decode cX12_expectOf 57 = .ok (.if_icmp .ge 56, 3) := by decide +kernel
theorem dX12_expectOf_60 : decode cX12_expectOf 60 = .ok (.aload_n 0, 1) := by decide +kernel
theorem dX12_expectOf_61 : decode cX12_expectOf 61 = .ok (.getfield 64, 3) := by decide +kernel
theorem dX12_expectOf_64 : decode cX12_expectOf 64 = .ok (.iload 6, 2) := by decide +kernel
theorem dX12_expectOf_66 : decode cX12_expectOf 66 = .ok (.iaload, 1) := by decide +kernel
theorem dX12_expectOf_67 : decode cX12_expectOf 67 = .ok (.iload_n 1, 1) := by decide +kernel
theorem dX12_expectOf_68 : decode cX12_expectOf 68 = .ok (.if_icmp .le 15, 3) := by decide +kernel
theorem dX12_expectOf_71 : decode cX12_expectOf 71 = .ok (.aload_n 0, 1) := by decide +kernel
theorem dX12_expectOf_72 : decode cX12_expectOf 72 = .ok (.getfield 64, 3) := by decide +kernel
theorem dX12_expectOf_75 : decode cX12_expectOf 75 = .ok (.iload 6, 2) := by decide +kernel
theorem dX12_expectOf_77 : decode cX12_expectOf 77 = .ok (.iaload, 1) := by decide +kernel
theorem dX12_expectOf_78 : decode cX12_expectOf 78 = .ok (.iload_n 1, 1) := by decide +kernel
theorem dX12_expectOf_79 : decode cX12_expectOf 79 = .ok (.isub, 1) := by decide +kernel
theorem dX12_expectOf_80 : decode cX12_expectOf 80 = .ok (.goto 4, 3) := by decide +kernel
theorem dX12_expectOf_83 : decode cX12_expectOf 83 = .ok (.iconst 0, 1) := by decide +kernel
theorem dX12_expectOf_84 : decode cX12_expectOf 84 = .ok (.istore 7, 2) := by decide +kernel
theorem dX12_expectOf_86 : decode cX12_expectOf 86 = .ok (.iload 5, 2) := by decide +kernel
theorem dX12_expectOf_88 : decode cX12_expectOf 88 = .ok (.aload_n 0, 1) := by decide +kernel
theorem dX12_expectOf_89 : decode cX12_expectOf 89 = .ok (.getfield 67, 3) := by decide +kernel
theorem dX12_expectOf_92 : decode cX12_expectOf 92 = .ok (.iload 6, 2) := by decide +kernel
theorem dX12_expectOf_94 : decode cX12_expectOf 94 = .ok (.iaload, 1) := by decide +kernel
theorem dX12_expectOf_95 : decode cX12_expectOf 95 = .ok (.iload 4, 2) := by decide +kernel
theorem dX12_expectOf_97 : decode cX12_expectOf 97 = .ok (.bipush 15, 2) := by decide +kernel
theorem dX12_expectOf_99 : decode cX12_expectOf 99 = .ok (.iload 7, 2) := by decide +kernel
theorem dX12_expectOf_101 : decode cX12_expectOf 101 = .ok (.imul, 1) := by decide +kernel
theorem dX12_expectOf_102 : decode cX12_expectOf 102 = .ok (.iadd, 1) := by decide +kernel
theorem dX12_expectOf_103 : decode cX12_expectOf 103 = .ok (.imul, 1) := by decide +kernel
theorem dX12_expectOf_104 : decode cX12_expectOf 104 = .ok (.iadd, 1) := by decide +kernel
theorem dX12_expectOf_105 : decode cX12_expectOf 105 = .ok (.istore 5, 2) := by decide +kernel
theorem dX12_expectOf_107 : decode cX12_expectOf 107 = .ok (.iinc 6 1, 3) := by decide +kernel
theorem dX12_expectOf_110 : decode cX12_expectOf 110 = .ok (.goto (-61), 3) := by decide +kernel
theorem dX12_expectOf_113 : decode cX12_expectOf 113 = .ok (.iload 5, 2) := by decide +kernel
theorem dX12_expectOf_115 : decode cX12_expectOf 115 = .ok (.ireturn, 1) := by decide +kernel
theorem dX12_expect_0 : decode cX12_expect 0 = .ok (.iload_n 1, 1) := by decide +kernel
theorem dX12_expect_1 : decode cX12_expect 1 = .ok (.i2l, 1) := by decide +kernel
theorem dX12_expect_2 : decode cX12_expect 2 = .ok (.lconst 0, 1) := by decide +kernel
theorem dX12_expect_3 : decode cX12_expect 3 = .ok (.ldc2_w 252, 3) := by decide +kernel
theorem dX12_expect_6 : decode cX12_expect 6 = .ok (.invokestatic 106, 3) := by decide +kernel
theorem dX12_expect_9 : decode cX12_expect 9 = .ok (.ifCond .ne 5, 3) := by decide +kernel
theorem dX12_expect_12 : decode cX12_expect 12 = .ok (.iconst (-1), 1) := by decide +kernel
theorem dX12_expect_13 : decode cX12_expect 13 = .ok (.ireturn, 1) := by decide +kernel
theorem dX12_expect_14 : decode cX12_expect 14 = .ok (.aload_n 0, 1) := by decide +kernel
theorem dX12_expect_15 : decode cX12_expect 15 = .ok (.getfield 61, 3) := by decide +kernel
theorem dX12_expect_18 : decode cX12_expect 18 = .ok (.iconst 0, 1) := by decide +kernel
theorem dX12_expect_19 : decode cX12_expect 19 = .ok (.iaload, 1) := by decide +kernel
theorem dX12_expect_20 : decode cX12_expect 20 = .ok (.ifCond .ne 8, 3) := by decide +kernel
theorem dX12_expect_23 : decode cX12_expect 23 = .ok (.bipush (-4), 2) := by decide +kernel
theorem dX12_expect_25 : decode cX12_expect 25 = .ok (.goto 8, 3) := by decide +kernel
theorem dX12_expect_28 : decode cX12_expect 28 = .ok (.aload_n 0, 1) := by decide +kernel
theorem dX12_expect_29 : decode cX12_expect 29 = .ok (.iload_n 1, 1) := by decide +kernel
theorem dX12_expect_30 : decode cX12_expect 30 = .ok (.invokevirtual 254, 3) := by decide +kernel
theorem dX12_expect_33 : decode cX12_expect 33 = .ok (.ireturn, 1) := by decide +kernel
theorem dX12_buy_0 : decode cX12_buy 0 = .ok (.iconst 0, 1) := by decide +kernel
theorem dX12_buy_1 : decode cX12_buy 1 = .ok (.istore_n 1, 1) := by decide +kernel
theorem dX12_buy_2 : decode cX12_buy 2 = .ok (.iconst 1, 1) := by decide +kernel
theorem dX12_buy_3 : decode cX12_buy 3 = .ok (.istore_n 2, 1) := by decide +kernel
theorem dX12_buy_4 : decode cX12_buy 4 = .ok (.iload_n 2, 1) := by decide +kernel
theorem dX12_buy_5 : decode cX12_buy 5 = .ok (.bipush 10, 2) := by decide +kernel
theorem dX12_buy_7 : decode cX12_buy 7 = .ok (.if_icmp .ge 28, 3) := by decide +kernel
theorem dX12_buy_10 : decode cX12_buy 10 = .ok (.aload_n 0, 1) := by decide +kernel
theorem dX12_buy_11 : decode cX12_buy 11 = .ok (.iload_n 2, 1) := by decide +kernel
theorem dX12_buy_12 : decode cX12_buy 12 = .ok (.invokevirtual 254, 3) := by decide +kernel
theorem dX12_buy_15 : decode cX12_buy 15 = .ok (.aload_n 0, 1) := by decide +kernel
theorem dX12_buy_16 : decode cX12_buy 16 = .ok (.iload_n 1, 1) := by decide +kernel
theorem dX12_buy_17 : decode cX12_buy 17 = .ok (.invokevirtual 254, 3) := by decide +kernel
theorem dX12_buy_20 : decode cX12_buy 20 = .ok (.if_icmp .ge 7, 3) := by decide +kernel
theorem dX12_buy_23 : decode cX12_buy 23 = .ok (.iload_n 2, 1) := by decide +kernel
theorem dX12_buy_24 : decode cX12_buy 24 = .ok (.goto 4, 3) := by decide +kernel
theorem dX12_buy_27 : decode cX12_buy 27 = .ok (.iload_n 1, 1) := by decide +kernel
theorem dX12_buy_28 : decode cX12_buy 28 = .ok (.istore_n 1, 1) := by decide +kernel
theorem dX12_buy_29 : decode cX12_buy 29 = .ok (.iinc 2 1, 3) := by decide +kernel
theorem dX12_buy_32 : decode cX12_buy 32 = .ok (.goto (-28), 3) := by decide +kernel
theorem dX12_buy_35 : decode cX12_buy 35 = .ok (.aload_n 0, 1) := by decide +kernel
theorem dX12_buy_36 : decode cX12_buy 36 = .ok (.getfield 61, 3) := by decide +kernel
theorem dX12_buy_39 : decode cX12_buy 39 = .ok (.iconst 0, 1) := by decide +kernel
theorem dX12_buy_40 : decode cX12_buy 40 = .ok (.iaload, 1) := by decide +kernel
theorem dX12_buy_41 : decode cX12_buy 41 = .ok (.ifCond .ne 8, 3) := by decide +kernel
theorem dX12_buy_44 : decode cX12_buy 44 = .ok (.bipush (-4), 2) := by decide +kernel
theorem dX12_buy_46 : decode cX12_buy 46 = .ok (.goto 4, 3) := by decide +kernel
theorem dX12_buy_49 : decode cX12_buy 49 = .ok (.iload_n 1, 1) := by decide +kernel
theorem dX12_buy_50 : decode cX12_buy 50 = .ok (.ireturn, 1) := by decide +kernel
theorem dX12_print_0 : decode cX12_print 0 = .ok (.iload_n 1, 1) := by decide +kernel
theorem dX12_print_1 : decode cX12_print 1 = .ok (.i2l, 1) := by decide +kernel
theorem dX12_print_2 : decode cX12_print 2 = .ok (.lconst 0, 1) := by decide +kernel
theorem dX12_print_3 : decode cX12_print 3 = .ok (.lconst 1, 1) := by decide +kernel
theorem dX12_print_4 : decode cX12_print 4 = .ok (.invokestatic 106, 3) := by decide +kernel
theorem dX12_print_7 : decode cX12_print 7 = .ok (.ifCond .ne 5, 3) := by decide +kernel
theorem dX12_print_10 : decode cX12_print 10 = .ok (.iconst (-1), 1) := by decide +kernel
theorem dX12_print_11 : decode cX12_print 11 = .ok (.ireturn, 1) := by decide +kernel
theorem dX12_print_12 : decode cX12_print 12 = .ok (.iconst 0, 1) := by decide +kernel
theorem dX12_print_13 : decode cX12_print 13 = .ok (.istore_n 2, 1) := by decide +kernel
theorem dX12_print_14 : decode cX12_print 14 = .ok (.iconst 0, 1) := by decide +kernel
theorem dX12_print_15 : decode cX12_print 15 = .ok (.istore_n 3, 1) := by decide +kernel
theorem dX12_print_16 : decode cX12_print 16 = .ok (.iload_n 3, 1) := by decide +kernel
theorem dX12_print_17 : decode cX12_print 17 = .ok (.aload_n 0, 1) := by decide +kernel
theorem dX12_print_18 : decode cX12_print 18 = .ok (.getfield 28, 3) := by decide +kernel
theorem dX12_print_21 : decode cX12_print 21 = .ok (.iconst 0, 1) := by decide +kernel
theorem dX12_print_22 : decode cX12_print 22 = .ok (.iaload, 1) := by decide +kernel
theorem dX12_print_23 : decode cX12_print 23 = .ok (.if_icmp .ge 84, 3) := by decide +kernel
theorem dX12_print_26 : decode cX12_print 26 = .ok (.aload_n 0, 1) := by decide +kernel
theorem dX12_print_27 : decode cX12_print 27 = .ok (.getfield 88, 3) := by decide +kernel
theorem dX12_print_30 : decode cX12_print 30 = .ok (.iconst 0, 1) := by decide +kernel
theorem dX12_print_31 : decode cX12_print 31 = .ok (.iaload, 1) := by decide +kernel
theorem dX12_print_32 : decode cX12_print 32 = .ok (.bipush 24, 2) := by decide +kernel
theorem dX12_print_34 : decode cX12_print 34 = .ok (.idiv, 1) := by decide +kernel
theorem dX12_print_35 : decode cX12_print 35 = .ok (.aload_n 0, 1) := by decide +kernel
theorem dX12_print_36 : decode cX12_print 36 = .ok (.getfield 43, 3) := by decide +kernel
theorem dX12_print_39 : decode cX12_print 39 = .ok (.iload_n 3, 1) := by decide +kernel
theorem dX12_print_40 : decode cX12_print 40 = .ok (.iaload, 1) := by decide +kernel
theorem dX12_print_41 : decode cX12_print 41 = .ok (.if_icmp .le 7, 3) := by decide +kernel
theorem dX12_print_44 : decode cX12_print 44 = .ok (.iconst 1, 1) := by decide +kernel
theorem dX12_print_45 : decode cX12_print 45 = .ok (.goto 4, 3) := by decide +kernel
theorem dX12_print_48 : decode cX12_print 48 = .ok (.iconst 0, 1) := by decide +kernel
theorem dX12_print_49 : decode cX12_print 49 = .ok (.istore 4, 2) := by decide +kernel
theorem dX12_print_51 : decode cX12_print 51 = .ok (.iload_n 2, 1) := by decide +kernel
theorem dX12_print_52 : decode cX12_print 52 = .ok (.aload_n 0, 1) := by decide +kernel
theorem dX12_print_53 : decode cX12_print 53 = .ok (.getfield 82, 3) := by decide +kernel
theorem dX12_print_56 : decode cX12_print 56 = .ok (.iload_n 3, 1) := by decide +kernel
theorem dX12_print_57 : decode cX12_print 57 = .ok (.iaload, 1) := by decide +kernel
theorem dX12_print_58 : decode cX12_print 58 = .ok (.ifCond .ne 40, 3) := by decide +kernel
theorem dX12_print_61 : decode cX12_print 61 = .ok (.iload_n 1, 1) := by decide +kernel
theorem dX12_print_62 : decode cX12_print 62 = .ok (.ifCond .ne 19, 3) := by decide +kernel
theorem dX12_print_65 : decode cX12_print 65 = .ok (.iload 4, 2) := by decide +kernel
theorem dX12_print_67 : decode cX12_print 67 = .ok (.ifCond .eq 31, 3) := by decide +kernel
theorem dX12_print_70 : decode cX12_print 70 = .ok (.aload_n 0, 1) := by decide +kernel
theorem dX12_print_71 : decode cX12_print 71 = .ok (.iload_n 3, 1) := by decide +kernel
theorem dX12_print_72 : decode cX12_print 72 = .ok (.invokevirtual 180, 3) := by decide +kernel
theorem dX12_print_75 : decode cX12_print 75 = .ok (.ifCond .ne 23, 3) := by decide +kernel
theorem dX12_print_78 : decode cX12_print 78 = .ok (.goto 16, 3) := by decide +kernel
theorem dX12_print_81 : decode cX12_print 81 = .ok (.iload 4, 2) := by decide +kernel
theorem dX12_print_83 : decode cX12_print 83 = .ok (.ifCond .ne 15, 3) := by decide +kernel
theorem dX12_print_86 : decode cX12_print 86 = .ok (.aload_n 0, 1) := by decide +kernel
theorem dX12_print_87 : decode cX12_print 87 = .ok (.iload_n 3, 1) := by decide +kernel
theorem dX12_print_88 : decode cX12_print 88 = .ok (.invokevirtual 180, 3) := by decide +kernel
theorem dX12_print_91 : decode cX12_print 91 = .ok (.ifCond .eq 7, 3) := by decide +kernel
theorem dX12_print_94 : decode cX12_print 94 = .ok (.iconst 1, 1) := by decide +kernel
theorem dX12_print_95 : decode cX12_print 95 = .ok (.goto 4, 3) := by decide +kernel
theorem dX12_print_98 : decode cX12_print 98 = .ok (.iconst 0, 1) := by decide +kernel
theorem dX12_print_99 : decode cX12_print 99 = .ok (.iadd, 1) := by decide +kernel
theorem dX12_print_100 : decode cX12_print 100 = .ok (.istore_n 2, 1) := by decide +kernel
theorem dX12_print_101 : decode cX12_print 101 = .ok (.iinc 3 1, 3) := by decide +kernel
theorem dX12_print_104 : decode cX12_print 104 = .ok (.goto (-88), 3) := by decide +kernel
theorem dX12_print_107 : decode cX12_print 107 = .ok (.iload_n 2, 1) := by decide +kernel
theorem dX12_print_108 : decode cX12_print 108 = .ok (.ireturn, 1) := by decide +kernel
theorem dX12_errorsAt_0 : decode cX12_errorsAt 0 = .ok (.iconst 0, 1) := by decide +kernel
theorem dX12_errorsAt_1 : decode cX12_errorsAt 1 = .ok (.istore_n 2, 1) := by decide +kernel
theorem dX12_errorsAt_2 : decode cX12_errorsAt 2 = .ok (.iconst 0, 1) := by decide +kernel
theorem dX12_errorsAt_3 : decode cX12_errorsAt 3 = .ok (.istore_n 3, 1) := by decide +kernel
theorem dX12_errorsAt_4 : decode cX12_errorsAt 4 = .ok (.iload_n 3, 1) := by decide +kernel
theorem dX12_errorsAt_5 : decode cX12_errorsAt 5 = .ok (.aload_n 0, 1) := by decide +kernel
theorem dX12_errorsAt_6 : decode cX12_errorsAt 6 = .ok (.getfield 28, 3) := by decide +kernel
theorem dX12_errorsAt_9 : decode cX12_errorsAt 9 = .ok (.iconst 0, 1) := by decide +kernel
theorem dX12_errorsAt_10 : decode cX12_errorsAt 10 = .ok (.iaload, 1) := by decide +kernel
theorem dX12_errorsAt_11 : decode cX12_errorsAt 11 = .ok (.if_icmp .ge 87, 3) := by decide +kernel
theorem dX12_errorsAt_14 : decode cX12_errorsAt 14 = .ok (.bipush 10, 2) := by decide +kernel
theorem dX12_errorsAt_16 : decode cX12_errorsAt 16 = .ok (.aload_n 0, 1) := by decide +kernel
theorem dX12_errorsAt_17 : decode cX12_errorsAt 17 = .ok (.getfield 79, 3) := by decide +kernel
theorem dX12_errorsAt_20 : decode cX12_errorsAt 20 = .ok (.iload_n 3, 1) := by decide +kernel
theorem dX12_errorsAt_21 : decode cX12_errorsAt 21 = .ok (.iaload, 1) := by decide +kernel
theorem dX12_errorsAt_22 : decode cX12_errorsAt 22 = .ok (.imul, 1) := by decide +kernel
theorem dX12_errorsAt_23 : decode cX12_errorsAt 23 = .ok (.iload_n 1, 1) := by decide +kernel
theorem dX12_errorsAt_24 : decode cX12_errorsAt 24 = .ok (.aload_n 0, 1) := by decide +kernel
theorem dX12_errorsAt_25 : decode cX12_errorsAt 25 = .ok (.iload_n 3, 1) := by decide +kernel
theorem dX12_errorsAt_26 : decode cX12_errorsAt 26 = .ok (.invokevirtual 170, 3) := by decide +kernel
theorem dX12_errorsAt_29 : decode cX12_errorsAt 29 = .ok (.imul, 1) := by decide +kernel
theorem dX12_errorsAt_30 : decode cX12_errorsAt 30 = .ok (.if_icmp .lt 7, 3) := by decide +kernel
theorem dX12_errorsAt_33 : decode cX12_errorsAt 33 = .ok (.iconst 1, 1) := by decide +kernel
theorem dX12_errorsAt_34 : decode cX12_errorsAt 34 = .ok (.goto 4, 3) := by decide +kernel
theorem dX12_errorsAt_37 : decode cX12_errorsAt 37 = .ok (.iconst 0, 1) := by decide +kernel
theorem dX12_errorsAt_38 : decode cX12_errorsAt 38 = .ok (.aload_n 0, 1) := by decide +kernel
theorem dX12_errorsAt_39 : decode cX12_errorsAt 39 = .ok (.iload_n 3, 1) := by decide +kernel
theorem dX12_errorsAt_40 : decode cX12_errorsAt 40 = .ok (.invokevirtual 180, 3) := by decide +kernel
theorem dX12_errorsAt_43 : decode cX12_errorsAt 43 = .ok (.if_icmp .ne 7, 3) := by decide +kernel
theorem dX12_errorsAt_46 : decode cX12_errorsAt 46 = .ok (.iconst 1, 1) := by decide +kernel
theorem dX12_errorsAt_47 : decode cX12_errorsAt 47 = .ok (.goto 4, 3) := by decide +kernel
theorem dX12_errorsAt_50 : decode cX12_errorsAt 50 = .ok (.iconst 0, 1) := by decide +kernel
theorem dX12_errorsAt_51 : decode cX12_errorsAt 51 = .ok (.istore 4, 2) := by decide +kernel
theorem dX12_errorsAt_53 : decode cX12_errorsAt 53 = .ok (.iload_n 2, 1) := by decide +kernel
theorem dX12_errorsAt_54 : decode cX12_errorsAt 54 = .ok (.aload_n 0, 1) := by decide +kernel
theorem dX12_errorsAt_55 : decode cX12_errorsAt 55 = .ok (.getfield 82, 3) := by decide +kernel
theorem dX12_errorsAt_58 : decode cX12_errorsAt 58 = .ok (.iload_n 3, 1) := by decide +kernel
theorem dX12_errorsAt_59 : decode cX12_errorsAt 59 = .ok (.iaload, 1) := by decide +kernel
theorem dX12_errorsAt_60 : decode cX12_errorsAt 60 = .ok (.ifCond .eq 7, 3) := by decide +kernel
theorem dX12_errorsAt_63 : decode cX12_errorsAt 63 = .ok (.iconst 0, 1) := by decide +kernel
theorem dX12_errorsAt_64 : decode cX12_errorsAt 64 = .ok (.goto 26, 3) := by decide +kernel
theorem dX12_errorsAt_67 : decode cX12_errorsAt 67 = .ok (.iload 4, 2) := by decide +kernel
theorem dX12_errorsAt_69 : decode cX12_errorsAt 69 = .ok (.ifCond .eq 12, 3) := by decide +kernel
theorem dX12_errorsAt_72 : decode cX12_errorsAt 72 = .ok (.aload_n 0, 1) := by decide +kernel
theorem dX12_errorsAt_73 : decode cX12_errorsAt 73 = .ok (.getfield 70, 3) := by decide +kernel
theorem dX12_errorsAt_76 : decode cX12_errorsAt 76 = .ok (.iconst 2, 1) := by decide +kernel
theorem dX12_errorsAt_77 : decode cX12_errorsAt 77 = .ok (.iaload, 1) := by decide +kernel
theorem dX12_errorsAt_78 : decode cX12_errorsAt 78 = .ok (.goto 12, 3) := by decide +kernel
theorem dX12_errorsAt_81 : decode cX12_errorsAt 81 = .ok (.bipush 10, 2) := by decide +kernel
theorem dX12_errorsAt_83 : decode cX12_errorsAt 83 = .ok (.aload_n 0, 1) := by decide +kernel
theorem dX12_errorsAt_84 : decode cX12_errorsAt 84 = .ok (.getfield 70, 3) := by decide +kernel
theorem dX12_errorsAt_87 : decode cX12_errorsAt 87 = .ok (.iconst 2, 1) := by decide +kernel
theorem dX12_errorsAt_88 : decode cX12_errorsAt 88 = .ok (.iaload, 1) := by decide +kernel
theorem dX12_errorsAt_89 : decode cX12_errorsAt 89 = .ok (.isub, 1) := by decide +kernel
theorem dX12_errorsAt_90 : decode cX12_errorsAt 90 = .ok (.iadd, 1) := by decide +kernel
theorem dX12_errorsAt_91 : decode cX12_errorsAt 91 = .ok (.istore_n 2, 1) := by decide +kernel
theorem dX12_errorsAt_92 : decode cX12_errorsAt 92 = .ok (.iinc 3 1, 3) := by decide +kernel
theorem dX12_errorsAt_95 : decode cX12_errorsAt 95 = .ok (.goto (-91), 3) := by decide +kernel
theorem dX12_errorsAt_98 : decode cX12_errorsAt 98 = .ok (.iload_n 2, 1) := by decide +kernel
theorem dX12_errorsAt_99 : decode cX12_errorsAt 99 = .ok (.ireturn, 1) := by decide +kernel
theorem dX12_smell_0 : decode cX12_smell 0 = .ok (.iload_n 1, 1) := by decide +kernel
theorem dX12_smell_1 : decode cX12_smell 1 = .ok (.i2l, 1) := by decide +kernel
theorem dX12_smell_2 : decode cX12_smell 2 = .ok (.lconst 0, 1) := by decide +kernel
theorem dX12_smell_3 : decode cX12_smell 3 = .ok (.ldc2_w 257, 3) := by decide +kernel
theorem dX12_smell_6 : decode cX12_smell 6 = .ok (.invokestatic 106, 3) := by decide +kernel
theorem dX12_smell_9 : decode cX12_smell 9 = .ok (.ifCond .eq 11, 3) := by decide +kernel
theorem dX12_smell_12 : decode cX12_smell 12 = .ok (.aload_n 0, 1) := by decide +kernel
theorem dX12_smell_13 : decode cX12_smell 13 = .ok (.iload_n 1, 1) := by decide +kernel
theorem dX12_smell_14 : decode cX12_smell 14 = .ok (.invokevirtual 259, 3) := by decide +kernel
theorem dX12_smell_17 : decode cX12_smell 17 = .ok (.goto 4, 3) := by decide +kernel
theorem dX12_smell_20 : decode cX12_smell 20 = .ok (.iconst (-1), 1) := by decide +kernel
theorem dX12_smell_21 : decode cX12_smell 21 = .ok (.ireturn, 1) := by decide +kernel
theorem dX12_line_0 : decode cX12_line 0 = .ok (.iconst 0, 1) := by decide +kernel
theorem dX12_line_1 : decode cX12_line 1 = .ok (.istore_n 1, 1) := by decide +kernel
theorem dX12_line_2 : decode cX12_line 2 = .ok (.iconst 1, 1) := by decide +kernel
theorem dX12_line_3 : decode cX12_line 3 = .ok (.istore_n 2, 1) := by decide +kernel
theorem dX12_line_4 : decode cX12_line 4 = .ok (.iload_n 2, 1) := by decide +kernel
theorem dX12_line_5 : decode cX12_line 5 = .ok (.bipush 21, 2) := by decide +kernel
theorem dX12_line_7 : decode cX12_line 7 = .ok (.if_icmp .ge 28, 3) := by decide +kernel
theorem dX12_line_10 : decode cX12_line 10 = .ok (.aload_n 0, 1) := by decide +kernel
theorem dX12_line_11 : decode cX12_line 11 = .ok (.iload_n 2, 1) := by decide +kernel
theorem dX12_line_12 : decode cX12_line 12 = .ok (.invokevirtual 259, 3) := by decide +kernel
theorem dX12_line_15 : decode cX12_line 15 = .ok (.aload_n 0, 1) := by decide +kernel
theorem dX12_line_16 : decode cX12_line 16 = .ok (.iload_n 1, 1) := by decide +kernel
theorem dX12_line_17 : decode cX12_line 17 = .ok (.invokevirtual 259, 3) := by decide +kernel
theorem dX12_line_20 : decode cX12_line 20 = .ok (.if_icmp .ge 7, 3) := by decide +kernel
theorem dX12_line_23 : decode cX12_line 23 = .ok (.iload_n 2, 1) := by decide +kernel
theorem dX12_line_24 : decode cX12_line 24 = .ok (.goto 4, 3) := by decide +kernel
theorem dX12_line_27 : decode cX12_line 27 = .ok (.iload_n 1, 1) := by decide +kernel
theorem dX12_line_28 : decode cX12_line 28 = .ok (.istore_n 1, 1) := by decide +kernel
theorem dX12_line_29 : decode cX12_line 29 = .ok (.iinc 2 1, 3) := by decide +kernel
theorem dX12_line_32 : decode cX12_line 32 = .ok (.goto (-28), 3) := by decide +kernel
theorem dX12_line_35 : decode cX12_line 35 = .ok (.aload_n 0, 1) := by decide +kernel
theorem dX12_line_36 : decode cX12_line 36 = .ok (.invokevirtual 246, 3) := by decide +kernel
theorem dX12_line_39 : decode cX12_line 39 = .ok (.ifCond .ne 8, 3) := by decide +kernel
theorem dX12_line_42 : decode cX12_line 42 = .ok (.bipush (-4), 2) := by decide +kernel
theorem dX12_line_44 : decode cX12_line 44 = .ok (.goto 4, 3) := by decide +kernel
theorem dX12_line_47 : decode cX12_line 47 = .ok (.iload_n 1, 1) := by decide +kernel
theorem dX12_line_48 : decode cX12_line 48 = .ok (.ireturn, 1) := by decide +kernel
theorem dX12_cut_0 : decode cX12_cut 0 = .ok (.iload_n 1, 1) := by decide +kernel
theorem dX12_cut_1 : decode cX12_cut 1 = .ok (.i2l, 1) := by decide +kernel
theorem dX12_cut_2 : decode cX12_cut 2 = .ok (.lconst 1, 1) := by decide +kernel
theorem dX12_cut_3 : decode cX12_cut 3 = .ok (.ldc2_w 123, 3) := by decide +kernel
theorem dX12_cut_6 : decode cX12_cut 6 = .ok (.invokestatic 106, 3) := by decide +kernel
theorem dX12_cut_9 : decode cX12_cut 9 = .ok (.ifCond .ne 5, 3) := by decide +kernel
theorem dX12_cut_12 : decode cX12_cut 12 = .ok (.iconst (-1), 1) := by decide +kernel
theorem dX12_cut_13 : decode cX12_cut 13 = .ok (.ireturn, 1) := by decide +kernel
theorem dX12_cut_14 : decode cX12_cut 14 = .ok (.aload_n 0, 1) := by decide +kernel
theorem dX12_cut_15 : decode cX12_cut 15 = .ok (.iconst 0, 1) := by decide +kernel
theorem dX12_cut_16 : decode cX12_cut 16 = .ok (.iconst 1, 1) := by decide +kernel
theorem dX12_cut_17 : decode cX12_cut 17 = .ok (.invokevirtual 213, 3) := by decide +kernel
theorem dX12_cut_20 : decode cX12_cut 20 = .ok (.iconst 0, 1) := by decide +kernel
theorem dX12_cut_21 : decode cX12_cut 21 = .ok (.istore_n 3, 1) := by decide +kernel
theorem dX12_cut_22 : decode cX12_cut 22 = .ok (.bipush 10, 2) := by decide +kernel
theorem dX12_cut_24 : decode cX12_cut 24 = .ok (.istore 4, 2) := by decide +kernel
theorem dX12_cut_26 : decode cX12_cut 26 = .ok (.iload 4, 2) := by decide +kernel
theorem dX12_cut_28 : decode cX12_cut 28 = .ok (.bipush 10, 2) := by decide +kernel
theorem dX12_cut_30 : decode cX12_cut 30 = .ok (.aload_n 0, 1) := by decide +kernel
theorem dX12_cut_31 : decode cX12_cut 31 = .ok (.getfield 28, 3) := by decide +kernel
theorem dX12_cut_34 : decode cX12_cut 34 = .ok (.iconst 0, 1) := by decide +kernel
theorem dX12_cut_35 : decode cX12_cut 35 = .ok (.iaload, 1) := by decide +kernel
theorem dX12_cut_36 : decode cX12_cut 36 = .ok (.iadd, 1) := by decide +kernel
theorem dX12_cut_37 : decode cX12_cut 37 = .ok (.if_icmp .ge 125, 3) := by decide +kernel
theorem dX12_cut_40 : decode cX12_cut 40 = .ok (.iconst 1, 1) := by decide +kernel
theorem dX12_cut_41 : decode cX12_cut 41 = .ok (.istore 5, 2) := by decide +kernel
theorem dX12_cut_43 : decode cX12_cut 43 = .ok (.iload 5, 2) := by decide +kernel
theorem dX12_cut_45 : decode cX12_cut 45 = .ok (.iload_n 1, 1) := by decide +kernel
theorem dX12_cut_46 : decode cX12_cut 46 = .ok (.if_icmp .gt 77, 3) := by decide +kernel
theorem dX12_cut_49 : decode cX12_cut 49 = .ok (.aload_n 0, 1) := by decide +kernel
theorem dX12_cut_50 : decode cX12_cut 50 = .ok (.getfield 16, 3) := by decide +kernel
theorem dX12_cut_53 : decode cX12_cut 53 = .ok (.aload_n 0, 1) := by decide +kernel
theorem dX12_cut_54 : decode cX12_cut 54 = .ok (.getfield 76, 3) := by decide +kernel
theorem dX12_cut_57 : decode cX12_cut 57 = .ok (.iload 4, 2) := by decide +kernel
theorem dX12_cut_59 : decode cX12_cut 59 = .ok (.iaload, 1) := by decide +kernel
theorem dX12_cut_60 : decode cX12_cut 60 = .ok (.iaload, 1) := by decide +kernel
theorem dX12_cut_61 : decode cX12_cut 61 = .ok (.iconst 3, 1) := by decide +kernel
theorem dX12_cut_62 : decode cX12_cut 62 = .ok (.iload 5, 2) := by decide +kernel
theorem dX12_cut_64 : decode cX12_cut 64 = .ok (.imul, 1) := by decide +kernel
theorem dX12_cut_65 : decode cX12_cut 65 = .ok (.iadd, 1) := by decide +kernel
theorem dX12_cut_66 : decode cX12_cut 66 = .ok (.iload_n 2, 1) := by decide +kernel
theorem dX12_cut_67 : decode cX12_cut 67 = .ok (.ifCond .eq 24, 3) := by decide +kernel
theorem dX12_cut_70 : decode cX12_cut 70 = .ok (.iload 5, 2) := by decide +kernel
theorem dX12_cut_72 : decode cX12_cut 72 = .ok (.iconst 1, 1) := by decide +kernel
theorem dX12_cut_73 : decode cX12_cut 73 = .ok (.if_icmp .ne 18, 3) := by decide +kernel
theorem dX12_cut_76 : decode cX12_cut 76 = .ok (.aload_n 0, 1) := by decide +kernel
theorem dX12_cut_77 : decode cX12_cut 77 = .ok (.getfield 19, 3) := by decide +kernel
theorem dX12_cut_80 : decode cX12_cut 80 = .ok (.aload_n 0, 1) := by decide +kernel
theorem dX12_cut_81 : decode cX12_cut 81 = .ok (.getfield 76, 3) := by decide +kernel
theorem dX12_cut_84 : decode cX12_cut 84 = .ok (.iload 4, 2) := by decide +kernel
theorem dX12_cut_86 : decode cX12_cut 86 = .ok (.iaload, 1) := by decide +kernel
theorem dX12_cut_87 : decode cX12_cut 87 = .ok (.iaload, 1) := by decide +kernel
theorem dX12_cut_88 : decode cX12_cut 88 = .ok (.goto 4, 3) := by decide +kernel
theorem dX12_cut_91 : decode cX12_cut 91 = .ok (.iconst 0, 1) := by decide +kernel
theorem dX12_cut_92 : decode cX12_cut 92 = .ok (.iadd, 1) := by decide +kernel
theorem dX12_cut_93 : decode cX12_cut 93 = .ok (.istore 6, 2) := by decide +kernel
theorem dX12_cut_95 : decode cX12_cut 95 = .ok (.aload_n 0, 1) := by decide +kernel
theorem dX12_cut_96 : decode cX12_cut 96 = .ok (.getfield 79, 3) := by decide +kernel
theorem dX12_cut_99 : decode cX12_cut 99 = .ok (.iload 4, 2) := by decide +kernel
theorem dX12_cut_101 : decode cX12_cut 101 = .ok (.dup2, 1) := by decide +kernel
theorem dX12_cut_102 : decode cX12_cut 102 = .ok (.iaload, 1) := by decide +kernel
theorem dX12_cut_103 : decode cX12_cut 103 = .ok (.aload_n 0, 1) := by decide +kernel
theorem dX12_cut_104 : decode cX12_cut 104 = .ok (.getfield 73, 3) := by decide +kernel
theorem dX12_cut_107 : decode cX12_cut 107 = .ok (.iload 4, 2) := by decide +kernel
theorem dX12_cut_109 : decode cX12_cut 109 = .ok (.iaload, 1) := by decide +kernel
theorem dX12_cut_110 : decode cX12_cut 110 = .ok (.iload 6, 2) := by decide +kernel
theorem dX12_cut_112 : decode cX12_cut 112 = .ok (.invokestatic 177, 3) := by decide +kernel
theorem dX12_cut_115 : decode cX12_cut 115 = .ok (.iadd, 1) := by decide +kernel
theorem dX12_cut_116 : decode cX12_cut 116 = .ok (.iastore, 1) := by decide +kernel
theorem dX12_cut_117 : decode cX12_cut 117 = .ok (.iinc 5 1, 3) := by decide +kernel
theorem dX12_cut_120 : decode cX12_cut 120 = .ok (.goto (-77), 3) := by decide +kernel
theorem dX12_cut_123 : decode cX12_cut 123 = .ok (.iload_n 3, 1) := by decide +kernel
theorem dX12_cut_124 : decode cX12_cut 124 = .ok (.aload_n 0, 1) := by decide +kernel
theorem dX12_cut_125 : decode cX12_cut 125 = .ok (.getfield 82, 3) := by decide +kernel
theorem dX12_cut_128 : decode cX12_cut 128 = .ok (.iload 4, 2) := by decide +kernel
theorem dX12_cut_130 : decode cX12_cut 130 = .ok (.iaload, 1) := by decide +kernel
theorem dX12_cut_131 : decode cX12_cut 131 = .ok (.ifCond .ne 22, 3) := by decide +kernel
theorem dX12_cut_134 : decode cX12_cut 134 = .ok (.aload_n 0, 1) := by decide +kernel
theorem dX12_cut_135 : decode cX12_cut 135 = .ok (.iload 4, 2) := by decide +kernel
theorem dX12_cut_137 : decode cX12_cut 137 = .ok (.invokevirtual 180, 3) := by decide +kernel
theorem dX12_cut_140 : decode cX12_cut 140 = .ok (.ifCond .eq 13, 3) := by decide +kernel
theorem dX12_cut_143 : decode cX12_cut 143 = .ok (.iconst 1, 1) := by decide +kernel
theorem dX12_cut_144 : decode cX12_cut 144 = .ok (.iload 4, 2) := by decide +kernel
theorem dX12_cut_146 : decode cX12_cut 146 = .ok (.bipush 10, 2) := by decide +kernel
theorem dX12_cut_148 : decode cX12_cut 148 = .ok (.isub, 1) := by decide +kernel
theorem dX12_cut_149 : decode cX12_cut 149 = .ok (.ishl, 1) := by decide +kernel
theorem dX12_cut_150 : decode cX12_cut 150 = .ok (.goto 4, 3) := by decide +kernel
theorem dX12_cut_153 : decode cX12_cut 153 = .ok (.iconst 0, 1) := by decide +kernel
theorem dX12_cut_154 : decode cX12_cut 154 = .ok (.ior, 1) := by decide +kernel
theorem dX12_cut_155 : decode cX12_cut 155 = .ok (.istore_n 3, 1) := by decide +kernel
theorem dX12_cut_156 : decode cX12_cut 156 = .ok (.iinc 4 1, 3) := by decide +kernel
theorem dX12_cut_159 : decode cX12_cut 159 = .ok (.goto (-133), 3) := by decide +kernel
theorem dX12_cut_162 : decode cX12_cut 162 = .ok (.iload_n 3, 1) := by decide +kernel
theorem dX12_cut_163 : decode cX12_cut 163 = .ok (.ireturn, 1) := by decide +kernel
theorem dX12_illOf_0 : decode cX12_illOf 0 = .ok (.aload_n 0, 1) := by decide +kernel
theorem dX12_illOf_1 : decode cX12_illOf 1 = .ok (.getfield 88, 3) := by decide +kernel
theorem dX12_illOf_4 : decode cX12_illOf 4 = .ok (.iconst 0, 1) := by decide +kernel
theorem dX12_illOf_5 : decode cX12_illOf 5 = .ok (.iaload, 1) := by decide +kernel
theorem dX12_illOf_6 : decode cX12_illOf 6 = .ok (.aload_n 0, 1) := by decide +kernel
theorem dX12_illOf_7 : decode cX12_illOf 7 = .ok (.getfield 85, 3) := by decide +kernel
theorem dX12_illOf_10 : decode cX12_illOf 10 = .ok (.iload_n 1, 1) := by decide +kernel
theorem dX12_illOf_11 : decode cX12_illOf 11 = .ok (.iaload, 1) := by decide +kernel
theorem dX12_illOf_12 : decode cX12_illOf 12 = .ok (.isub, 1) := by decide +kernel
theorem dX12_illOf_13 : decode cX12_illOf 13 = .ok (.istore_n 2, 1) := by decide +kernel
theorem dX12_illOf_14 : decode cX12_illOf 14 = .ok (.aload_n 0, 1) := by decide +kernel
theorem dX12_illOf_15 : decode cX12_illOf 15 = .ok (.getfield 82, 3) := by decide +kernel
theorem dX12_illOf_18 : decode cX12_illOf 18 = .ok (.iload_n 1, 1) := by decide +kernel
theorem dX12_illOf_19 : decode cX12_illOf 19 = .ok (.iaload, 1) := by decide +kernel
theorem dX12_illOf_20 : decode cX12_illOf 20 = .ok (.iconst 1, 1) := by decide +kernel
theorem dX12_illOf_21 : decode cX12_illOf 21 = .ok (.if_icmp .ne 17, 3) := by decide +kernel
theorem dX12_illOf_24 : decode cX12_illOf 24 = .ok (.iload_n 2, 1) := by decide +kernel
theorem dX12_illOf_25 : decode cX12_illOf 25 = .ok (.i2l, 1) := by decide +kernel
theorem dX12_illOf_26 : decode cX12_illOf 26 = .ok (.ldc2_w 186, 3) := by decide +kernel
theorem dX12_illOf_29 : decode cX12_illOf 29 = .ok (.ldc2_w 262, 3) := by decide +kernel
theorem dX12_illOf_32 : decode cX12_illOf 32 = .ok (.invokestatic 106, 3) := by decide +kernel
theorem dX12_illOf_35 : decode cX12_illOf 35 = .ok (.ifCond .ne 5, 3) := by decide +kernel
theorem dX12_illOf_38 : decode cX12_illOf 38 = .ok (.iconst 0, 1) := by decide +kernel
theorem dX12_illOf_39 : decode cX12_illOf 39 = .ok (.ireturn, 1) := by decide +kernel
theorem dX12_illOf_40 : decode cX12_illOf 40 = .ok (.bipush 10, 2) := by decide +kernel
theorem dX12_illOf_42 : decode cX12_illOf 42 = .ok (.aload_n 0, 1) := by decide +kernel
theorem dX12_illOf_43 : decode cX12_illOf 43 = .ok (.getfield 79, 3) := by decide +kernel
theorem dX12_illOf_46 : decode cX12_illOf 46 = .ok (.iload_n 1, 1) := by decide +kernel
theorem dX12_illOf_47 : decode cX12_illOf 47 = .ok (.iaload, 1) := by decide +kernel
theorem dX12_illOf_48 : decode cX12_illOf 48 = .ok (.imul, 1) := by decide +kernel
theorem dX12_illOf_49 : decode cX12_illOf 49 = .ok (.aload_n 0, 1) := by decide +kernel
theorem dX12_illOf_50 : decode cX12_illOf 50 = .ok (.iload_n 1, 1) := by decide +kernel
theorem dX12_illOf_51 : decode cX12_illOf 51 = .ok (.invokevirtual 170, 3) := by decide +kernel
theorem dX12_illOf_54 : decode cX12_illOf 54 = .ok (.idiv, 1) := by decide +kernel
theorem dX12_illOf_55 : decode cX12_illOf 55 = .ok (.istore_n 3, 1) := by decide +kernel
theorem dX12_illOf_56 : decode cX12_illOf 56 = .ok (.iload_n 2, 1) := by decide +kernel
theorem dX12_illOf_57 : decode cX12_illOf 57 = .ok (.bipush 24, 2) := by decide +kernel
theorem dX12_illOf_59 : decode cX12_illOf 59 = .ok (.if_icmp .gt 9, 3) := by decide +kernel
theorem dX12_illOf_62 : decode cX12_illOf 62 = .ok (.iconst 2, 1) := by decide +kernel
theorem dX12_illOf_63 : decode cX12_illOf 63 = .ok (.iload_n 3, 1) := by decide +kernel
theorem dX12_illOf_64 : decode cX12_illOf 64 = .ok (.imul, 1) := by decide +kernel
theorem dX12_illOf_65 : decode cX12_illOf 65 = .ok (.goto 4, 3) := by decide +kernel
theorem dX12_illOf_68 : decode cX12_illOf 68 = .ok (.iload_n 3, 1) := by decide +kernel
theorem dX12_illOf_69 : decode cX12_illOf 69 = .ok (.ireturn, 1) := by decide +kernel
theorem dX12_ill_0 : decode cX12_ill 0 = .ok (.aload_n 0, 1) := by decide +kernel
theorem dX12_ill_1 : decode cX12_ill 1 = .ok (.iload_n 1, 1) := by decide +kernel
theorem dX12_ill_2 : decode cX12_ill 2 = .ok (.invokevirtual 183, 3) := by decide +kernel
theorem dX12_ill_5 : decode cX12_ill 5 = .ok (.ifCond .eq 13, 3) := by decide +kernel
theorem dX12_ill_8 : decode cX12_ill 8 = .ok (.iload_n 2, 1) := by decide +kernel
theorem dX12_ill_9 : decode cX12_ill 9 = .ok (.i2l, 1) := by decide +kernel
theorem dX12_ill_10 : decode cX12_ill 10 = .ok (.lconst 0, 1) := by decide +kernel
theorem dX12_ill_11 : decode cX12_ill 11 = .ok (.lconst 1, 1) := by decide +kernel
theorem dX12_ill_12 : decode cX12_ill 12 = .ok (.invokestatic 106, 3) := by decide +kernel
theorem dX12_ill_15 : decode cX12_ill 15 = .ok (.ifCond .ne 5, 3) := by decide +kernel
theorem dX12_ill_18 : decode cX12_ill 18 = .ok (.iconst (-1), 1) := by decide +kernel
theorem dX12_ill_19 : decode cX12_ill 19 = .ok (.ireturn, 1) := by decide +kernel
theorem dX12_ill_20 : decode cX12_ill 20 = .ok (.iconst 0, 1) := by decide +kernel
theorem dX12_ill_21 : decode cX12_ill 21 = .ok (.istore_n 3, 1) := by decide +kernel
theorem dX12_ill_22 : decode cX12_ill 22 = .ok (.iconst 0, 1) := by decide +kernel
theorem dX12_ill_23 : decode cX12_ill 23 = .ok (.istore 4, 2) := by decide +kernel
theorem dX12_ill_25 : decode cX12_ill 25 = .ok (.iload 4, 2) := by decide +kernel
theorem dX12_ill_27 : decode cX12_ill 27 = .ok (.aload_n 0, 1) := by decide +kernel
theorem dX12_ill_28 : decode cX12_ill 28 = .ok (.getfield 28, 3) := by decide +kernel
theorem dX12_ill_31 : decode cX12_ill 31 = .ok (.iconst 0, 1) := by decide +kernel
theorem dX12_ill_32 : decode cX12_ill 32 = .ok (.iaload, 1) := by decide +kernel
theorem dX12_ill_33 : decode cX12_ill 33 = .ok (.if_icmp .ge 18, 3) := by decide +kernel
theorem dX12_ill_36 : decode cX12_ill 36 = .ok (.iload_n 3, 1) := by decide +kernel
theorem dX12_ill_37 : decode cX12_ill 37 = .ok (.aload_n 0, 1) := by decide +kernel
theorem dX12_ill_38 : decode cX12_ill 38 = .ok (.iload 4, 2) := by decide +kernel
theorem dX12_ill_40 : decode cX12_ill 40 = .ok (.invokevirtual 264, 3) := by decide +kernel
theorem dX12_ill_43 : decode cX12_ill 43 = .ok (.iadd, 1) := by decide +kernel
theorem dX12_ill_44 : decode cX12_ill 44 = .ok (.istore_n 3, 1) := by decide +kernel
theorem dX12_ill_45 : decode cX12_ill 45 = .ok (.iinc 4 1, 3) := by decide +kernel
theorem dX12_ill_48 : decode cX12_ill 48 = .ok (.goto (-23), 3) := by decide +kernel
theorem dX12_ill_51 : decode cX12_ill 51 = .ok (.iload_n 3, 1) := by decide +kernel
theorem dX12_ill_52 : decode cX12_ill 52 = .ok (.ifCond .ne 6, 3) := by decide +kernel
theorem dX12_ill_55 : decode cX12_ill 55 = .ok (.bipush (-4), 2) := by decide +kernel
theorem dX12_ill_57 : decode cX12_ill 57 = .ok (.ireturn, 1) := by decide +kernel
theorem dX12_ill_58 : decode cX12_ill 58 = .ok (.aload_n 0, 1) := by decide +kernel
theorem dX12_ill_59 : decode cX12_ill 59 = .ok (.iload_n 1, 1) := by decide +kernel
theorem dX12_ill_60 : decode cX12_ill 60 = .ok (.invokevirtual 264, 3) := by decide +kernel
theorem dX12_ill_63 : decode cX12_ill 63 = .ok (.istore 4, 2) := by decide +kernel
theorem dX12_ill_65 : decode cX12_ill 65 = .ok (.iload_n 3, 1) := by decide +kernel
theorem dX12_ill_66 : decode cX12_ill 66 = .ok (.istore 5, 2) := by decide +kernel
theorem dX12_ill_68 : decode cX12_ill 68 = .ok (.iload 5, 2) := by decide +kernel
theorem dX12_ill_70 : decode cX12_ill 70 = .ok (.ifCond .eq 21, 3) := by decide +kernel
theorem dX12_ill_73 : decode cX12_ill 73 = .ok (.iload 4, 2) := by decide +kernel
theorem dX12_ill_75 : decode cX12_ill 75 = .ok (.iload 5, 2) := by decide +kernel
theorem dX12_ill_77 : decode cX12_ill 77 = .ok (.irem, 1) := by decide +kernel
theorem dX12_ill_78 : decode cX12_ill 78 = .ok (.istore 6, 2) := by decide +kernel
theorem dX12_ill_80 : decode cX12_ill 80 = .ok (.iload 5, 2) := by decide +kernel
theorem dX12_ill_82 : decode cX12_ill 82 = .ok (.istore 4, 2) := by decide +kernel
theorem dX12_ill_84 : decode cX12_ill 84 = .ok (.iload 6, 2) := by decide +kernel
theorem dX12_ill_86 : decode cX12_ill 86 = .ok (.istore 5, 2) := by decide +kernel
theorem dX12_ill_88 : decode cX12_ill 88 = .ok (.goto (-20), 3) := by decide +kernel
theorem dX12_ill_91 : decode cX12_ill 91 = .ok (.iload_n 2, 1) := by decide +kernel
theorem dX12_ill_92 : decode cX12_ill 92 = .ok (.ifCond .ne 14, 3) := by decide +kernel
theorem dX12_ill_95 : decode cX12_ill 95 = .ok (.aload_n 0, 1) := by decide +kernel
theorem dX12_ill_96 : decode cX12_ill 96 = .ok (.iload_n 1, 1) := by decide +kernel
theorem dX12_ill_97 : decode cX12_ill 97 = .ok (.invokevirtual 264, 3) := by decide +kernel
theorem dX12_ill_100 : decode cX12_ill 100 = .ok (.iload 4, 2) := by decide +kernel
theorem dX12_ill_102 : decode cX12_ill 102 = .ok (.idiv, 1) := by decide +kernel
theorem dX12_ill_103 : decode cX12_ill 103 = .ok (.goto 7, 3) := by decide +kernel
theorem dX12_ill_106 : decode cX12_ill 106 = .ok (.iload_n 3, 1) := by decide +kernel
theorem dX12_ill_107 : decode cX12_ill 107 = .ok (.iload 4, 2) := by decide +kernel
theorem dX12_ill_109 : decode cX12_ill 109 = .ok (.idiv, 1) := by decide +kernel
theorem dX12_ill_110 : decode cX12_ill 110 = .ok (.ireturn, 1) := by decide +kernel
theorem dX12_span_0 : decode cX12_span 0 = .ok (.iload_n 1, 1) := by decide +kernel
theorem dX12_span_1 : decode cX12_span 1 = .ok (.i2l, 1) := by decide +kernel
theorem dX12_span_2 : decode cX12_span 2 = .ok (.lconst 0, 1) := by decide +kernel
theorem dX12_span_3 : decode cX12_span 3 = .ok (.ldc2_w 267, 3) := by decide +kernel
theorem dX12_span_6 : decode cX12_span 6 = .ok (.invokestatic 106, 3) := by decide +kernel
theorem dX12_span_9 : decode cX12_span 9 = .ok (.ifCond .eq 15, 3) := by decide +kernel
theorem dX12_span_12 : decode cX12_span 12 = .ok (.iload_n 2, 1) := by decide +kernel
theorem dX12_span_13 : decode cX12_span 13 = .ok (.i2l, 1) := by decide +kernel
theorem dX12_span_14 : decode cX12_span 14 = .ok (.lconst 1, 1) := by decide +kernel
theorem dX12_span_15 : decode cX12_span 15 = .ok (.ldc2_w 267, 3) := by decide +kernel
theorem dX12_span_18 : decode cX12_span 18 = .ok (.invokestatic 106, 3) := by decide +kernel
theorem dX12_span_21 : decode cX12_span 21 = .ok (.ifCond .ne 5, 3) := by decide +kernel
theorem dX12_span_24 : decode cX12_span 24 = .ok (.iconst (-1), 1) := by decide +kernel
theorem dX12_span_25 : decode cX12_span 25 = .ok (.ireturn, 1) := by decide +kernel
theorem dX12_span_26 : decode cX12_span 26 = .ok (.aload_n 0, 1) := by decide +kernel
theorem dX12_span_27 : decode cX12_span 27 = .ok (.getfield 160, 3) := by decide +kernel
theorem dX12_span_30 : decode cX12_span 30 = .ok (.bipush 8, 2) := by decide +kernel
theorem dX12_span_32 : decode cX12_span 32 = .ok (.if_icmp .ne 6, 3) := by decide +kernel
theorem dX12_span_35 : decode cX12_span 35 = .ok (.bipush (-3), 2) := by decide +kernel
theorem dX12_span_37 : decode cX12_span 37 = .ok (.ireturn, 1) := by decide +kernel
theorem dX12_span_38 : decode cX12_span 38 = .ok (.aload_n 0, 1) := by decide +kernel
theorem dX12_span_39 : decode cX12_span 39 = .ok (.getfield 91, 3) := by decide +kernel
theorem dX12_span_42 : decode cX12_span 42 = .ok (.iconst 2, 1) := by decide +kernel
theorem dX12_span_43 : decode cX12_span 43 = .ok (.aload_n 0, 1) := by decide +kernel
theorem dX12_span_44 : decode cX12_span 44 = .ok (.getfield 160, 3) := by decide +kernel
theorem dX12_span_47 : decode cX12_span 47 = .ok (.imul, 1) := by decide +kernel
theorem dX12_span_48 : decode cX12_span 48 = .ok (.iload_n 1, 1) := by decide +kernel
theorem dX12_span_49 : decode cX12_span 49 = .ok (.iastore, 1) := by decide +kernel
theorem dX12_span_50 : decode cX12_span 50 = .ok (.aload_n 0, 1) := by decide +kernel
theorem dX12_span_51 : decode cX12_span 51 = .ok (.getfield 91, 3) := by decide +kernel
theorem dX12_span_54 : decode cX12_span 54 = .ok (.iconst 2, 1) := by decide +kernel
theorem dX12_span_55 : decode cX12_span 55 = .ok (.aload_n 0, 1) := by decide +kernel
theorem dX12_span_56 : decode cX12_span 56 = .ok (.getfield 160, 3) := by decide +kernel
theorem dX12_span_59 : decode cX12_span 59 = .ok (.imul, 1) := by decide +kernel
theorem dX12_span_60 : decode cX12_span 60 = .ok (.iconst 1, 1) := by decide +kernel
theorem dX12_span_61 : decode cX12_span 61 = .ok (.iadd, 1) := by decide +kernel
theorem dX12_span_62 : decode cX12_span 62 = .ok (.iload_n 2, 1) := by decide +kernel
theorem dX12_span_63 : decode cX12_span 63 = .ok (.iastore, 1) := by decide +kernel
theorem dX12_span_64 : decode cX12_span 64 = .ok (.aload_n 0, 1) := by decide +kernel
theorem dX12_span_65 : decode cX12_span 65 = .ok (.dup, 1) := by decide +kernel
theorem dX12_span_66 : decode cX12_span 66 = .ok (.getfield 160, 3) := by decide +kernel
theorem dX12_span_69 : decode cX12_span 69 = .ok (.iconst 1, 1) := by decide +kernel
theorem dX12_span_70 : decode cX12_span 70 = .ok (.iadd, 1) := by decide +kernel
theorem dX12_span_71 : decode cX12_span 71 = .ok (.putfield 160, 3) := by decide +kernel
theorem dX12_span_74 : decode cX12_span 74 = .ok (.aload_n 0, 1) := by decide +kernel
theorem dX12_span_75 : decode cX12_span 75 = .ok (.getfield 160, 3) := by decide +kernel
theorem dX12_span_78 : decode cX12_span 78 = .ok (.ireturn, 1) := by decide +kernel
theorem dX12_noSpans_0 : decode cX12_noSpans 0 = .ok (.aload_n 0, 1) := by decide +kernel
theorem dX12_noSpans_1 : decode cX12_noSpans 1 = .ok (.getfield 160, 3) := by decide +kernel
theorem dX12_noSpans_4 : decode cX12_noSpans 4 = .ok (.istore_n 1, 1) := by decide +kernel
theorem dX12_noSpans_5 : decode cX12_noSpans 5 = .ok (.aload_n 0, 1) := by decide +kernel
theorem dX12_noSpans_6 : decode cX12_noSpans 6 = .ok (.iconst 0, 1) := by decide +kernel
theorem dX12_noSpans_7 : decode cX12_noSpans 7 = .ok (.putfield 160, 3) := by decide +kernel
theorem dX12_noSpans_10 : decode cX12_noSpans 10 = .ok (.iload_n 1, 1) := by decide +kernel
theorem dX12_noSpans_11 : decode cX12_noSpans 11 = .ok (.ireturn, 1) := by decide +kernel
theorem dX12_fitsOf_0 : decode cX12_fitsOf 0 = .ok (.iconst 0, 1) := by decide +kernel
theorem dX12_fitsOf_1 : decode cX12_fitsOf 1 = .ok (.istore_n 2, 1) := by decide +kernel
theorem dX12_fitsOf_2 : decode cX12_fitsOf 2 = .ok (.iconst 0, 1) := by decide +kernel
theorem dX12_fitsOf_3 : decode cX12_fitsOf 3 = .ok (.istore_n 3, 1) := by decide +kernel
theorem dX12_fitsOf_4 : decode cX12_fitsOf 4 = .ok (.iload_n 3, 1) := by decide +kernel
theorem dX12_fitsOf_5 : decode cX12_fitsOf 5 = .ok (.aload_n 0, 1) := by decide +kernel
theorem dX12_fitsOf_6 : decode cX12_fitsOf 6 = .ok (.getfield 160, 3) := by decide +kernel
theorem dX12_fitsOf_9 : decode cX12_fitsOf 9 = .ok (.if_icmp .ge 65, 3) := by decide +kernel
theorem dX12_fitsOf_12 : decode cX12_fitsOf 12 = .ok (.iload_n 1, 1) := by decide +kernel
theorem dX12_fitsOf_13 : decode cX12_fitsOf 13 = .ok (.aload_n 0, 1) := by decide +kernel
theorem dX12_fitsOf_14 : decode cX12_fitsOf 14 = .ok (.getfield 91, 3) := by decide +kernel
theorem dX12_fitsOf_17 : decode cX12_fitsOf 17 = .ok (.iconst 2, 1) := by decide +kernel
theorem dX12_fitsOf_18 : decode cX12_fitsOf 18 = .ok (.iload_n 3, 1) := by decide +kernel
theorem dX12_fitsOf_19 : decode cX12_fitsOf 19 = .ok (.imul, 1) := by decide +kernel
theorem dX12_fitsOf_20 : decode cX12_fitsOf 20 = .ok (.iaload, 1) := by decide +kernel
theorem dX12_fitsOf_21 : decode cX12_fitsOf 21 = .ok (.iadd, 1) := by decide +kernel
theorem dX12_fitsOf_22 : decode cX12_fitsOf 22 = .ok (.istore 4, 2) := by decide +kernel
theorem dX12_fitsOf_24 : decode cX12_fitsOf 24 = .ok (.aload_n 0, 1) := by decide +kernel
theorem dX12_fitsOf_25 : decode cX12_fitsOf 25 = .ok (.getfield 91, 3) := by decide +kernel
theorem dX12_fitsOf_28 : decode cX12_fitsOf 28 = .ok (.iconst 2, 1) := by decide +kernel
theorem dX12_fitsOf_29 : decode cX12_fitsOf 29 = .ok (.iload_n 3, 1) := by decide +kernel
theorem dX12_fitsOf_30 : decode cX12_fitsOf 30 = .ok (.imul, 1) := by decide +kernel
theorem dX12_fitsOf_31 : decode cX12_fitsOf 31 = .ok (.iconst 1, 1) := by decide +kernel
theorem dX12_fitsOf_32 : decode cX12_fitsOf 32 = .ok (.iadd, 1) := by decide +kernel
theorem dX12_fitsOf_33 : decode cX12_fitsOf 33 = .ok (.iaload, 1) := by decide +kernel
theorem dX12_fitsOf_34 : decode cX12_fitsOf 34 = .ok (.istore 5, 2) := by decide +kernel
theorem dX12_fitsOf_36 : decode cX12_fitsOf 36 = .ok (.iload_n 2, 1) := by decide +kernel
theorem dX12_fitsOf_37 : decode cX12_fitsOf 37 = .ok (.iload 4, 2) := by decide +kernel
theorem dX12_fitsOf_39 : decode cX12_fitsOf 39 = .ok (.iload 5, 2) := by decide +kernel
theorem dX12_fitsOf_41 : decode cX12_fitsOf 41 = .ok (.imul, 1) := by decide +kernel
theorem dX12_fitsOf_42 : decode cX12_fitsOf 42 = .ok (.sipush 2400, 3) := by decide +kernel
theorem dX12_fitsOf_45 : decode cX12_fitsOf 45 = .ok (.if_icmp .lt 20, 3) := by decide +kernel
theorem dX12_fitsOf_48 : decode cX12_fitsOf 48 = .ok (.iload 4, 2) := by decide +kernel
theorem dX12_fitsOf_50 : decode cX12_fitsOf 50 = .ok (.iload 5, 2) := by decide +kernel
theorem dX12_fitsOf_52 : decode cX12_fitsOf 52 = .ok (.iconst 1, 1) := by decide +kernel
theorem dX12_fitsOf_53 : decode cX12_fitsOf 53 = .ok (.isub, 1) := by decide +kernel
theorem dX12_fitsOf_54 : decode cX12_fitsOf 54 = .ok (.imul, 1) := by decide +kernel
theorem dX12_fitsOf_55 : decode cX12_fitsOf 55 = .ok (.sipush 2400, 3) := by decide +kernel
theorem dX12_fitsOf_58 : decode cX12_fitsOf 58 = .ok (.if_icmp .ge 7, 3) := by decide +kernel
theorem dX12_fitsOf_61 : decode cX12_fitsOf 61 = .ok (.iconst 1, 1) := by decide +kernel
theorem dX12_fitsOf_62 : decode cX12_fitsOf 62 = .ok (.goto 4, 3) := by decide +kernel
theorem dX12_fitsOf_65 : decode cX12_fitsOf 65 = .ok (.iconst 0, 1) := by decide +kernel
theorem dX12_fitsOf_66 : decode cX12_fitsOf 66 = .ok (.iadd, 1) := by decide +kernel
theorem dX12_fitsOf_67 : decode cX12_fitsOf 67 = .ok (.istore_n 2, 1) := by decide +kernel
theorem dX12_fitsOf_68 : decode cX12_fitsOf 68 = .ok (.iinc 3 1, 3) := by decide +kernel
theorem dX12_fitsOf_71 : decode cX12_fitsOf 71 = .ok (.goto (-67), 3) := by decide +kernel
theorem dX12_fitsOf_74 : decode cX12_fitsOf 74 = .ok (.iload_n 2, 1) := by decide +kernel
theorem dX12_fitsOf_75 : decode cX12_fitsOf 75 = .ok (.ireturn, 1) := by decide +kernel
theorem dX12_law_0 : decode cX12_law 0 = .ok (.iload_n 1, 1) := by decide +kernel
theorem dX12_law_1 : decode cX12_law 1 = .ok (.i2l, 1) := by decide +kernel
theorem dX12_law_2 : decode cX12_law 2 = .ok (.lconst 0, 1) := by decide +kernel
theorem dX12_law_3 : decode cX12_law 3 = .ok (.lconst 1, 1) := by decide +kernel
theorem dX12_law_4 : decode cX12_law 4 = .ok (.invokestatic 106, 3) := by decide +kernel
theorem dX12_law_7 : decode cX12_law 7 = .ok (.ifCond .ne 5, 3) := by decide +kernel
theorem dX12_law_10 : decode cX12_law 10 = .ok (.iconst (-1), 1) := by decide +kernel
theorem dX12_law_11 : decode cX12_law 11 = .ok (.ireturn, 1) := by decide +kernel
theorem dX12_law_12 : decode cX12_law 12 = .ok (.iconst 0, 1) := by decide +kernel
theorem dX12_law_13 : decode cX12_law 13 = .ok (.istore_n 2, 1) := by decide +kernel
theorem dX12_law_14 : decode cX12_law 14 = .ok (.iconst 1, 1) := by decide +kernel
theorem dX12_law_15 : decode cX12_law 15 = .ok (.istore_n 3, 1) := by decide +kernel
theorem dX12_law_16 : decode cX12_law 16 = .ok (.iload_n 3, 1) := by decide +kernel
theorem dX12_law_17 : decode cX12_law 17 = .ok (.bipush 41, 2) := by decide +kernel
theorem dX12_law_19 : decode cX12_law 19 = .ok (.if_icmp .ge 28, 3) := by decide +kernel
theorem dX12_law_22 : decode cX12_law 22 = .ok (.aload_n 0, 1) := by decide +kernel
theorem dX12_law_23 : decode cX12_law 23 = .ok (.iload_n 3, 1) := by decide +kernel
theorem dX12_law_24 : decode cX12_law 24 = .ok (.invokevirtual 269, 3) := by decide +kernel
theorem dX12_law_27 : decode cX12_law 27 = .ok (.aload_n 0, 1) := by decide +kernel
theorem dX12_law_28 : decode cX12_law 28 = .ok (.iload_n 2, 1) := by decide +kernel
theorem dX12_law_29 : decode cX12_law 29 = .ok (.invokevirtual 269, 3) := by decide +kernel
theorem dX12_law_32 : decode cX12_law 32 = .ok (.if_icmp .le 7, 3) := by decide +kernel
theorem dX12_law_35 : decode cX12_law 35 = .ok (.iload_n 3, 1) := by decide +kernel
theorem dX12_law_36 : decode cX12_law 36 = .ok (.goto 4, 3) := by decide +kernel
theorem dX12_law_39 : decode cX12_law 39 = .ok (.iload_n 2, 1) := by decide +kernel
theorem dX12_law_40 : decode cX12_law 40 = .ok (.istore_n 2, 1) := by decide +kernel
theorem dX12_law_41 : decode cX12_law 41 = .ok (.iinc 3 1, 3) := by decide +kernel
theorem dX12_law_44 : decode cX12_law 44 = .ok (.goto (-28), 3) := by decide +kernel
theorem dX12_law_47 : decode cX12_law 47 = .ok (.iload_n 1, 1) := by decide +kernel
theorem dX12_law_48 : decode cX12_law 48 = .ok (.ifCond .ne 11, 3) := by decide +kernel
theorem dX12_law_51 : decode cX12_law 51 = .ok (.aload_n 0, 1) := by decide +kernel
theorem dX12_law_52 : decode cX12_law 52 = .ok (.iload_n 2, 1) := by decide +kernel
theorem dX12_law_53 : decode cX12_law 53 = .ok (.invokevirtual 269, 3) := by decide +kernel
theorem dX12_law_56 : decode cX12_law 56 = .ok (.goto 4, 3) := by decide +kernel
theorem dX12_law_59 : decode cX12_law 59 = .ok (.iload_n 2, 1) := by decide +kernel
theorem dX12_law_60 : decode cX12_law 60 = .ok (.ireturn, 1) := by decide +kernel
theorem dX12_takenBy_0 : decode cX12_takenBy 0 = .ok (.bipush (-4), 2) := by decide +kernel
theorem dX12_takenBy_2 : decode cX12_takenBy 2 = .ok (.istore_n 2, 1) := by decide +kernel
theorem dX12_takenBy_3 : decode cX12_takenBy 3 = .ok (.bipush 10, 2) := by decide +kernel
theorem dX12_takenBy_5 : decode cX12_takenBy 5 = .ok (.istore_n 3, 1) := by decide +kernel
theorem dX12_takenBy_6 : decode cX12_takenBy 6 = .ok (.iload_n 3, 1) := by decide +kernel
theorem dX12_takenBy_7 : decode cX12_takenBy 7 = .ok (.bipush 10, 2) := by decide +kernel
theorem dX12_takenBy_9 : decode cX12_takenBy 9 = .ok (.aload_n 0, 1) := by decide +kernel
theorem dX12_takenBy_10 : decode cX12_takenBy 10 = .ok (.getfield 28, 3) := by decide +kernel
theorem dX12_takenBy_13 : decode cX12_takenBy 13 = .ok (.iconst 0, 1) := by decide +kernel
theorem dX12_takenBy_14 : decode cX12_takenBy 14 = .ok (.iaload, 1) := by decide +kernel
theorem dX12_takenBy_15 : decode cX12_takenBy 15 = .ok (.iadd, 1) := by decide +kernel
theorem dX12_takenBy_16 : decode cX12_takenBy 16 = .ok (.if_icmp .ge 41, 3) := by decide +kernel
theorem dX12_takenBy_19 : decode cX12_takenBy 19 = .ok (.aload_n 0, 1) := by decide +kernel
theorem dX12_takenBy_20 : decode cX12_takenBy 20 = .ok (.getfield 82, 3) := by decide +kernel
theorem dX12_takenBy_23 : decode cX12_takenBy 23 = .ok (.iload_n 3, 1) := by decide +kernel
theorem dX12_takenBy_24 : decode cX12_takenBy 24 = .ok (.iaload, 1) := by decide +kernel
theorem dX12_takenBy_25 : decode cX12_takenBy 25 = .ok (.ifCond .ne 26, 3) := by decide +kernel
theorem dX12_takenBy_28 : decode cX12_takenBy 28 = .ok (.iload_n 2, 1) := by decide +kernel
theorem dX12_takenBy_29 : decode cX12_takenBy 29 = .ok (.ifCond .lt 16, 3) := by decide +kernel
theorem dX12_takenBy_32 : decode cX12_takenBy 32 = .ok (.iload_n 1, 1) := by decide +kernel
theorem dX12_takenBy_33 : decode cX12_takenBy 33 = .ok (.ifCond .eq 12, 3) := by decide +kernel
theorem dX12_takenBy_36 : decode cX12_takenBy 36 = .ok (.aload_n 0, 1) := by decide +kernel
theorem dX12_takenBy_37 : decode cX12_takenBy 37 = .ok (.iload_n 3, 1) := by decide +kernel
theorem dX12_takenBy_38 : decode cX12_takenBy 38 = .ok (.iload_n 2, 1) := by decide +kernel
theorem dX12_takenBy_39 : decode cX12_takenBy 39 = .ok (.invokevirtual 220, 3) := by decide +kernel
theorem dX12_takenBy_42 : decode cX12_takenBy 42 = .ok (.ifCond .eq 7, 3) := by decide +kernel
theorem dX12_takenBy_45 : decode cX12_takenBy 45 = .ok (.iload_n 3, 1) := by decide +kernel
theorem dX12_takenBy_46 : decode cX12_takenBy 46 = .ok (.goto 4, 3) := by decide +kernel
theorem dX12_takenBy_49 : decode cX12_takenBy 49 = .ok (.iload_n 2, 1) := by decide +kernel
theorem dX12_takenBy_50 : decode cX12_takenBy 50 = .ok (.istore_n 2, 1) := by decide +kernel
theorem dX12_takenBy_51 : decode cX12_takenBy 51 = .ok (.iinc 3 1, 3) := by decide +kernel
theorem dX12_takenBy_54 : decode cX12_takenBy 54 = .ok (.goto (-48), 3) := by decide +kernel
theorem dX12_takenBy_57 : decode cX12_takenBy 57 = .ok (.iload_n 2, 1) := by decide +kernel
theorem dX12_takenBy_58 : decode cX12_takenBy 58 = .ok (.ireturn, 1) := by decide +kernel
theorem dX12_habit_0 : decode cX12_habit 0 = .ok (.iload_n 1, 1) := by decide +kernel
theorem dX12_habit_1 : decode cX12_habit 1 = .ok (.i2l, 1) := by decide +kernel
theorem dX12_habit_2 : decode cX12_habit 2 = .ok (.lconst 0, 1) := by decide +kernel
theorem dX12_habit_3 : decode cX12_habit 3 = .ok (.ldc2_w 272, 3) := by decide +kernel
theorem dX12_habit_6 : decode cX12_habit 6 = .ok (.invokestatic 106, 3) := by decide +kernel
theorem dX12_habit_9 : decode cX12_habit 9 = .ok (.ifCond .eq 25, 3) := by decide +kernel
theorem dX12_habit_12 : decode cX12_habit 12 = .ok (.iload_n 2, 1) := by decide +kernel
theorem dX12_habit_13 : decode cX12_habit 13 = .ok (.i2l, 1) := by decide +kernel
theorem dX12_habit_14 : decode cX12_habit 14 = .ok (.lconst 1, 1) := by decide +kernel
theorem dX12_habit_15 : decode cX12_habit 15 = .ok (.ldc2_w 257, 3) := by decide +kernel
theorem dX12_habit_18 : decode cX12_habit 18 = .ok (.invokestatic 106, 3) := by decide +kernel
theorem dX12_habit_21 : decode cX12_habit 21 = .ok (.ifCond .eq 13, 3) := by decide +kernel
theorem dX12_habit_24 : decode cX12_habit 24 = .ok (.iload_n 3, 1) := by decide +kernel
theorem dX12_habit_25 : decode cX12_habit 25 = .ok (.i2l, 1) := by decide +kernel
theorem dX12_habit_26 : decode cX12_habit 26 = .ok (.lconst 0, 1) := by decide +kernel
theorem dX12_habit_27 : decode cX12_habit 27 = .ok (.lconst 1, 1) := by decide +kernel
theorem dX12_habit_28 : decode cX12_habit 28 = .ok (.invokestatic 106, 3) := by decide +kernel
theorem dX12_habit_31 : decode cX12_habit 31 = .ok (.ifCond .ne 5, 3) := by decide +kernel
theorem dX12_habit_34 : decode cX12_habit 34 = .ok (.iconst (-1), 1) := by decide +kernel
theorem dX12_habit_35 : decode cX12_habit 35 = .ok (.ireturn, 1) := by decide +kernel
theorem dX12_habit_36 : decode cX12_habit 36 = .ok (.aload_n 0, 1) := by decide +kernel
theorem dX12_habit_37 : decode cX12_habit 37 = .ok (.iconst 0, 1) := by decide +kernel
theorem dX12_habit_38 : decode cX12_habit 38 = .ok (.iconst 1, 1) := by decide +kernel
theorem dX12_habit_39 : decode cX12_habit 39 = .ok (.invokevirtual 213, 3) := by decide +kernel
theorem dX12_habit_42 : decode cX12_habit 42 = .ok (.iconst 0, 1) := by decide +kernel
theorem dX12_habit_43 : decode cX12_habit 43 = .ok (.istore 4, 2) := by decide +kernel
theorem dX12_habit_45 : decode cX12_habit 45 = .ok (.iconst 0, 1) := by decide +kernel
theorem dX12_habit_46 : decode cX12_habit 46 = .ok (.istore 5, 2) := by decide +kernel
theorem dX12_habit_48 : decode cX12_habit 48 = .ok (.iload 5, 2) := by decide +kernel
theorem dX12_habit_50 : decode cX12_habit 50 = .ok (.iload_n 2, 1) := by decide +kernel
theorem dX12_habit_51 : decode cX12_habit 51 = .ok (.if_icmp .ge 112, 3) := by decide +kernel
theorem dX12_habit_54 : decode cX12_habit 54 = .ok (.iload 5, 2) := by decide +kernel
theorem dX12_habit_56 : decode cX12_habit 56 = .ok (.ifCond .le 8, 3) := by decide +kernel
theorem dX12_habit_59 : decode cX12_habit 59 = .ok (.aload_n 0, 1) := by decide +kernel
theorem dX12_habit_60 : decode cX12_habit 60 = .ok (.iconst 1, 1) := by decide +kernel
theorem dX12_habit_61 : decode cX12_habit 61 = .ok (.invokevirtual 196, 3) := by decide +kernel
theorem dX12_habit_64 : decode cX12_habit 64 = .ok (.aload_n 0, 1) := by decide +kernel
theorem dX12_habit_65 : decode cX12_habit 65 = .ok (.invokevirtual 226, 3) := by decide +kernel
theorem dX12_habit_68 : decode cX12_habit 68 = .ok (.ldc2_w 274, 3) := by decide +kernel
theorem dX12_habit_71 : decode cX12_habit 71 = .ok (.iload_n 1, 1) := by decide +kernel
theorem dX12_habit_72 : decode cX12_habit 72 = .ok (.i2l, 1) := by decide +kernel
theorem dX12_habit_73 : decode cX12_habit 73 = .ok (.lmul, 1) := by decide +kernel
theorem dX12_habit_74 : decode cX12_habit 74 = .ok (.ldc2_w 276, 3) := by decide +kernel
theorem dX12_habit_77 : decode cX12_habit 77 = .ok (.iload 5, 2) := by decide +kernel
theorem dX12_habit_79 : decode cX12_habit 79 = .ok (.i2l, 1) := by decide +kernel
theorem dX12_habit_80 : decode cX12_habit 80 = .ok (.lmul, 1) := by decide +kernel
theorem dX12_habit_81 : decode cX12_habit 81 = .ok (.ladd, 1) := by decide +kernel
theorem dX12_habit_82 : decode cX12_habit 82 = .ok (.lconst 1, 1) := by decide +kernel
theorem dX12_habit_83 : decode cX12_habit 83 = .ok (.ladd, 1) := by decide +kernel
theorem dX12_habit_84 : decode cX12_habit 84 = .ok (.lstore 6, 2) := by decide +kernel
theorem dX12_habit_86 : decode cX12_habit 86 = .ok (.lload 6, 2) := by decide +kernel
theorem dX12_habit_88 : decode cX12_habit 88 = .ok (.lload 6, 2) := by decide +kernel
theorem dX12_habit_90 : decode cX12_habit 90 = .ok (.lmul, 1) := by decide +kernel
theorem dX12_habit_91 : decode cX12_habit 91 = .ok (.ldc2_w 278, 3) := by decide +kernel
theorem dX12_habit_94 : decode cX12_habit 94 = .ok (.lrem, 1) := by decide +kernel
theorem dX12_habit_95 : decode cX12_habit 95 = .ok (.ldc2_w 127, 3) := by decide +kernel
theorem dX12_habit_98 : decode cX12_habit 98 = .ok (.lrem, 1) := by decide +kernel
theorem dX12_habit_99 : decode cX12_habit 99 = .ok (.lconst 0, 1) := by decide +kernel
theorem dX12_habit_100 : decode cX12_habit 100 = .ok (.lcmp, 1) := by decide +kernel
theorem dX12_habit_101 : decode cX12_habit 101 = .ok (.ifCond .eq 11, 3) := by decide +kernel
theorem dX12_habit_104 : decode cX12_habit 104 = .ok (.aload_n 0, 1) := by decide +kernel
theorem dX12_habit_105 : decode cX12_habit 105 = .ok (.iload_n 3, 1) := by decide +kernel
theorem dX12_habit_106 : decode cX12_habit 106 = .ok (.invokevirtual 280, 3) := by decide +kernel
theorem dX12_habit_109 : decode cX12_habit 109 = .ok (.goto 5, 3) := by decide +kernel
theorem dX12_habit_112 : decode cX12_habit 112 = .ok (.bipush (-4), 2) := by decide +kernel
theorem dX12_habit_114 : decode cX12_habit 114 = .ok (.istore 8, 2) := by decide +kernel
theorem dX12_habit_116 : decode cX12_habit 116 = .ok (.iload 8, 2) := by decide +kernel
theorem dX12_habit_118 : decode cX12_habit 118 = .ok (.ifCond .lt 39, 3) := by decide +kernel
theorem dX12_habit_121 : decode cX12_habit 121 = .ok (.iload 4, 2) := by decide +kernel
theorem dX12_habit_123 : decode cX12_habit 123 = .ok (.aload_n 0, 1) := by decide +kernel
theorem dX12_habit_124 : decode cX12_habit 124 = .ok (.iload 8, 2) := by decide +kernel
theorem dX12_habit_126 : decode cX12_habit 126 = .ok (.invokevirtual 180, 3) := by decide +kernel
theorem dX12_habit_129 : decode cX12_habit 129 = .ok (.ifCond .eq 16, 3) := by decide +kernel
theorem dX12_habit_132 : decode cX12_habit 132 = .ok (.aload_n 0, 1) := by decide +kernel
theorem dX12_habit_133 : decode cX12_habit 133 = .ok (.getfield 37, 3) := by decide +kernel
theorem dX12_habit_136 : decode cX12_habit 136 = .ok (.iload 8, 2) := by decide +kernel
theorem dX12_habit_138 : decode cX12_habit 138 = .ok (.bipush 10, 2) := by decide +kernel
theorem dX12_habit_140 : decode cX12_habit 140 = .ok (.isub, 1) := by decide +kernel
theorem dX12_habit_141 : decode cX12_habit 141 = .ok (.iaload, 1) := by decide +kernel
theorem dX12_habit_142 : decode cX12_habit 142 = .ok (.goto 4, 3) := by decide +kernel
theorem dX12_habit_145 : decode cX12_habit 145 = .ok (.iconst 0, 1) := by decide +kernel
theorem dX12_habit_146 : decode cX12_habit 146 = .ok (.iadd, 1) := by decide +kernel
theorem dX12_habit_147 : decode cX12_habit 147 = .ok (.istore 4, 2) := by decide +kernel
theorem dX12_habit_149 : decode cX12_habit 149 = .ok (.aload_n 0, 1) := by decide +kernel
theorem dX12_habit_150 : decode cX12_habit 150 = .ok (.getfield 82, 3) := by decide +kernel
theorem dX12_habit_153 : decode cX12_habit 153 = .ok (.iload 8, 2) := by decide +kernel
theorem dX12_habit_155 : decode cX12_habit 155 = .ok (.iconst 1, 1) := by decide +kernel
theorem dX12_habit_156 : decode cX12_habit 156 = .ok (.iastore, 1) := by decide +kernel
theorem dX12_habit_157 : decode cX12_habit 157 = .ok (.iinc 5 1, 3) := by decide +kernel
theorem dX12_habit_160 : decode cX12_habit 160 = .ok (.goto (-112), 3) := by decide +kernel
theorem dX12_habit_163 : decode cX12_habit 163 = .ok (.iload 4, 2) := by decide +kernel
theorem dX12_habit_165 : decode cX12_habit 165 = .ok (.aload_n 0, 1) := by decide +kernel
theorem dX12_habit_166 : decode cX12_habit 166 = .ok (.iconst 1, 1) := by decide +kernel
theorem dX12_habit_167 : decode cX12_habit 167 = .ok (.invokevirtual 207, 3) := by decide +kernel
theorem dX12_habit_170 : decode cX12_habit 170 = .ok (.iadd, 1) := by decide +kernel
theorem dX12_habit_171 : decode cX12_habit 171 = .ok (.ireturn, 1) := by decide +kernel
theorem dX12_keep_0 : decode cX12_keep 0 = .ok (.aload_n 0, 1) := by decide +kernel
theorem dX12_keep_1 : decode cX12_keep 1 = .ok (.getfield 157, 3) := by decide +kernel
theorem dX12_keep_4 : decode cX12_keep 4 = .ok (.iconst 2, 1) := by decide +kernel
theorem dX12_keep_5 : decode cX12_keep 5 = .ok (.if_icmp .ne 6, 3) := by decide +kernel
theorem dX12_keep_8 : decode cX12_keep 8 = .ok (.bipush (-3), 2) := by decide +kernel
theorem dX12_keep_10 : decode cX12_keep 10 = .ok (.ireturn, 1) := by decide +kernel
theorem dX12_keep_11 : decode cX12_keep 11 = .ok (.aload_n 0, 1) := by decide +kernel
theorem dX12_keep_12 : decode cX12_keep 12 = .ok (.dup, 1) := by decide +kernel
theorem dX12_keep_13 : decode cX12_keep 13 = .ok (.getfield 157, 3) := by decide +kernel
theorem dX12_keep_16 : decode cX12_keep 16 = .ok (.iconst 1, 1) := by decide +kernel
theorem dX12_keep_17 : decode cX12_keep 17 = .ok (.iadd, 1) := by decide +kernel
theorem dX12_keep_18 : decode cX12_keep 18 = .ok (.putfield 157, 3) := by decide +kernel
theorem dX12_keep_21 : decode cX12_keep 21 = .ok (.aload_n 0, 1) := by decide +kernel
theorem dX12_keep_22 : decode cX12_keep 22 = .ok (.iconst 0, 1) := by decide +kernel
theorem dX12_keep_23 : decode cX12_keep 23 = .ok (.iconst 1, 1) := by decide +kernel
theorem dX12_keep_24 : decode cX12_keep 24 = .ok (.aload_n 0, 1) := by decide +kernel
theorem dX12_keep_25 : decode cX12_keep 25 = .ok (.getfield 157, 3) := by decide +kernel
theorem dX12_keep_28 : decode cX12_keep 28 = .ok (.iadd, 1) := by decide +kernel
theorem dX12_keep_29 : decode cX12_keep 29 = .ok (.invokevirtual 213, 3) := by decide +kernel
theorem dX12_keep_32 : decode cX12_keep 32 = .ok (.aload_n 0, 1) := by decide +kernel
theorem dX12_keep_33 : decode cX12_keep 33 = .ok (.getfield 157, 3) := by decide +kernel
theorem dX12_keep_36 : decode cX12_keep 36 = .ok (.ireturn, 1) := by decide +kernel
theorem dX12_back_0 : decode cX12_back 0 = .ok (.aload_n 0, 1) := by decide +kernel
theorem dX12_back_1 : decode cX12_back 1 = .ok (.getfield 157, 3) := by decide +kernel
theorem dX12_back_4 : decode cX12_back 4 = .ok (.ifCond .ne 6, 3) := by decide +kernel
theorem dX12_back_7 : decode cX12_back 7 = .ok (.bipush (-2), 2) := by decide +kernel
theorem dX12_back_9 : decode cX12_back 9 = .ok (.ireturn, 1) := by decide +kernel
theorem dX12_back_10 : decode cX12_back 10 = .ok (.aload_n 0, 1) := by decide +kernel
theorem dX12_back_11 : decode cX12_back 11 = .ok (.iconst 1, 1) := by decide +kernel
theorem dX12_back_12 : decode cX12_back 12 = .ok (.aload_n 0, 1) := by decide +kernel
theorem dX12_back_13 : decode cX12_back 13 = .ok (.getfield 157, 3) := by decide +kernel
theorem dX12_back_16 : decode cX12_back 16 = .ok (.iadd, 1) := by decide +kernel
theorem dX12_back_17 : decode cX12_back 17 = .ok (.iconst 0, 1) := by decide +kernel
theorem dX12_back_18 : decode cX12_back 18 = .ok (.invokevirtual 213, 3) := by decide +kernel
theorem dX12_back_21 : decode cX12_back 21 = .ok (.aload_n 0, 1) := by decide +kernel
theorem dX12_back_22 : decode cX12_back 22 = .ok (.dup, 1) := by decide +kernel
theorem dX12_back_23 : decode cX12_back 23 = .ok (.getfield 157, 3) := by decide +kernel
theorem dX12_back_26 : decode cX12_back 26 = .ok (.iconst 1, 1) := by decide +kernel
theorem dX12_back_27 : decode cX12_back 27 = .ok (.isub, 1) := by decide +kernel
theorem dX12_back_28 : decode cX12_back 28 = .ok (.putfield 157, 3) := by decide +kernel
theorem dX12_back_31 : decode cX12_back 31 = .ok (.aload_n 0, 1) := by decide +kernel
theorem dX12_back_32 : decode cX12_back 32 = .ok (.getfield 157, 3) := by decide +kernel
theorem dX12_back_35 : decode cX12_back 35 = .ok (.ireturn, 1) := by decide +kernel
theorem dX12_count_0 : decode cX12_count 0 = .ok (.iload_n 1, 1) := by decide +kernel
theorem dX12_count_1 : decode cX12_count 1 = .ok (.tableswitch 117 0 9 #[55, 62, 69, 76, 83, 90, 95, 102, 107, 112], 55) := by decide +kernel
theorem dX12_count_56 : decode cX12_count 56 = .ok (.aload_n 0, 1) := by decide +kernel
theorem dX12_count_57 : decode cX12_count 57 = .ok (.getfield 28, 3) := by decide +kernel
theorem dX12_count_60 : decode cX12_count 60 = .ok (.iconst 0, 1) := by decide +kernel
theorem dX12_count_61 : decode cX12_count 61 = .ok (.iaload, 1) := by decide +kernel
theorem dX12_count_62 : decode cX12_count 62 = .ok (.ireturn, 1) := by decide +kernel
theorem dX12_count_63 : decode cX12_count 63 = .ok (.aload_n 0, 1) := by decide +kernel
theorem dX12_count_64 : decode cX12_count 64 = .ok (.getfield 13, 3) := by decide +kernel
theorem dX12_count_67 : decode cX12_count 67 = .ok (.iconst 0, 1) := by decide +kernel
theorem dX12_count_68 : decode cX12_count 68 = .ok (.iaload, 1) := by decide +kernel
theorem dX12_count_69 : decode cX12_count 69 = .ok (.ireturn, 1) := by decide +kernel
theorem dX12_count_70 : decode cX12_count 70 = .ok (.aload_n 0, 1) := by decide +kernel
theorem dX12_count_71 : decode cX12_count 71 = .ok (.getfield 49, 3) := by decide +kernel
theorem dX12_count_74 : decode cX12_count 74 = .ok (.iconst 0, 1) := by decide +kernel
theorem dX12_count_75 : decode cX12_count 75 = .ok (.iaload, 1) := by decide +kernel
theorem dX12_count_76 : decode cX12_count 76 = .ok (.ireturn, 1) := by decide +kernel
theorem dX12_count_77 : decode cX12_count 77 = .ok (.aload_n 0, 1) := by decide +kernel
theorem dX12_count_78 : decode cX12_count 78 = .ok (.getfield 55, 3) := by decide +kernel
theorem dX12_count_81 : decode cX12_count 81 = .ok (.iconst 0, 1) := by decide +kernel
theorem dX12_count_82 : decode cX12_count 82 = .ok (.iaload, 1) := by decide +kernel
theorem dX12_count_83 : decode cX12_count 83 = .ok (.ireturn, 1) := by decide +kernel
theorem dX12_count_84 : decode cX12_count 84 = .ok (.aload_n 0, 1) := by decide +kernel
theorem dX12_count_85 : decode cX12_count 85 = .ok (.getfield 61, 3) := by decide +kernel
theorem dX12_count_88 : decode cX12_count 88 = .ok (.iconst 0, 1) := by decide +kernel
theorem dX12_count_89 : decode cX12_count 89 = .ok (.iaload, 1) := by decide +kernel
theorem dX12_count_90 : decode cX12_count 90 = .ok (.ireturn, 1) := by decide +kernel
theorem dX12_count_91 : decode cX12_count 91 = .ok (.aload_n 0, 1) := by decide +kernel
theorem dX12_count_92 : decode cX12_count 92 = .ok (.getfield 160, 3) := by decide +kernel
theorem dX12_count_95 : decode cX12_count 95 = .ok (.ireturn, 1) := by decide +kernel
theorem dX12_count_96 : decode cX12_count 96 = .ok (.aload_n 0, 1) := by decide +kernel
theorem dX12_count_97 : decode cX12_count 97 = .ok (.getfield 88, 3) := by decide +kernel
theorem dX12_count_100 : decode cX12_count 100 = .ok (.iconst 0, 1) := by decide +kernel
theorem dX12_count_101 : decode cX12_count 101 = .ok (.iaload, 1) := by decide +kernel
theorem dX12_count_102 : decode cX12_count 102 = .ok (.ireturn, 1) := by decide +kernel
theorem dX12_count_103 : decode cX12_count 103 = .ok (.aload_n 0, 1) := by decide +kernel
theorem dX12_count_104 : decode cX12_count 104 = .ok (.invokevirtual 246, 3) := by decide +kernel
theorem dX12_count_107 : decode cX12_count 107 = .ok (.ireturn, 1) := by decide +kernel
theorem dX12_count_108 : decode cX12_count 108 = .ok (.aload_n 0, 1) := by decide +kernel
theorem dX12_count_109 : decode cX12_count 109 = .ok (.getfield 110, 3) := by decide +kernel
theorem dX12_count_112 : decode cX12_count 112 = .ok (.ireturn, 1) := by decide +kernel
theorem dX12_count_113 : decode cX12_count 113 = .ok (.aload_n 0, 1) := by decide +kernel
theorem dX12_count_114 : decode cX12_count 114 = .ok (.getfield 157, 3) := by decide +kernel
theorem dX12_count_117 : decode cX12_count 117 = .ok (.ireturn, 1) := by decide +kernel
theorem dX12_count_118 : decode cX12_count 118 = .ok (.iconst (-1), 1) := by decide +kernel
theorem dX12_count_119 : decode cX12_count 119 = .ok (.ireturn, 1) := by decide +kernel
theorem dJ6_bitCount_0f7a4_0 : decode cJ6_bitCount_0f7a4 0 = .ok (.iload_n 0, 1) := by decide +kernel
theorem dJ6_bitCount_0f7a4_1 : decode cJ6_bitCount_0f7a4 1 = .ok (.iload_n 0, 1) := by decide +kernel
theorem dJ6_bitCount_0f7a4_2 : decode cJ6_bitCount_0f7a4 2 = .ok (.iconst 1, 1) := by decide +kernel
theorem dJ6_bitCount_0f7a4_3 : decode cJ6_bitCount_0f7a4 3 = .ok (.iushr, 1) := by decide +kernel
theorem dJ6_bitCount_0f7a4_4 : decode cJ6_bitCount_0f7a4 4 = .ok (.ldc_w 265, 3) := by decide +kernel
theorem dJ6_bitCount_0f7a4_7 : decode cJ6_bitCount_0f7a4 7 = .ok (.iand, 1) := by decide +kernel
theorem dJ6_bitCount_0f7a4_8 : decode cJ6_bitCount_0f7a4 8 = .ok (.isub, 1) := by decide +kernel
theorem dJ6_bitCount_0f7a4_9 : decode cJ6_bitCount_0f7a4 9 = .ok (.istore_n 0, 1) := by decide +kernel
theorem dJ6_bitCount_0f7a4_10 : decode cJ6_bitCount_0f7a4 10 = .ok (.iload_n 0, 1) := by decide +kernel
theorem dJ6_bitCount_0f7a4_11 : decode cJ6_bitCount_0f7a4 11 = .ok (.ldc_w 266, 3) := by decide +kernel
theorem dJ6_bitCount_0f7a4_14 : decode cJ6_bitCount_0f7a4 14 = .ok (.iand, 1) := by decide +kernel
theorem dJ6_bitCount_0f7a4_15 : decode cJ6_bitCount_0f7a4 15 = .ok (.iload_n 0, 1) := by decide +kernel
theorem dJ6_bitCount_0f7a4_16 : decode cJ6_bitCount_0f7a4 16 = .ok (.iconst 2, 1) := by decide +kernel
theorem dJ6_bitCount_0f7a4_17 : decode cJ6_bitCount_0f7a4 17 = .ok (.iushr, 1) := by decide +kernel
theorem dJ6_bitCount_0f7a4_18 : decode cJ6_bitCount_0f7a4 18 = .ok (.ldc_w 266, 3) := by decide +kernel
theorem dJ6_bitCount_0f7a4_21 : decode cJ6_bitCount_0f7a4 21 = .ok (.iand, 1) := by decide +kernel
theorem dJ6_bitCount_0f7a4_22 : decode cJ6_bitCount_0f7a4 22 = .ok (.iadd, 1) := by decide +kernel
theorem dJ6_bitCount_0f7a4_23 : decode cJ6_bitCount_0f7a4 23 = .ok (.istore_n 0, 1) := by decide +kernel
theorem dJ6_bitCount_0f7a4_24 : decode cJ6_bitCount_0f7a4 24 = .ok (.iload_n 0, 1) := by decide +kernel
theorem dJ6_bitCount_0f7a4_25 : decode cJ6_bitCount_0f7a4 25 = .ok (.iload_n 0, 1) := by decide +kernel
theorem dJ6_bitCount_0f7a4_26 : decode cJ6_bitCount_0f7a4 26 = .ok (.iconst 4, 1) := by decide +kernel
theorem dJ6_bitCount_0f7a4_27 : decode cJ6_bitCount_0f7a4 27 = .ok (.iushr, 1) := by decide +kernel
theorem dJ6_bitCount_0f7a4_28 : decode cJ6_bitCount_0f7a4 28 = .ok (.iadd, 1) := by decide +kernel
theorem dJ6_bitCount_0f7a4_29 : decode cJ6_bitCount_0f7a4 29 = .ok (.ldc_w 267, 3) := by decide +kernel
theorem dJ6_bitCount_0f7a4_32 : decode cJ6_bitCount_0f7a4 32 = .ok (.iand, 1) := by decide +kernel
theorem dJ6_bitCount_0f7a4_33 : decode cJ6_bitCount_0f7a4 33 = .ok (.istore_n 0, 1) := by decide +kernel
theorem dJ6_bitCount_0f7a4_34 : decode cJ6_bitCount_0f7a4 34 = .ok (.iload_n 0, 1) := by decide +kernel
theorem dJ6_bitCount_0f7a4_35 : decode cJ6_bitCount_0f7a4 35 = .ok (.iload_n 0, 1) := by decide +kernel
theorem dJ6_bitCount_0f7a4_36 : decode cJ6_bitCount_0f7a4 36 = .ok (.bipush 8, 2) := by decide +kernel
theorem dJ6_bitCount_0f7a4_38 : decode cJ6_bitCount_0f7a4 38 = .ok (.iushr, 1) := by decide +kernel
theorem dJ6_bitCount_0f7a4_39 : decode cJ6_bitCount_0f7a4 39 = .ok (.iadd, 1) := by decide +kernel
theorem dJ6_bitCount_0f7a4_40 : decode cJ6_bitCount_0f7a4 40 = .ok (.istore_n 0, 1) := by decide +kernel
theorem dJ6_bitCount_0f7a4_41 : decode cJ6_bitCount_0f7a4 41 = .ok (.iload_n 0, 1) := by decide +kernel
theorem dJ6_bitCount_0f7a4_42 : decode cJ6_bitCount_0f7a4 42 = .ok (.iload_n 0, 1) := by decide +kernel
theorem dJ6_bitCount_0f7a4_43 : decode cJ6_bitCount_0f7a4 43 = .ok (.bipush 16, 2) := by decide +kernel
theorem dJ6_bitCount_0f7a4_45 : decode cJ6_bitCount_0f7a4 45 = .ok (.iushr, 1) := by decide +kernel
theorem dJ6_bitCount_0f7a4_46 : decode cJ6_bitCount_0f7a4 46 = .ok (.iadd, 1) := by decide +kernel
theorem dJ6_bitCount_0f7a4_47 : decode cJ6_bitCount_0f7a4 47 = .ok (.istore_n 0, 1) := by decide +kernel
theorem dJ6_bitCount_0f7a4_48 : decode cJ6_bitCount_0f7a4 48 = .ok (.iload_n 0, 1) := by decide +kernel
theorem dJ6_bitCount_0f7a4_49 : decode cJ6_bitCount_0f7a4 49 = .ok (.bipush 63, 2) := by decide +kernel
theorem dJ6_bitCount_0f7a4_51 : decode cJ6_bitCount_0f7a4 51 = .ok (.iand, 1) := by decide +kernel
theorem dJ6_bitCount_0f7a4_52 : decode cJ6_bitCount_0f7a4 52 = .ok (.ireturn, 1) := by decide +kernel
theorem dJ9_max_7cf53_0 : decode cJ9_max_7cf53 0 = .ok (.iload_n 0, 1) := by decide +kernel
theorem dJ9_max_7cf53_1 : decode cJ9_max_7cf53 1 = .ok (.iload_n 1, 1) := by decide +kernel
theorem dJ9_max_7cf53_2 : decode cJ9_max_7cf53 2 = .ok (.if_icmp .lt 7, 3) := by decide +kernel
theorem dJ9_max_7cf53_5 : decode cJ9_max_7cf53 5 = .ok (.iload_n 0, 1) := by decide +kernel
theorem dJ9_max_7cf53_6 : decode cJ9_max_7cf53 6 = .ok (.goto 4, 3) := by decide +kernel
theorem dJ9_max_7cf53_9 : decode cJ9_max_7cf53 9 = .ok (.iload_n 1, 1) := by decide +kernel
theorem dJ9_max_7cf53_10 : decode cJ9_max_7cf53 10 = .ok (.ireturn, 1) := by decide +kernel
theorem dJ9_min_7cf53_0 : decode cJ9_min_7cf53 0 = .ok (.iload_n 0, 1) := by decide +kernel
theorem dJ9_min_7cf53_1 : decode cJ9_min_7cf53 1 = .ok (.iload_n 1, 1) := by decide +kernel
theorem dJ9_min_7cf53_2 : decode cJ9_min_7cf53 2 = .ok (.if_icmp .gt 7, 3) := by decide +kernel
theorem dJ9_min_7cf53_5 : decode cJ9_min_7cf53 5 = .ok (.iload_n 0, 1) := by decide +kernel
theorem dJ9_min_7cf53_6 : decode cJ9_min_7cf53 6 = .ok (.goto 4, 3) := by decide +kernel
theorem dJ9_min_7cf53_9 : decode cJ9_min_7cf53 9 = .ok (.iload_n 1, 1) := by decide +kernel
theorem dJ9_min_7cf53_10 : decode cJ9_min_7cf53 10 = .ok (.ireturn, 1) := by decide +kernel
theorem dL_law_0 : decode cL_law 0 = .ok (.new 7, 3) := by decide +kernel
theorem dL_law_3 : decode cL_law 3 = .ok (.dup, 1) := by decide +kernel
theorem dL_law_4 : decode cL_law 4 = .ok (.invokespecial 9, 3) := by decide +kernel
theorem dL_law_7 : decode cL_law 7 = .ok (.astore_n 1, 1) := by decide +kernel
theorem dL_law_8 : decode cL_law 8 = .ok (.new 10, 3) := by decide +kernel
theorem dL_law_11 : decode cL_law 11 = .ok (.dup, 1) := by decide +kernel
theorem dL_law_12 : decode cL_law 12 = .ok (.invokespecial 12, 3) := by decide +kernel
theorem dL_law_15 : decode cL_law 15 = .ok (.astore_n 2, 1) := by decide +kernel
theorem dL_law_16 : decode cL_law 16 = .ok (.iconst 0, 1) := by decide +kernel
theorem dL_law_17 : decode cL_law 17 = .ok (.istore_n 3, 1) := by decide +kernel
theorem dL_law_18 : decode cL_law 18 = .ok (.iload_n 3, 1) := by decide +kernel
theorem dL_law_19 : decode cL_law 19 = .ok (.aload_n 0, 1) := by decide +kernel
theorem dL_law_20 : decode cL_law 20 = .ok (.arraylength, 1) := by decide +kernel
theorem dL_law_21 : decode cL_law 21 = .ok (.iconst 4, 1) := by decide +kernel
theorem dL_law_22 : decode cL_law 22 = .ok (.isub, 1) := by decide +kernel
theorem dL_law_23 : decode cL_law 23 = .ok (.if_icmp .gt 957, 3) := by decide +kernel
theorem dL_law_26 : decode cL_law 26 = .ok (.aload_n 0, 1) := by decide +kernel
theorem dL_law_27 : decode cL_law 27 = .ok (.iload_n 3, 1) := by decide +kernel
theorem dL_law_28 : decode cL_law 28 = .ok (.iaload, 1) := by decide +kernel
theorem dL_law_29 : decode cL_law 29 = .ok (.bipush 31, 2) := by decide +kernel
theorem dL_law_31 : decode cL_law 31 = .ok (.iand, 1) := by decide +kernel
theorem dL_law_32 : decode cL_law 32 = .ok (.tableswitch 942 0 29 #[136, 199, 212, 225, 238, 271, 304, 327, 360, 393, 416, 439, 472, 495, 528, 561, 604, 627, 640, 663, 686, 699, 748, 781, 814, 827, 850, 893, 906, 919], 136) := by decide +kernel
theorem dL_law_168 : decode cL_law 168 = .ok (.aload_n 1, 1) := by decide +kernel
theorem dL_law_169 : decode cL_law 169 = .ok (.aload_n 0, 1) := by decide +kernel
theorem dL_law_170 : decode cL_law 170 = .ok (.iload_n 3, 1) := by decide +kernel
theorem dL_law_171 : decode cL_law 171 = .ok (.iconst 1, 1) := by decide +kernel
theorem dL_law_172 : decode cL_law 172 = .ok (.iadd, 1) := by decide +kernel
theorem dL_law_173 : decode cL_law 173 = .ok (.iaload, 1) := by decide +kernel
theorem dL_law_174 : decode cL_law 174 = .ok (.aload_n 0, 1) := by decide +kernel
theorem dL_law_175 : decode cL_law 175 = .ok (.iload_n 3, 1) := by decide +kernel
theorem dL_law_176 : decode cL_law 176 = .ok (.iconst 2, 1) := by decide +kernel
theorem dL_law_177 : decode cL_law 177 = .ok (.iadd, 1) := by decide +kernel
theorem dL_law_178 : decode cL_law 178 = .ok (.iaload, 1) := by decide +kernel
theorem dL_law_179 : decode cL_law 179 = .ok (.i2l, 1) := by decide +kernel
theorem dL_law_180 : decode cL_law 180 = .ok (.bipush 32, 2) := by decide +kernel
theorem dL_law_182 : decode cL_law 182 = .ok (.lshl, 1) := by decide +kernel
theorem dL_law_183 : decode cL_law 183 = .ok (.aload_n 0, 1) := by decide +kernel
theorem dL_law_184 : decode cL_law 184 = .ok (.iload_n 3, 1) := by decide +kernel
theorem dL_law_185 : decode cL_law 185 = .ok (.iconst 3, 1) := by decide +kernel
theorem dL_law_186 : decode cL_law 186 = .ok (.iadd, 1) := by decide +kernel
theorem dL_law_187 : decode cL_law 187 = .ok (.iaload, 1) := by decide +kernel
theorem dL_law_188 : decode cL_law 188 = .ok (.i2l, 1) := by decide +kernel
theorem dL_law_189 : decode cL_law 189 = .ok (.ldc2_w 13, 3) := by decide +kernel
theorem dL_law_192 : decode cL_law 192 = .ok (.land, 1) := by decide +kernel
theorem dL_law_193 : decode cL_law 193 = .ok (.lor, 1) := by decide +kernel
theorem dL_law_194 : decode cL_law 194 = .ok (.invokevirtual 15, 3) := by decide +kernel
theorem dL_law_197 : decode cL_law 197 = .ok (.aload_n 2, 1) := by decide +kernel
theorem dL_law_198 : decode cL_law 198 = .ok (.aload_n 0, 1) := by decide +kernel
theorem dL_law_199 : decode cL_law 199 = .ok (.iload_n 3, 1) := by decide +kernel
theorem dL_law_200 : decode cL_law 200 = .ok (.iconst 1, 1) := by decide +kernel
theorem dL_law_201 : decode cL_law 201 = .ok (.iadd, 1) := by decide +kernel
theorem dL_law_202 : decode cL_law 202 = .ok (.iaload, 1) := by decide +kernel
theorem dL_law_203 : decode cL_law 203 = .ok (.aload_n 0, 1) := by decide +kernel
theorem dL_law_204 : decode cL_law 204 = .ok (.iload_n 3, 1) := by decide +kernel
theorem dL_law_205 : decode cL_law 205 = .ok (.iconst 2, 1) := by decide +kernel
theorem dL_law_206 : decode cL_law 206 = .ok (.iadd, 1) := by decide +kernel
theorem dL_law_207 : decode cL_law 207 = .ok (.iaload, 1) := by decide +kernel
theorem dL_law_208 : decode cL_law 208 = .ok (.i2l, 1) := by decide +kernel
theorem dL_law_209 : decode cL_law 209 = .ok (.bipush 32, 2) := by decide +kernel
theorem dL_law_211 : decode cL_law 211 = .ok (.lshl, 1) := by decide +kernel
theorem dL_law_212 : decode cL_law 212 = .ok (.aload_n 0, 1) := by decide +kernel
theorem dL_law_213 : decode cL_law 213 = .ok (.iload_n 3, 1) := by decide +kernel
theorem dL_law_214 : decode cL_law 214 = .ok (.iconst 3, 1) := by decide +kernel
theorem dL_law_215 : decode cL_law 215 = .ok (.iadd, 1) := by decide +kernel
theorem dL_law_216 : decode cL_law 216 = .ok (.iaload, 1) := by decide +kernel
theorem dL_law_217 : decode cL_law 217 = .ok (.i2l, 1) := by decide +kernel
theorem dL_law_218 : decode cL_law 218 = .ok (.ldc2_w 13, 3) := by decide +kernel
theorem dL_law_221 : decode cL_law 221 = .ok (.land, 1) := by decide +kernel
theorem dL_law_222 : decode cL_law 222 = .ok (.lor, 1) := by decide +kernel
theorem dL_law_223 : decode cL_law 223 = .ok (.invokevirtual 19, 3) := by decide +kernel
theorem dL_law_226 : decode cL_law 226 = .ok (.if_icmp .eq 748, 3) := by decide +kernel
theorem dL_law_229 : decode cL_law 229 = .ok (.iconst 0, 1) := by decide +kernel
theorem dL_law_230 : decode cL_law 230 = .ok (.ireturn, 1) := by decide +kernel
theorem dL_law_231 : decode cL_law 231 = .ok (.aload_n 1, 1) := by decide +kernel
theorem dL_law_232 : decode cL_law 232 = .ok (.invokevirtual 20, 3) := by decide +kernel
theorem dL_law_235 : decode cL_law 235 = .ok (.aload_n 2, 1) := by decide +kernel
theorem dL_law_236 : decode cL_law 236 = .ok (.invokevirtual 24, 3) := by decide +kernel
theorem dL_law_239 : decode cL_law 239 = .ok (.if_icmp .eq 735, 3) := by decide +kernel
theorem dL_law_242 : decode cL_law 242 = .ok (.iconst 0, 1) := by decide +kernel
theorem dL_law_243 : decode cL_law 243 = .ok (.ireturn, 1) := by decide +kernel
theorem dL_law_244 : decode cL_law 244 = .ok (.aload_n 1, 1) := by decide +kernel
theorem dL_law_245 : decode cL_law 245 = .ok (.invokevirtual 25, 3) := by decide +kernel
theorem dL_law_248 : decode cL_law 248 = .ok (.aload_n 2, 1) := by decide +kernel
theorem dL_law_249 : decode cL_law 249 = .ok (.invokevirtual 28, 3) := by decide +kernel
theorem dL_law_252 : decode cL_law 252 = .ok (.if_icmp .eq 722, 3) := by decide +kernel
theorem dL_law_255 : decode cL_law 255 = .ok (.iconst 0, 1) := by decide +kernel
theorem dL_law_256 : decode cL_law 256 = .ok (.ireturn, 1) := by decide +kernel
theorem dL_law_257 : decode cL_law 257 = .ok (.aload_n 1, 1) := by decide +kernel
theorem dL_law_258 : decode cL_law 258 = .ok (.invokevirtual 29, 3) := by decide +kernel
theorem dL_law_261 : decode cL_law 261 = .ok (.aload_n 2, 1) := by decide +kernel
theorem dL_law_262 : decode cL_law 262 = .ok (.invokevirtual 32, 3) := by decide +kernel
theorem dL_law_265 : decode cL_law 265 = .ok (.if_icmp .eq 709, 3) := by decide +kernel
theorem dL_law_268 : decode cL_law 268 = .ok (.iconst 0, 1) := by decide +kernel
theorem dL_law_269 : decode cL_law 269 = .ok (.ireturn, 1) := by decide +kernel
theorem dL_law_270 : decode cL_law 270 = .ok (.aload_n 1, 1) := by decide +kernel
theorem dL_law_271 : decode cL_law 271 = .ok (.aload_n 0, 1) := by decide +kernel
theorem dL_law_272 : decode cL_law 272 = .ok (.iload_n 3, 1) := by decide +kernel
theorem dL_law_273 : decode cL_law 273 = .ok (.iconst 1, 1) := by decide +kernel
theorem dL_law_274 : decode cL_law 274 = .ok (.iadd, 1) := by decide +kernel
theorem dL_law_275 : decode cL_law 275 = .ok (.iaload, 1) := by decide +kernel
theorem dL_law_276 : decode cL_law 276 = .ok (.aload_n 0, 1) := by decide +kernel
theorem dL_law_277 : decode cL_law 277 = .ok (.iload_n 3, 1) := by decide +kernel
theorem dL_law_278 : decode cL_law 278 = .ok (.iconst 2, 1) := by decide +kernel
theorem dL_law_279 : decode cL_law 279 = .ok (.iadd, 1) := by decide +kernel
theorem dL_law_280 : decode cL_law 280 = .ok (.iaload, 1) := by decide +kernel
theorem dL_law_281 : decode cL_law 281 = .ok (.invokevirtual 33, 3) := by decide +kernel
theorem dL_law_284 : decode cL_law 284 = .ok (.aload_n 2, 1) := by decide +kernel
theorem dL_law_285 : decode cL_law 285 = .ok (.aload_n 0, 1) := by decide +kernel
theorem dL_law_286 : decode cL_law 286 = .ok (.iload_n 3, 1) := by decide +kernel
theorem dL_law_287 : decode cL_law 287 = .ok (.iconst 1, 1) := by decide +kernel
theorem dL_law_288 : decode cL_law 288 = .ok (.iadd, 1) := by decide +kernel
theorem dL_law_289 : decode cL_law 289 = .ok (.iaload, 1) := by decide +kernel
theorem dL_law_290 : decode cL_law 290 = .ok (.aload_n 0, 1) := by decide +kernel
theorem dL_law_291 : decode cL_law 291 = .ok (.iload_n 3, 1) := by decide +kernel
theorem dL_law_292 : decode cL_law 292 = .ok (.iconst 2, 1) := by decide +kernel
theorem dL_law_293 : decode cL_law 293 = .ok (.iadd, 1) := by decide +kernel
theorem dL_law_294 : decode cL_law 294 = .ok (.iaload, 1) := by decide +kernel
theorem dL_law_295 : decode cL_law 295 = .ok (.invokevirtual 37, 3) := by decide +kernel
theorem dL_law_298 : decode cL_law 298 = .ok (.if_icmp .eq 676, 3) := by decide +kernel
theorem dL_law_301 : decode cL_law 301 = .ok (.iconst 0, 1) := by decide +kernel
theorem dL_law_302 : decode cL_law 302 = .ok (.ireturn, 1) := by decide +kernel
theorem dL_law_303 : decode cL_law 303 = .ok (.aload_n 1, 1) := by decide +kernel
theorem dL_law_304 : decode cL_law 304 = .ok (.aload_n 0, 1) := by decide +kernel
theorem dL_law_305 : decode cL_law 305 = .ok (.iload_n 3, 1) := by decide +kernel
theorem dL_law_306 : decode cL_law 306 = .ok (.iconst 1, 1) := by decide +kernel
theorem dL_law_307 : decode cL_law 307 = .ok (.iadd, 1) := by decide +kernel
theorem dL_law_308 : decode cL_law 308 = .ok (.iaload, 1) := by decide +kernel
theorem dL_law_309 : decode cL_law 309 = .ok (.aload_n 0, 1) := by decide +kernel
theorem dL_law_310 : decode cL_law 310 = .ok (.iload_n 3, 1) := by decide +kernel
theorem dL_law_311 : decode cL_law 311 = .ok (.iconst 2, 1) := by decide +kernel
theorem dL_law_312 : decode cL_law 312 = .ok (.iadd, 1) := by decide +kernel
theorem dL_law_313 : decode cL_law 313 = .ok (.iaload, 1) := by decide +kernel
theorem dL_law_314 : decode cL_law 314 = .ok (.invokevirtual 38, 3) := by decide +kernel
theorem dL_law_317 : decode cL_law 317 = .ok (.aload_n 2, 1) := by decide +kernel
theorem dL_law_318 : decode cL_law 318 = .ok (.aload_n 0, 1) := by decide +kernel
theorem dL_law_319 : decode cL_law 319 = .ok (.iload_n 3, 1) := by decide +kernel
theorem dL_law_320 : decode cL_law 320 = .ok (.iconst 1, 1) := by decide +kernel
theorem dL_law_321 : decode cL_law 321 = .ok (.iadd, 1) := by decide +kernel
theorem dL_law_322 : decode cL_law 322 = .ok (.iaload, 1) := by decide +kernel
theorem dL_law_323 : decode cL_law 323 = .ok (.aload_n 0, 1) := by decide +kernel
theorem dL_law_324 : decode cL_law 324 = .ok (.iload_n 3, 1) := by decide +kernel
theorem dL_law_325 : decode cL_law 325 = .ok (.iconst 2, 1) := by decide +kernel
theorem dL_law_326 : decode cL_law 326 = .ok (.iadd, 1) := by decide +kernel
theorem dL_law_327 : decode cL_law 327 = .ok (.iaload, 1) := by decide +kernel
theorem dL_law_328 : decode cL_law 328 = .ok (.invokevirtual 41, 3) := by decide +kernel
theorem dL_law_331 : decode cL_law 331 = .ok (.if_icmp .eq 643, 3) := by decide +kernel
theorem dL_law_334 : decode cL_law 334 = .ok (.iconst 0, 1) := by decide +kernel
theorem dL_law_335 : decode cL_law 335 = .ok (.ireturn, 1) := by decide +kernel
theorem dL_law_336 : decode cL_law 336 = .ok (.aload_n 1, 1) := by decide +kernel
theorem dL_law_337 : decode cL_law 337 = .ok (.aload_n 0, 1) := by decide +kernel
theorem dL_law_338 : decode cL_law 338 = .ok (.iload_n 3, 1) := by decide +kernel
theorem dL_law_339 : decode cL_law 339 = .ok (.iconst 1, 1) := by decide +kernel
theorem dL_law_340 : decode cL_law 340 = .ok (.iadd, 1) := by decide +kernel
theorem dL_law_341 : decode cL_law 341 = .ok (.iaload, 1) := by decide +kernel
theorem dL_law_342 : decode cL_law 342 = .ok (.invokevirtual 42, 3) := by decide +kernel
theorem dL_law_345 : decode cL_law 345 = .ok (.aload_n 2, 1) := by decide +kernel
theorem dL_law_346 : decode cL_law 346 = .ok (.aload_n 0, 1) := by decide +kernel
theorem dL_law_347 : decode cL_law 347 = .ok (.iload_n 3, 1) := by decide +kernel
theorem dL_law_348 : decode cL_law 348 = .ok (.iconst 1, 1) := by decide +kernel
theorem dL_law_349 : decode cL_law 349 = .ok (.iadd, 1) := by decide +kernel
theorem dL_law_350 : decode cL_law 350 = .ok (.iaload, 1) := by decide +kernel
theorem dL_law_351 : decode cL_law 351 = .ok (.invokevirtual 46, 3) := by decide +kernel
theorem dL_law_354 : decode cL_law 354 = .ok (.if_icmp .eq 620, 3) := by decide +kernel
theorem dL_law_357 : decode cL_law 357 = .ok (.iconst 0, 1) := by decide +kernel
theorem dL_law_358 : decode cL_law 358 = .ok (.ireturn, 1) := by decide +kernel
theorem dL_law_359 : decode cL_law 359 = .ok (.aload_n 1, 1) := by decide +kernel
theorem dL_law_360 : decode cL_law 360 = .ok (.aload_n 0, 1) := by decide +kernel
theorem dL_law_361 : decode cL_law 361 = .ok (.iload_n 3, 1) := by decide +kernel
theorem dL_law_362 : decode cL_law 362 = .ok (.iconst 1, 1) := by decide +kernel
theorem dL_law_363 : decode cL_law 363 = .ok (.iadd, 1) := by decide +kernel
theorem dL_law_364 : decode cL_law 364 = .ok (.iaload, 1) := by decide +kernel
theorem dL_law_365 : decode cL_law 365 = .ok (.aload_n 0, 1) := by decide +kernel
theorem dL_law_366 : decode cL_law 366 = .ok (.iload_n 3, 1) := by decide +kernel
theorem dL_law_367 : decode cL_law 367 = .ok (.iconst 2, 1) := by decide +kernel
theorem dL_law_368 : decode cL_law 368 = .ok (.iadd, 1) := by decide +kernel
theorem dL_law_369 : decode cL_law 369 = .ok (.iaload, 1) := by decide +kernel
theorem dL_law_370 : decode cL_law 370 = .ok (.invokevirtual 47, 3) := by decide +kernel
theorem dL_law_373 : decode cL_law 373 = .ok (.aload_n 2, 1) := by decide +kernel
theorem dL_law_374 : decode cL_law 374 = .ok (.aload_n 0, 1) := by decide +kernel
theorem dL_law_375 : decode cL_law 375 = .ok (.iload_n 3, 1) := by decide +kernel
theorem dL_law_376 : decode cL_law 376 = .ok (.iconst 1, 1) := by decide +kernel
theorem dL_law_377 : decode cL_law 377 = .ok (.iadd, 1) := by decide +kernel
theorem dL_law_378 : decode cL_law 378 = .ok (.iaload, 1) := by decide +kernel
theorem dL_law_379 : decode cL_law 379 = .ok (.aload_n 0, 1) := by decide +kernel
theorem dL_law_380 : decode cL_law 380 = .ok (.iload_n 3, 1) := by decide +kernel
theorem dL_law_381 : decode cL_law 381 = .ok (.iconst 2, 1) := by decide +kernel
theorem dL_law_382 : decode cL_law 382 = .ok (.iadd, 1) := by decide +kernel
theorem dL_law_383 : decode cL_law 383 = .ok (.iaload, 1) := by decide +kernel
theorem dL_law_384 : decode cL_law 384 = .ok (.invokevirtual 50, 3) := by decide +kernel
theorem dL_law_387 : decode cL_law 387 = .ok (.if_icmp .eq 587, 3) := by decide +kernel
theorem dL_law_390 : decode cL_law 390 = .ok (.iconst 0, 1) := by decide +kernel
theorem dL_law_391 : decode cL_law 391 = .ok (.ireturn, 1) := by decide +kernel
theorem dL_law_392 : decode cL_law 392 = .ok (.aload_n 1, 1) := by decide +kernel
theorem dL_law_393 : decode cL_law 393 = .ok (.aload_n 0, 1) := by decide +kernel
theorem dL_law_394 : decode cL_law 394 = .ok (.iload_n 3, 1) := by decide +kernel
theorem dL_law_395 : decode cL_law 395 = .ok (.iconst 1, 1) := by decide +kernel
theorem dL_law_396 : decode cL_law 396 = .ok (.iadd, 1) := by decide +kernel
theorem dL_law_397 : decode cL_law 397 = .ok (.iaload, 1) := by decide +kernel
theorem dL_law_398 : decode cL_law 398 = .ok (.aload_n 0, 1) := by decide +kernel
theorem dL_law_399 : decode cL_law 399 = .ok (.iload_n 3, 1) := by decide +kernel
theorem dL_law_400 : decode cL_law 400 = .ok (.iconst 2, 1) := by decide +kernel
theorem dL_law_401 : decode cL_law 401 = .ok (.iadd, 1) := by decide +kernel
theorem dL_law_402 : decode cL_law 402 = .ok (.iaload, 1) := by decide +kernel
theorem dL_law_403 : decode cL_law 403 = .ok (.invokevirtual 51, 3) := by decide +kernel
theorem dL_law_406 : decode cL_law 406 = .ok (.aload_n 2, 1) := by decide +kernel
theorem dL_law_407 : decode cL_law 407 = .ok (.aload_n 0, 1) := by decide +kernel
theorem dL_law_408 : decode cL_law 408 = .ok (.iload_n 3, 1) := by decide +kernel
theorem dL_law_409 : decode cL_law 409 = .ok (.iconst 1, 1) := by decide +kernel
theorem dL_law_410 : decode cL_law 410 = .ok (.iadd, 1) := by decide +kernel
theorem dL_law_411 : decode cL_law 411 = .ok (.iaload, 1) := by decide +kernel
theorem dL_law_412 : decode cL_law 412 = .ok (.aload_n 0, 1) := by decide +kernel
theorem dL_law_413 : decode cL_law 413 = .ok (.iload_n 3, 1) := by decide +kernel
theorem dL_law_414 : decode cL_law 414 = .ok (.iconst 2, 1) := by decide +kernel
theorem dL_law_415 : decode cL_law 415 = .ok (.iadd, 1) := by decide +kernel
theorem dL_law_416 : decode cL_law 416 = .ok (.iaload, 1) := by decide +kernel
theorem dL_law_417 : decode cL_law 417 = .ok (.invokevirtual 54, 3) := by decide +kernel
theorem dL_law_420 : decode cL_law 420 = .ok (.if_icmp .eq 554, 3) := by decide +kernel
theorem dL_law_423 : decode cL_law 423 = .ok (.iconst 0, 1) := by decide +kernel
theorem dL_law_424 : decode cL_law 424 = .ok (.ireturn, 1) := by decide +kernel
theorem dL_law_425 : decode cL_law 425 = .ok (.aload_n 1, 1) := by decide +kernel
theorem dL_law_426 : decode cL_law 426 = .ok (.aload_n 0, 1) := by decide +kernel
theorem dL_law_427 : decode cL_law 427 = .ok (.iload_n 3, 1) := by decide +kernel
theorem dL_law_428 : decode cL_law 428 = .ok (.iconst 1, 1) := by decide +kernel
theorem dL_law_429 : decode cL_law 429 = .ok (.iadd, 1) := by decide +kernel
theorem dL_law_430 : decode cL_law 430 = .ok (.iaload, 1) := by decide +kernel
theorem dL_law_431 : decode cL_law 431 = .ok (.invokevirtual 55, 3) := by decide +kernel
theorem dL_law_434 : decode cL_law 434 = .ok (.aload_n 2, 1) := by decide +kernel
theorem dL_law_435 : decode cL_law 435 = .ok (.aload_n 0, 1) := by decide +kernel
theorem dL_law_436 : decode cL_law 436 = .ok (.iload_n 3, 1) := by decide +kernel
theorem dL_law_437 : decode cL_law 437 = .ok (.iconst 1, 1) := by decide +kernel
theorem dL_law_438 : decode cL_law 438 = .ok (.iadd, 1) := by decide +kernel
theorem dL_law_439 : decode cL_law 439 = .ok (.iaload, 1) := by decide +kernel
theorem dL_law_440 : decode cL_law 440 = .ok (.invokevirtual 58, 3) := by decide +kernel
theorem dL_law_443 : decode cL_law 443 = .ok (.if_icmp .eq 531, 3) := by decide +kernel
theorem dL_law_446 : decode cL_law 446 = .ok (.iconst 0, 1) := by decide +kernel
theorem dL_law_447 : decode cL_law 447 = .ok (.ireturn, 1) := by decide +kernel
theorem dL_law_448 : decode cL_law 448 = .ok (.aload_n 1, 1) := by decide +kernel
theorem dL_law_449 : decode cL_law 449 = .ok (.aload_n 0, 1) := by decide +kernel
theorem dL_law_450 : decode cL_law 450 = .ok (.iload_n 3, 1) := by decide +kernel
theorem dL_law_451 : decode cL_law 451 = .ok (.iconst 1, 1) := by decide +kernel
theorem dL_law_452 : decode cL_law 452 = .ok (.iadd, 1) := by decide +kernel
theorem dL_law_453 : decode cL_law 453 = .ok (.iaload, 1) := by decide +kernel
theorem dL_law_454 : decode cL_law 454 = .ok (.invokevirtual 59, 3) := by decide +kernel
theorem dL_law_457 : decode cL_law 457 = .ok (.aload_n 2, 1) := by decide +kernel
theorem dL_law_458 : decode cL_law 458 = .ok (.aload_n 0, 1) := by decide +kernel
theorem dL_law_459 : decode cL_law 459 = .ok (.iload_n 3, 1) := by decide +kernel
theorem dL_law_460 : decode cL_law 460 = .ok (.iconst 1, 1) := by decide +kernel
theorem dL_law_461 : decode cL_law 461 = .ok (.iadd, 1) := by decide +kernel
theorem dL_law_462 : decode cL_law 462 = .ok (.iaload, 1) := by decide +kernel
theorem dL_law_463 : decode cL_law 463 = .ok (.invokevirtual 62, 3) := by decide +kernel
theorem dL_law_466 : decode cL_law 466 = .ok (.if_icmp .eq 508, 3) := by decide +kernel
theorem dL_law_469 : decode cL_law 469 = .ok (.iconst 0, 1) := by decide +kernel
theorem dL_law_470 : decode cL_law 470 = .ok (.ireturn, 1) := by decide +kernel
theorem dL_law_471 : decode cL_law 471 = .ok (.aload_n 1, 1) := by decide +kernel
theorem dL_law_472 : decode cL_law 472 = .ok (.aload_n 0, 1) := by decide +kernel
theorem dL_law_473 : decode cL_law 473 = .ok (.iload_n 3, 1) := by decide +kernel
theorem dL_law_474 : decode cL_law 474 = .ok (.iconst 1, 1) := by decide +kernel
theorem dL_law_475 : decode cL_law 475 = .ok (.iadd, 1) := by decide +kernel
theorem dL_law_476 : decode cL_law 476 = .ok (.iaload, 1) := by decide +kernel
theorem dL_law_477 : decode cL_law 477 = .ok (.aload_n 0, 1) := by decide +kernel
theorem dL_law_478 : decode cL_law 478 = .ok (.iload_n 3, 1) := by decide +kernel
theorem dL_law_479 : decode cL_law 479 = .ok (.iconst 2, 1) := by decide +kernel
theorem dL_law_480 : decode cL_law 480 = .ok (.iadd, 1) := by decide +kernel
theorem dL_law_481 : decode cL_law 481 = .ok (.iaload, 1) := by decide +kernel
theorem dL_law_482 : decode cL_law 482 = .ok (.invokevirtual 63, 3) := by decide +kernel
theorem dL_law_485 : decode cL_law 485 = .ok (.aload_n 2, 1) := by decide +kernel
theorem dL_law_486 : decode cL_law 486 = .ok (.aload_n 0, 1) := by decide +kernel
theorem dL_law_487 : decode cL_law 487 = .ok (.iload_n 3, 1) := by decide +kernel
theorem dL_law_488 : decode cL_law 488 = .ok (.iconst 1, 1) := by decide +kernel
theorem dL_law_489 : decode cL_law 489 = .ok (.iadd, 1) := by decide +kernel
theorem dL_law_490 : decode cL_law 490 = .ok (.iaload, 1) := by decide +kernel
theorem dL_law_491 : decode cL_law 491 = .ok (.aload_n 0, 1) := by decide +kernel
theorem dL_law_492 : decode cL_law 492 = .ok (.iload_n 3, 1) := by decide +kernel
theorem dL_law_493 : decode cL_law 493 = .ok (.iconst 2, 1) := by decide +kernel
theorem dL_law_494 : decode cL_law 494 = .ok (.iadd, 1) := by decide +kernel
theorem dL_law_495 : decode cL_law 495 = .ok (.iaload, 1) := by decide +kernel
theorem dL_law_496 : decode cL_law 496 = .ok (.invokevirtual 66, 3) := by decide +kernel
theorem dL_law_499 : decode cL_law 499 = .ok (.if_icmp .eq 475, 3) := by decide +kernel
theorem dL_law_502 : decode cL_law 502 = .ok (.iconst 0, 1) := by decide +kernel
theorem dL_law_503 : decode cL_law 503 = .ok (.ireturn, 1) := by decide +kernel
theorem dL_law_504 : decode cL_law 504 = .ok (.aload_n 1, 1) := by decide +kernel
theorem dL_law_505 : decode cL_law 505 = .ok (.aload_n 0, 1) := by decide +kernel
theorem dL_law_506 : decode cL_law 506 = .ok (.iload_n 3, 1) := by decide +kernel
theorem dL_law_507 : decode cL_law 507 = .ok (.iconst 1, 1) := by decide +kernel
theorem dL_law_508 : decode cL_law 508 = .ok (.iadd, 1) := by decide +kernel
theorem dL_law_509 : decode cL_law 509 = .ok (.iaload, 1) := by decide +kernel
theorem dL_law_510 : decode cL_law 510 = .ok (.invokevirtual 67, 3) := by decide +kernel
theorem dL_law_513 : decode cL_law 513 = .ok (.aload_n 2, 1) := by decide +kernel
theorem dL_law_514 : decode cL_law 514 = .ok (.aload_n 0, 1) := by decide +kernel
theorem dL_law_515 : decode cL_law 515 = .ok (.iload_n 3, 1) := by decide +kernel
theorem dL_law_516 : decode cL_law 516 = .ok (.iconst 1, 1) := by decide +kernel
theorem dL_law_517 : decode cL_law 517 = .ok (.iadd, 1) := by decide +kernel
theorem dL_law_518 : decode cL_law 518 = .ok (.iaload, 1) := by decide +kernel
theorem dL_law_519 : decode cL_law 519 = .ok (.invokevirtual 70, 3) := by decide +kernel
theorem dL_law_522 : decode cL_law 522 = .ok (.if_icmp .eq 452, 3) := by decide +kernel
theorem dL_law_525 : decode cL_law 525 = .ok (.iconst 0, 1) := by decide +kernel
theorem dL_law_526 : decode cL_law 526 = .ok (.ireturn, 1) := by decide +kernel
theorem dL_law_527 : decode cL_law 527 = .ok (.aload_n 1, 1) := by decide +kernel
theorem dL_law_528 : decode cL_law 528 = .ok (.aload_n 0, 1) := by decide +kernel
theorem dL_law_529 : decode cL_law 529 = .ok (.iload_n 3, 1) := by decide +kernel
theorem dL_law_530 : decode cL_law 530 = .ok (.iconst 1, 1) := by decide +kernel
theorem dL_law_531 : decode cL_law 531 = .ok (.iadd, 1) := by decide +kernel
theorem dL_law_532 : decode cL_law 532 = .ok (.iaload, 1) := by decide +kernel
theorem dL_law_533 : decode cL_law 533 = .ok (.aload_n 0, 1) := by decide +kernel
theorem dL_law_534 : decode cL_law 534 = .ok (.iload_n 3, 1) := by decide +kernel
theorem dL_law_535 : decode cL_law 535 = .ok (.iconst 2, 1) := by decide +kernel
theorem dL_law_536 : decode cL_law 536 = .ok (.iadd, 1) := by decide +kernel
theorem dL_law_537 : decode cL_law 537 = .ok (.iaload, 1) := by decide +kernel
theorem dL_law_538 : decode cL_law 538 = .ok (.invokevirtual 71, 3) := by decide +kernel
theorem dL_law_541 : decode cL_law 541 = .ok (.aload_n 2, 1) := by decide +kernel
theorem dL_law_542 : decode cL_law 542 = .ok (.aload_n 0, 1) := by decide +kernel
theorem dL_law_543 : decode cL_law 543 = .ok (.iload_n 3, 1) := by decide +kernel
theorem dL_law_544 : decode cL_law 544 = .ok (.iconst 1, 1) := by decide +kernel
theorem dL_law_545 : decode cL_law 545 = .ok (.iadd, 1) := by decide +kernel
theorem dL_law_546 : decode cL_law 546 = .ok (.iaload, 1) := by decide +kernel
theorem dL_law_547 : decode cL_law 547 = .ok (.aload_n 0, 1) := by decide +kernel
theorem dL_law_548 : decode cL_law 548 = .ok (.iload_n 3, 1) := by decide +kernel
theorem dL_law_549 : decode cL_law 549 = .ok (.iconst 2, 1) := by decide +kernel
theorem dL_law_550 : decode cL_law 550 = .ok (.iadd, 1) := by decide +kernel
theorem dL_law_551 : decode cL_law 551 = .ok (.iaload, 1) := by decide +kernel
theorem dL_law_552 : decode cL_law 552 = .ok (.invokevirtual 74, 3) := by decide +kernel
theorem dL_law_555 : decode cL_law 555 = .ok (.if_icmp .eq 419, 3) := by decide +kernel
theorem dL_law_558 : decode cL_law 558 = .ok (.iconst 0, 1) := by decide +kernel
theorem dL_law_559 : decode cL_law 559 = .ok (.ireturn, 1) := by decide +kernel
theorem dL_law_560 : decode cL_law 560 = .ok (.aload_n 1, 1) := by decide +kernel
theorem dL_law_561 : decode cL_law 561 = .ok (.aload_n 0, 1) := by decide +kernel
theorem dL_law_562 : decode cL_law 562 = .ok (.iload_n 3, 1) := by decide +kernel
theorem dL_law_563 : decode cL_law 563 = .ok (.iconst 1, 1) := by decide +kernel
theorem dL_law_564 : decode cL_law 564 = .ok (.iadd, 1) := by decide +kernel
theorem dL_law_565 : decode cL_law 565 = .ok (.iaload, 1) := by decide +kernel
theorem dL_law_566 : decode cL_law 566 = .ok (.aload_n 0, 1) := by decide +kernel
theorem dL_law_567 : decode cL_law 567 = .ok (.iload_n 3, 1) := by decide +kernel
theorem dL_law_568 : decode cL_law 568 = .ok (.iconst 2, 1) := by decide +kernel
theorem dL_law_569 : decode cL_law 569 = .ok (.iadd, 1) := by decide +kernel
theorem dL_law_570 : decode cL_law 570 = .ok (.iaload, 1) := by decide +kernel
theorem dL_law_571 : decode cL_law 571 = .ok (.invokevirtual 75, 3) := by decide +kernel
theorem dL_law_574 : decode cL_law 574 = .ok (.aload_n 2, 1) := by decide +kernel
theorem dL_law_575 : decode cL_law 575 = .ok (.aload_n 0, 1) := by decide +kernel
theorem dL_law_576 : decode cL_law 576 = .ok (.iload_n 3, 1) := by decide +kernel
theorem dL_law_577 : decode cL_law 577 = .ok (.iconst 1, 1) := by decide +kernel
theorem dL_law_578 : decode cL_law 578 = .ok (.iadd, 1) := by decide +kernel
theorem dL_law_579 : decode cL_law 579 = .ok (.iaload, 1) := by decide +kernel
theorem dL_law_580 : decode cL_law 580 = .ok (.aload_n 0, 1) := by decide +kernel
theorem dL_law_581 : decode cL_law 581 = .ok (.iload_n 3, 1) := by decide +kernel
theorem dL_law_582 : decode cL_law 582 = .ok (.iconst 2, 1) := by decide +kernel
theorem dL_law_583 : decode cL_law 583 = .ok (.iadd, 1) := by decide +kernel
theorem dL_law_584 : decode cL_law 584 = .ok (.iaload, 1) := by decide +kernel
theorem dL_law_585 : decode cL_law 585 = .ok (.invokevirtual 78, 3) := by decide +kernel
theorem dL_law_588 : decode cL_law 588 = .ok (.if_icmp .eq 386, 3) := by decide +kernel
theorem dL_law_591 : decode cL_law 591 = .ok (.iconst 0, 1) := by decide +kernel
theorem dL_law_592 : decode cL_law 592 = .ok (.ireturn, 1) := by decide +kernel
theorem dL_law_593 : decode cL_law 593 = .ok (.aload_n 1, 1) := by decide +kernel
theorem dL_law_594 : decode cL_law 594 = .ok (.aload_n 0, 1) := by decide +kernel
theorem dL_law_595 : decode cL_law 595 = .ok (.iload_n 3, 1) := by decide +kernel
theorem dL_law_596 : decode cL_law 596 = .ok (.iconst 1, 1) := by decide +kernel
theorem dL_law_597 : decode cL_law 597 = .ok (.iadd, 1) := by decide +kernel
theorem dL_law_598 : decode cL_law 598 = .ok (.iaload, 1) := by decide +kernel
theorem dL_law_599 : decode cL_law 599 = .ok (.aload_n 0, 1) := by decide +kernel
theorem dL_law_600 : decode cL_law 600 = .ok (.iload_n 3, 1) := by decide +kernel
theorem dL_law_601 : decode cL_law 601 = .ok (.iconst 2, 1) := by decide +kernel
theorem dL_law_602 : decode cL_law 602 = .ok (.iadd, 1) := by decide +kernel
theorem dL_law_603 : decode cL_law 603 = .ok (.iaload, 1) := by decide +kernel
theorem dL_law_604 : decode cL_law 604 = .ok (.aload_n 0, 1) := by decide +kernel
theorem dL_law_605 : decode cL_law 605 = .ok (.iload_n 3, 1) := by decide +kernel
theorem dL_law_606 : decode cL_law 606 = .ok (.iconst 3, 1) := by decide +kernel
theorem dL_law_607 : decode cL_law 607 = .ok (.iadd, 1) := by decide +kernel
theorem dL_law_608 : decode cL_law 608 = .ok (.iaload, 1) := by decide +kernel
theorem dL_law_609 : decode cL_law 609 = .ok (.invokevirtual 79, 3) := by decide +kernel
theorem dL_law_612 : decode cL_law 612 = .ok (.aload_n 2, 1) := by decide +kernel
theorem dL_law_613 : decode cL_law 613 = .ok (.aload_n 0, 1) := by decide +kernel
theorem dL_law_614 : decode cL_law 614 = .ok (.iload_n 3, 1) := by decide +kernel
theorem dL_law_615 : decode cL_law 615 = .ok (.iconst 1, 1) := by decide +kernel
theorem dL_law_616 : decode cL_law 616 = .ok (.iadd, 1) := by decide +kernel
theorem dL_law_617 : decode cL_law 617 = .ok (.iaload, 1) := by decide +kernel
theorem dL_law_618 : decode cL_law 618 = .ok (.aload_n 0, 1) := by decide +kernel
theorem dL_law_619 : decode cL_law 619 = .ok (.iload_n 3, 1) := by decide +kernel
theorem dL_law_620 : decode cL_law 620 = .ok (.iconst 2, 1) := by decide +kernel
theorem dL_law_621 : decode cL_law 621 = .ok (.iadd, 1) := by decide +kernel
theorem dL_law_622 : decode cL_law 622 = .ok (.iaload, 1) := by decide +kernel
theorem dL_law_623 : decode cL_law 623 = .ok (.aload_n 0, 1) := by decide +kernel
theorem dL_law_624 : decode cL_law 624 = .ok (.iload_n 3, 1) := by decide +kernel
theorem dL_law_625 : decode cL_law 625 = .ok (.iconst 3, 1) := by decide +kernel
theorem dL_law_626 : decode cL_law 626 = .ok (.iadd, 1) := by decide +kernel
theorem dL_law_627 : decode cL_law 627 = .ok (.iaload, 1) := by decide +kernel
theorem dL_law_628 : decode cL_law 628 = .ok (.invokevirtual 83, 3) := by decide +kernel
theorem dL_law_631 : decode cL_law 631 = .ok (.if_icmp .eq 343, 3) := by decide +kernel
theorem dL_law_634 : decode cL_law 634 = .ok (.iconst 0, 1) := by decide +kernel
theorem dL_law_635 : decode cL_law 635 = .ok (.ireturn, 1) := by decide +kernel
theorem dL_law_636 : decode cL_law 636 = .ok (.aload_n 1, 1) := by decide +kernel
theorem dL_law_637 : decode cL_law 637 = .ok (.aload_n 0, 1) := by decide +kernel
theorem dL_law_638 : decode cL_law 638 = .ok (.iload_n 3, 1) := by decide +kernel
theorem dL_law_639 : decode cL_law 639 = .ok (.iconst 1, 1) := by decide +kernel
theorem dL_law_640 : decode cL_law 640 = .ok (.iadd, 1) := by decide +kernel
theorem dL_law_641 : decode cL_law 641 = .ok (.iaload, 1) := by decide +kernel
theorem dL_law_642 : decode cL_law 642 = .ok (.invokevirtual 84, 3) := by decide +kernel
theorem dL_law_645 : decode cL_law 645 = .ok (.aload_n 2, 1) := by decide +kernel
theorem dL_law_646 : decode cL_law 646 = .ok (.aload_n 0, 1) := by decide +kernel
theorem dL_law_647 : decode cL_law 647 = .ok (.iload_n 3, 1) := by decide +kernel
theorem dL_law_648 : decode cL_law 648 = .ok (.iconst 1, 1) := by decide +kernel
theorem dL_law_649 : decode cL_law 649 = .ok (.iadd, 1) := by decide +kernel
theorem dL_law_650 : decode cL_law 650 = .ok (.iaload, 1) := by decide +kernel
theorem dL_law_651 : decode cL_law 651 = .ok (.invokevirtual 87, 3) := by decide +kernel
theorem dL_law_654 : decode cL_law 654 = .ok (.if_icmp .eq 320, 3) := by decide +kernel
theorem dL_law_657 : decode cL_law 657 = .ok (.iconst 0, 1) := by decide +kernel
theorem dL_law_658 : decode cL_law 658 = .ok (.ireturn, 1) := by decide +kernel
theorem dL_law_659 : decode cL_law 659 = .ok (.aload_n 1, 1) := by decide +kernel
theorem dL_law_660 : decode cL_law 660 = .ok (.invokevirtual 88, 3) := by decide +kernel
theorem dL_law_663 : decode cL_law 663 = .ok (.aload_n 2, 1) := by decide +kernel
theorem dL_law_664 : decode cL_law 664 = .ok (.invokevirtual 91, 3) := by decide +kernel
theorem dL_law_667 : decode cL_law 667 = .ok (.if_icmp .eq 307, 3) := by decide +kernel
theorem dL_law_670 : decode cL_law 670 = .ok (.iconst 0, 1) := by decide +kernel
theorem dL_law_671 : decode cL_law 671 = .ok (.ireturn, 1) := by decide +kernel
theorem dL_law_672 : decode cL_law 672 = .ok (.aload_n 1, 1) := by decide +kernel
theorem dL_law_673 : decode cL_law 673 = .ok (.aload_n 0, 1) := by decide +kernel
theorem dL_law_674 : decode cL_law 674 = .ok (.iload_n 3, 1) := by decide +kernel
theorem dL_law_675 : decode cL_law 675 = .ok (.iconst 1, 1) := by decide +kernel
theorem dL_law_676 : decode cL_law 676 = .ok (.iadd, 1) := by decide +kernel
theorem dL_law_677 : decode cL_law 677 = .ok (.iaload, 1) := by decide +kernel
theorem dL_law_678 : decode cL_law 678 = .ok (.invokevirtual 92, 3) := by decide +kernel
theorem dL_law_681 : decode cL_law 681 = .ok (.aload_n 2, 1) := by decide +kernel
theorem dL_law_682 : decode cL_law 682 = .ok (.aload_n 0, 1) := by decide +kernel
theorem dL_law_683 : decode cL_law 683 = .ok (.iload_n 3, 1) := by decide +kernel
theorem dL_law_684 : decode cL_law 684 = .ok (.iconst 1, 1) := by decide +kernel
theorem dL_law_685 : decode cL_law 685 = .ok (.iadd, 1) := by decide +kernel
theorem dL_law_686 : decode cL_law 686 = .ok (.iaload, 1) := by decide +kernel
theorem dL_law_687 : decode cL_law 687 = .ok (.invokevirtual 95, 3) := by decide +kernel
theorem dL_law_690 : decode cL_law 690 = .ok (.if_icmp .eq 284, 3) := by decide +kernel
theorem dL_law_693 : decode cL_law 693 = .ok (.iconst 0, 1) := by decide +kernel
theorem dL_law_694 : decode cL_law 694 = .ok (.ireturn, 1) := by decide +kernel
theorem dL_law_695 : decode cL_law 695 = .ok (.aload_n 1, 1) := by decide +kernel
theorem dL_law_696 : decode cL_law 696 = .ok (.aload_n 0, 1) := by decide +kernel
theorem dL_law_697 : decode cL_law 697 = .ok (.iload_n 3, 1) := by decide +kernel
theorem dL_law_698 : decode cL_law 698 = .ok (.iconst 1, 1) := by decide +kernel
theorem dL_law_699 : decode cL_law 699 = .ok (.iadd, 1) := by decide +kernel
theorem dL_law_700 : decode cL_law 700 = .ok (.iaload, 1) := by decide +kernel
theorem dL_law_701 : decode cL_law 701 = .ok (.invokevirtual 96, 3) := by decide +kernel
theorem dL_law_704 : decode cL_law 704 = .ok (.aload_n 2, 1) := by decide +kernel
theorem dL_law_705 : decode cL_law 705 = .ok (.aload_n 0, 1) := by decide +kernel
theorem dL_law_706 : decode cL_law 706 = .ok (.iload_n 3, 1) := by decide +kernel
theorem dL_law_707 : decode cL_law 707 = .ok (.iconst 1, 1) := by decide +kernel
theorem dL_law_708 : decode cL_law 708 = .ok (.iadd, 1) := by decide +kernel
theorem dL_law_709 : decode cL_law 709 = .ok (.iaload, 1) := by decide +kernel
theorem dL_law_710 : decode cL_law 710 = .ok (.invokevirtual 99, 3) := by decide +kernel
theorem dL_law_713 : decode cL_law 713 = .ok (.if_icmp .eq 261, 3) := by decide +kernel
theorem dL_law_716 : decode cL_law 716 = .ok (.iconst 0, 1) := by decide +kernel
theorem dL_law_717 : decode cL_law 717 = .ok (.ireturn, 1) := by decide +kernel
theorem dL_law_718 : decode cL_law 718 = .ok (.aload_n 1, 1) := by decide +kernel
theorem dL_law_719 : decode cL_law 719 = .ok (.invokevirtual 100, 3) := by decide +kernel
theorem dL_law_722 : decode cL_law 722 = .ok (.aload_n 2, 1) := by decide +kernel
theorem dL_law_723 : decode cL_law 723 = .ok (.invokevirtual 103, 3) := by decide +kernel
theorem dL_law_726 : decode cL_law 726 = .ok (.if_icmp .eq 248, 3) := by decide +kernel
theorem dL_law_729 : decode cL_law 729 = .ok (.iconst 0, 1) := by decide +kernel
theorem dL_law_730 : decode cL_law 730 = .ok (.ireturn, 1) := by decide +kernel
theorem dL_law_731 : decode cL_law 731 = .ok (.aload_n 1, 1) := by decide +kernel
theorem dL_law_732 : decode cL_law 732 = .ok (.aload_n 0, 1) := by decide +kernel
theorem dL_law_733 : decode cL_law 733 = .ok (.iload_n 3, 1) := by decide +kernel
theorem dL_law_734 : decode cL_law 734 = .ok (.iconst 1, 1) := by decide +kernel
theorem dL_law_735 : decode cL_law 735 = .ok (.iadd, 1) := by decide +kernel
theorem dL_law_736 : decode cL_law 736 = .ok (.iaload, 1) := by decide +kernel
theorem dL_law_737 : decode cL_law 737 = .ok (.aload_n 0, 1) := by decide +kernel
theorem dL_law_738 : decode cL_law 738 = .ok (.iload_n 3, 1) := by decide +kernel
theorem dL_law_739 : decode cL_law 739 = .ok (.iconst 2, 1) := by decide +kernel
theorem dL_law_740 : decode cL_law 740 = .ok (.iadd, 1) := by decide +kernel
theorem dL_law_741 : decode cL_law 741 = .ok (.iaload, 1) := by decide +kernel
theorem dL_law_742 : decode cL_law 742 = .ok (.ifCond .eq 7, 3) := by decide +kernel
theorem dL_law_745 : decode cL_law 745 = .ok (.iconst 1, 1) := by decide +kernel
theorem dL_law_746 : decode cL_law 746 = .ok (.goto 4, 3) := by decide +kernel
theorem dL_law_749 : decode cL_law 749 = .ok (.iconst 0, 1) := by decide +kernel
theorem dL_law_750 : decode cL_law 750 = .ok (.invokevirtual 104, 3) := by decide +kernel
theorem dL_law_753 : decode cL_law 753 = .ok (.aload_n 2, 1) := by decide +kernel
theorem dL_law_754 : decode cL_law 754 = .ok (.aload_n 0, 1) := by decide +kernel
theorem dL_law_755 : decode cL_law 755 = .ok (.iload_n 3, 1) := by decide +kernel
theorem dL_law_756 : decode cL_law 756 = .ok (.iconst 1, 1) := by decide +kernel
theorem dL_law_757 : decode cL_law 757 = .ok (.iadd, 1) := by decide +kernel
theorem dL_law_758 : decode cL_law 758 = .ok (.iaload, 1) := by decide +kernel
theorem dL_law_759 : decode cL_law 759 = .ok (.aload_n 0, 1) := by decide +kernel
theorem dL_law_760 : decode cL_law 760 = .ok (.iload_n 3, 1) := by decide +kernel
theorem dL_law_761 : decode cL_law 761 = .ok (.iconst 2, 1) := by decide +kernel
theorem dL_law_762 : decode cL_law 762 = .ok (.iadd, 1) := by decide +kernel
theorem dL_law_763 : decode cL_law 763 = .ok (.iaload, 1) := by decide +kernel
theorem dL_law_764 : decode cL_law 764 = .ok (.ifCond .eq 7, 3) := by decide +kernel
theorem dL_law_767 : decode cL_law 767 = .ok (.iconst 1, 1) := by decide +kernel
theorem dL_law_768 : decode cL_law 768 = .ok (.goto 4, 3) := by decide +kernel
theorem dL_law_771 : decode cL_law 771 = .ok (.iconst 0, 1) := by decide +kernel
theorem dL_law_772 : decode cL_law 772 = .ok (.invokevirtual 108, 3) := by decide +kernel
theorem dL_law_775 : decode cL_law 775 = .ok (.if_icmp .eq 199, 3) := by decide +kernel
theorem dL_law_778 : decode cL_law 778 = .ok (.iconst 0, 1) := by decide +kernel
theorem dL_law_779 : decode cL_law 779 = .ok (.ireturn, 1) := by decide +kernel
theorem dL_law_780 : decode cL_law 780 = .ok (.aload_n 1, 1) := by decide +kernel
theorem dL_law_781 : decode cL_law 781 = .ok (.aload_n 0, 1) := by decide +kernel
theorem dL_law_782 : decode cL_law 782 = .ok (.iload_n 3, 1) := by decide +kernel
theorem dL_law_783 : decode cL_law 783 = .ok (.iconst 1, 1) := by decide +kernel
theorem dL_law_784 : decode cL_law 784 = .ok (.iadd, 1) := by decide +kernel
theorem dL_law_785 : decode cL_law 785 = .ok (.iaload, 1) := by decide +kernel
theorem dL_law_786 : decode cL_law 786 = .ok (.aload_n 0, 1) := by decide +kernel
theorem dL_law_787 : decode cL_law 787 = .ok (.iload_n 3, 1) := by decide +kernel
theorem dL_law_788 : decode cL_law 788 = .ok (.iconst 2, 1) := by decide +kernel
theorem dL_law_789 : decode cL_law 789 = .ok (.iadd, 1) := by decide +kernel
theorem dL_law_790 : decode cL_law 790 = .ok (.iaload, 1) := by decide +kernel
theorem dL_law_791 : decode cL_law 791 = .ok (.invokevirtual 109, 3) := by decide +kernel
theorem dL_law_794 : decode cL_law 794 = .ok (.aload_n 2, 1) := by decide +kernel
theorem dL_law_795 : decode cL_law 795 = .ok (.aload_n 0, 1) := by decide +kernel
theorem dL_law_796 : decode cL_law 796 = .ok (.iload_n 3, 1) := by decide +kernel
theorem dL_law_797 : decode cL_law 797 = .ok (.iconst 1, 1) := by decide +kernel
theorem dL_law_798 : decode cL_law 798 = .ok (.iadd, 1) := by decide +kernel
theorem dL_law_799 : decode cL_law 799 = .ok (.iaload, 1) := by decide +kernel
theorem dL_law_800 : decode cL_law 800 = .ok (.aload_n 0, 1) := by decide +kernel
theorem dL_law_801 : decode cL_law 801 = .ok (.iload_n 3, 1) := by decide +kernel
theorem dL_law_802 : decode cL_law 802 = .ok (.iconst 2, 1) := by decide +kernel
theorem dL_law_803 : decode cL_law 803 = .ok (.iadd, 1) := by decide +kernel
theorem dL_law_804 : decode cL_law 804 = .ok (.iaload, 1) := by decide +kernel
theorem dL_law_805 : decode cL_law 805 = .ok (.invokevirtual 112, 3) := by decide +kernel
theorem dL_law_808 : decode cL_law 808 = .ok (.if_icmp .eq 166, 3) := by decide +kernel
theorem dL_law_811 : decode cL_law 811 = .ok (.iconst 0, 1) := by decide +kernel
theorem dL_law_812 : decode cL_law 812 = .ok (.ireturn, 1) := by decide +kernel
theorem dL_law_813 : decode cL_law 813 = .ok (.aload_n 1, 1) := by decide +kernel
theorem dL_law_814 : decode cL_law 814 = .ok (.aload_n 0, 1) := by decide +kernel
theorem dL_law_815 : decode cL_law 815 = .ok (.iload_n 3, 1) := by decide +kernel
theorem dL_law_816 : decode cL_law 816 = .ok (.iconst 1, 1) := by decide +kernel
theorem dL_law_817 : decode cL_law 817 = .ok (.iadd, 1) := by decide +kernel
theorem dL_law_818 : decode cL_law 818 = .ok (.iaload, 1) := by decide +kernel
theorem dL_law_819 : decode cL_law 819 = .ok (.aload_n 0, 1) := by decide +kernel
theorem dL_law_820 : decode cL_law 820 = .ok (.iload_n 3, 1) := by decide +kernel
theorem dL_law_821 : decode cL_law 821 = .ok (.iconst 2, 1) := by decide +kernel
theorem dL_law_822 : decode cL_law 822 = .ok (.iadd, 1) := by decide +kernel
theorem dL_law_823 : decode cL_law 823 = .ok (.iaload, 1) := by decide +kernel
theorem dL_law_824 : decode cL_law 824 = .ok (.invokevirtual 113, 3) := by decide +kernel
theorem dL_law_827 : decode cL_law 827 = .ok (.aload_n 2, 1) := by decide +kernel
theorem dL_law_828 : decode cL_law 828 = .ok (.aload_n 0, 1) := by decide +kernel
theorem dL_law_829 : decode cL_law 829 = .ok (.iload_n 3, 1) := by decide +kernel
theorem dL_law_830 : decode cL_law 830 = .ok (.iconst 1, 1) := by decide +kernel
theorem dL_law_831 : decode cL_law 831 = .ok (.iadd, 1) := by decide +kernel
theorem dL_law_832 : decode cL_law 832 = .ok (.iaload, 1) := by decide +kernel
theorem dL_law_833 : decode cL_law 833 = .ok (.aload_n 0, 1) := by decide +kernel
theorem dL_law_834 : decode cL_law 834 = .ok (.iload_n 3, 1) := by decide +kernel
theorem dL_law_835 : decode cL_law 835 = .ok (.iconst 2, 1) := by decide +kernel
theorem dL_law_836 : decode cL_law 836 = .ok (.iadd, 1) := by decide +kernel
theorem dL_law_837 : decode cL_law 837 = .ok (.iaload, 1) := by decide +kernel
theorem dL_law_838 : decode cL_law 838 = .ok (.invokevirtual 116, 3) := by decide +kernel
theorem dL_law_841 : decode cL_law 841 = .ok (.if_icmp .eq 133, 3) := by decide +kernel
theorem dL_law_844 : decode cL_law 844 = .ok (.iconst 0, 1) := by decide +kernel
theorem dL_law_845 : decode cL_law 845 = .ok (.ireturn, 1) := by decide +kernel
theorem dL_law_846 : decode cL_law 846 = .ok (.aload_n 1, 1) := by decide +kernel
theorem dL_law_847 : decode cL_law 847 = .ok (.invokevirtual 117, 3) := by decide +kernel
theorem dL_law_850 : decode cL_law 850 = .ok (.aload_n 2, 1) := by decide +kernel
theorem dL_law_851 : decode cL_law 851 = .ok (.invokevirtual 120, 3) := by decide +kernel
theorem dL_law_854 : decode cL_law 854 = .ok (.if_icmp .eq 120, 3) := by decide +kernel
theorem dL_law_857 : decode cL_law 857 = .ok (.iconst 0, 1) := by decide +kernel
theorem dL_law_858 : decode cL_law 858 = .ok (.ireturn, 1) := by decide +kernel
theorem dL_law_859 : decode cL_law 859 = .ok (.aload_n 1, 1) := by decide +kernel
theorem dL_law_860 : decode cL_law 860 = .ok (.aload_n 0, 1) := by decide +kernel
theorem dL_law_861 : decode cL_law 861 = .ok (.iload_n 3, 1) := by decide +kernel
theorem dL_law_862 : decode cL_law 862 = .ok (.iconst 1, 1) := by decide +kernel
theorem dL_law_863 : decode cL_law 863 = .ok (.iadd, 1) := by decide +kernel
theorem dL_law_864 : decode cL_law 864 = .ok (.iaload, 1) := by decide +kernel
theorem dL_law_865 : decode cL_law 865 = .ok (.invokevirtual 121, 3) := by decide +kernel
theorem dL_law_868 : decode cL_law 868 = .ok (.aload_n 2, 1) := by decide +kernel
theorem dL_law_869 : decode cL_law 869 = .ok (.aload_n 0, 1) := by decide +kernel
theorem dL_law_870 : decode cL_law 870 = .ok (.iload_n 3, 1) := by decide +kernel
theorem dL_law_871 : decode cL_law 871 = .ok (.iconst 1, 1) := by decide +kernel
theorem dL_law_872 : decode cL_law 872 = .ok (.iadd, 1) := by decide +kernel
theorem dL_law_873 : decode cL_law 873 = .ok (.iaload, 1) := by decide +kernel
theorem dL_law_874 : decode cL_law 874 = .ok (.invokevirtual 124, 3) := by decide +kernel
theorem dL_law_877 : decode cL_law 877 = .ok (.if_icmp .eq 97, 3) := by decide +kernel
theorem dL_law_880 : decode cL_law 880 = .ok (.iconst 0, 1) := by decide +kernel
theorem dL_law_881 : decode cL_law 881 = .ok (.ireturn, 1) := by decide +kernel
theorem dL_law_882 : decode cL_law 882 = .ok (.aload_n 1, 1) := by decide +kernel
theorem dL_law_883 : decode cL_law 883 = .ok (.aload_n 0, 1) := by decide +kernel
theorem dL_law_884 : decode cL_law 884 = .ok (.iload_n 3, 1) := by decide +kernel
theorem dL_law_885 : decode cL_law 885 = .ok (.iconst 1, 1) := by decide +kernel
theorem dL_law_886 : decode cL_law 886 = .ok (.iadd, 1) := by decide +kernel
theorem dL_law_887 : decode cL_law 887 = .ok (.iaload, 1) := by decide +kernel
theorem dL_law_888 : decode cL_law 888 = .ok (.aload_n 0, 1) := by decide +kernel
theorem dL_law_889 : decode cL_law 889 = .ok (.iload_n 3, 1) := by decide +kernel
theorem dL_law_890 : decode cL_law 890 = .ok (.iconst 2, 1) := by decide +kernel
theorem dL_law_891 : decode cL_law 891 = .ok (.iadd, 1) := by decide +kernel
theorem dL_law_892 : decode cL_law 892 = .ok (.iaload, 1) := by decide +kernel
theorem dL_law_893 : decode cL_law 893 = .ok (.aload_n 0, 1) := by decide +kernel
theorem dL_law_894 : decode cL_law 894 = .ok (.iload_n 3, 1) := by decide +kernel
theorem dL_law_895 : decode cL_law 895 = .ok (.iconst 3, 1) := by decide +kernel
theorem dL_law_896 : decode cL_law 896 = .ok (.iadd, 1) := by decide +kernel
theorem dL_law_897 : decode cL_law 897 = .ok (.iaload, 1) := by decide +kernel
theorem dL_law_898 : decode cL_law 898 = .ok (.invokevirtual 125, 3) := by decide +kernel
theorem dL_law_901 : decode cL_law 901 = .ok (.aload_n 2, 1) := by decide +kernel
theorem dL_law_902 : decode cL_law 902 = .ok (.aload_n 0, 1) := by decide +kernel
theorem dL_law_903 : decode cL_law 903 = .ok (.iload_n 3, 1) := by decide +kernel
theorem dL_law_904 : decode cL_law 904 = .ok (.iconst 1, 1) := by decide +kernel
theorem dL_law_905 : decode cL_law 905 = .ok (.iadd, 1) := by decide +kernel
theorem dL_law_906 : decode cL_law 906 = .ok (.iaload, 1) := by decide +kernel
theorem dL_law_907 : decode cL_law 907 = .ok (.aload_n 0, 1) := by decide +kernel
theorem dL_law_908 : decode cL_law 908 = .ok (.iload_n 3, 1) := by decide +kernel
theorem dL_law_909 : decode cL_law 909 = .ok (.iconst 2, 1) := by decide +kernel
theorem dL_law_910 : decode cL_law 910 = .ok (.iadd, 1) := by decide +kernel
theorem dL_law_911 : decode cL_law 911 = .ok (.iaload, 1) := by decide +kernel
theorem dL_law_912 : decode cL_law 912 = .ok (.aload_n 0, 1) := by decide +kernel
theorem dL_law_913 : decode cL_law 913 = .ok (.iload_n 3, 1) := by decide +kernel
theorem dL_law_914 : decode cL_law 914 = .ok (.iconst 3, 1) := by decide +kernel
theorem dL_law_915 : decode cL_law 915 = .ok (.iadd, 1) := by decide +kernel
theorem dL_law_916 : decode cL_law 916 = .ok (.iaload, 1) := by decide +kernel
theorem dL_law_917 : decode cL_law 917 = .ok (.invokevirtual 128, 3) := by decide +kernel
theorem dL_law_920 : decode cL_law 920 = .ok (.if_icmp .eq 54, 3) := by decide +kernel
theorem dL_law_923 : decode cL_law 923 = .ok (.iconst 0, 1) := by decide +kernel
theorem dL_law_924 : decode cL_law 924 = .ok (.ireturn, 1) := by decide +kernel
theorem dL_law_925 : decode cL_law 925 = .ok (.aload_n 1, 1) := by decide +kernel
theorem dL_law_926 : decode cL_law 926 = .ok (.invokevirtual 129, 3) := by decide +kernel
theorem dL_law_929 : decode cL_law 929 = .ok (.aload_n 2, 1) := by decide +kernel
theorem dL_law_930 : decode cL_law 930 = .ok (.invokevirtual 132, 3) := by decide +kernel
theorem dL_law_933 : decode cL_law 933 = .ok (.if_icmp .eq 41, 3) := by decide +kernel
theorem dL_law_936 : decode cL_law 936 = .ok (.iconst 0, 1) := by decide +kernel
theorem dL_law_937 : decode cL_law 937 = .ok (.ireturn, 1) := by decide +kernel
theorem dL_law_938 : decode cL_law 938 = .ok (.aload_n 1, 1) := by decide +kernel
theorem dL_law_939 : decode cL_law 939 = .ok (.invokevirtual 133, 3) := by decide +kernel
theorem dL_law_942 : decode cL_law 942 = .ok (.aload_n 2, 1) := by decide +kernel
theorem dL_law_943 : decode cL_law 943 = .ok (.invokevirtual 136, 3) := by decide +kernel
theorem dL_law_946 : decode cL_law 946 = .ok (.if_icmp .eq 28, 3) := by decide +kernel
theorem dL_law_949 : decode cL_law 949 = .ok (.iconst 0, 1) := by decide +kernel
theorem dL_law_950 : decode cL_law 950 = .ok (.ireturn, 1) := by decide +kernel
theorem dL_law_951 : decode cL_law 951 = .ok (.aload_n 1, 1) := by decide +kernel
theorem dL_law_952 : decode cL_law 952 = .ok (.aload_n 0, 1) := by decide +kernel
theorem dL_law_953 : decode cL_law 953 = .ok (.iload_n 3, 1) := by decide +kernel
theorem dL_law_954 : decode cL_law 954 = .ok (.iconst 1, 1) := by decide +kernel
theorem dL_law_955 : decode cL_law 955 = .ok (.iadd, 1) := by decide +kernel
theorem dL_law_956 : decode cL_law 956 = .ok (.iaload, 1) := by decide +kernel
theorem dL_law_957 : decode cL_law 957 = .ok (.invokevirtual 137, 3) := by decide +kernel
theorem dL_law_960 : decode cL_law 960 = .ok (.aload_n 2, 1) := by decide +kernel
theorem dL_law_961 : decode cL_law 961 = .ok (.aload_n 0, 1) := by decide +kernel
theorem dL_law_962 : decode cL_law 962 = .ok (.iload_n 3, 1) := by decide +kernel
theorem dL_law_963 : decode cL_law 963 = .ok (.iconst 1, 1) := by decide +kernel
theorem dL_law_964 : decode cL_law 964 = .ok (.iadd, 1) := by decide +kernel
theorem dL_law_965 : decode cL_law 965 = .ok (.iaload, 1) := by decide +kernel
theorem dL_law_966 : decode cL_law 966 = .ok (.invokevirtual 140, 3) := by decide +kernel
theorem dL_law_969 : decode cL_law 969 = .ok (.if_icmp .eq 5, 3) := by decide +kernel
theorem dL_law_972 : decode cL_law 972 = .ok (.iconst 0, 1) := by decide +kernel
theorem dL_law_973 : decode cL_law 973 = .ok (.ireturn, 1) := by decide +kernel
theorem dL_law_974 : decode cL_law 974 = .ok (.iinc 3 4, 3) := by decide +kernel
theorem dL_law_977 : decode cL_law 977 = .ok (.goto (-959), 3) := by decide +kernel
theorem dL_law_980 : decode cL_law 980 = .ok (.iconst 1, 1) := by decide +kernel
theorem dL_law_981 : decode cL_law 981 = .ok (.ireturn, 1) := by decide +kernel
end
section
/-! the links of nest mates that the tables tell, the words of all methods are good, each by its place -/
def nestF : List (String × Nat × String × String × String × String) := [(RX10, 46, "OffFirst$Text", "length", "I", "OffFirst"), (RX11, 110, "OffFirst$Text", "length", "I", "OffFirst"), (RX10, 68, "OffFirst$Text", "letter", "I", "OffFirst"), (RX10, 95, "OffFirst$Text", "told", "I", "OffFirst"), (RX4, 48, "OffFirst$Cells", "number", "I", "OffFirst"), (RX10, 132, "OffFirst$Cells", "number", "I", "OffFirst"), (RX11, 284, "OffFirst$Cells", "number", "I", "OffFirst"), (RX8, 27, "OffFirst$Foods", "number", "I", "OffFirst"), (RX3, 25, "OffFirst$Foods", "number", "I", "OffFirst"), (RX1, 47, "OffFirst$Foods", "number", "I", "OffFirst"), (RX4, 79, "OffFirst$Foods", "number", "I", "OffFirst"), (RX11, 128, "OffFirst$Foods", "number", "I", "OffFirst"), (RX10, 140, "OffFirst$Foods", "number", "I", "OffFirst"), (RX11, 239, "OffFirst$Party", "number", "I", "OffFirst"), (RX10, 126, "OffFirst$Party", "single", "I", "OffFirst"), (RX10, 129, "OffFirst$Party", "pair", "I", "OffFirst"), (RX11, 80, "OffFirst$Told", "cells", "LOffFirst$Cells;", "OffFirst"), (RX4, 42, "OffFirst$Told", "cells", "LOffFirst$Cells;", "OffFirst"), (RX3, 61, "OffFirst$Told", "cells", "LOffFirst$Cells;", "OffFirst"), (RX11, 90, "OffFirst$Told", "foods", "LOffFirst$Foods;", "OffFirst"), (RX3, 19, "OffFirst$Told", "foods", "LOffFirst$Foods;", "OffFirst"), (RX1, 41, "OffFirst$Told", "foods", "LOffFirst$Foods;", "OffFirst"), (RX4, 75, "OffFirst$Told", "foods", "LOffFirst$Foods;", "OffFirst"), (RX6, 64, "OffFirst$Told", "foods", "LOffFirst$Foods;", "OffFirst"), (RX6, 89, "OffFirst$Told", "dishNumber", "I", "OffFirst"), (RX11, 285, "OffFirst$Told", "dishNumber", "I", "OffFirst"), (RX11, 288, "OffFirst$Told", "eaterNumber", "I", "OffFirst"), (RX11, 235, "OffFirst$Told", "party", "LOffFirst$Party;", "OffFirst"), (RX3, 102, "OffFirst$Told", "slip", "I", "OffFirst"), (RX1, 31, "OffFirst$Stock", "hour", "I", "OffFirst"), (RX3, 65, "OffFirst$Stock", "hour", "I", "OffFirst"), (RX11, 163, "OffFirst$Stock", "hour", "I", "OffFirst"), (RX4, 36, "OffFirst$Fridge", "laid", "LOffFirst$Told;", "OffFirst"), (RX1, 37, "OffFirst$Fridge", "laid", "LOffFirst$Told;", "OffFirst"), (RX6, 60, "OffFirst$Fridge", "laid", "LOffFirst$Told;", "OffFirst"), (RX1, 25, "OffFirst$Fridge", "stock", "LOffFirst$Stock;", "OffFirst"), (RX6, 40, "OffFirst$Fridge", "stock", "LOffFirst$Stock;", "OffFirst"), (RX4, 55, "OffFirst$Fridge", "stock", "LOffFirst$Stock;", "OffFirst"), (RX11, 211, "OffFirst$Planner", "leastCost", "I", "OffFirst"), (RX11, 229, "OffFirst$Layer", "leastLost", "I", "OffFirst"), (RX11, 122, "OffFirst$Spans", "number", "I", "OffFirst")]
def nestM : List (String × Nat × MethodName × String) := [(RX11, 9, yX9_init, "OffFirst"), (RX11, 18, yX10_init, "OffFirst"), (RX10, 11, yX0_init, "OffFirst"), (RX10, 20, yX2_init, "OffFirst"), (RX10, 34, yX5_init, "OffFirst"), (RX11, 28, yX8_init, "OffFirst"), (RX11, 75, yX7_init, "OffFirst"), (RX0, 28, yX11_put, "OffFirst"), (RX2, 37, yX11_put, "OffFirst"), (RX2, 41, yX11_at, "OffFirst"), (RX8, 41, yX11_put, "OffFirst"), (RX9, 24, yX11_put, "OffFirst"), (RX9, 28, yX11_at, "OffFirst"), (RX9, 52, yX11_isWithin, "OffFirst"), (RX10, 119, yX11_put, "OffFirst"), (RX5, 28, yX11_put, "OffFirst"), (RX0, 32, yX11_at, "OffFirst"), (RX8, 48, yX11_at, "OffFirst"), (RX3, 74, yX11_ageing, "OffFirst"), (RX1, 56, yX11_put, "OffFirst"), (RX1, 64, yX11_at, "OffFirst"), (RX2, 45, yX11_hasBit, "OffFirst"), (RX6, 56, yX11_at, "OffFirst"), (RX6, 82, yX11_put, "OffFirst"), (RX10, 141, yX11_at, "OffFirst"), (RX6, 99, yX11_hasBit, "OffFirst"), (RX1, 68, yX11_hasBit, "OffFirst"), (RX4, 64, yX11_put, "OffFirst"), (RX4, 96, yX11_at, "OffFirst"), (RX5, 38, yX11_at, "OffFirst"), (RX3, 118, yX11_isWithin, "OffFirst"), (RX7, 22, yX11_put, "OffFirst"), (RX7, 26, yX11_at, "OffFirst")]
set_option maxRecDepth 100000 in
theorem gBIG : GoodIn wsL_law wsL_law := fun w h => ⟨h, good_of_word (List.all_eq_true.mp (show wsL_law.all goodWord = true by decide +kernel) w h)⟩
theorem kr_1 : ∀ w ∈ wsL_law_r1, w ∈ wsL_law := fun _ h => List.mem_append_left _ (List.mem_append_left _ (List.mem_append_left _ (List.mem_append_left _ (List.mem_append_left _ (List.mem_append_left _ (List.mem_append_left _ (List.mem_append_left _ (List.mem_append_left _ (List.mem_append_left _ (List.mem_append_left _ (List.mem_append_left _ (List.mem_append_left _ (List.mem_append_left _ (List.mem_append_left _ h))))))))))))))
theorem kr_2 : ∀ w ∈ wsL_law_r2, w ∈ wsL_law := fun _ h => List.mem_append_left _ (List.mem_append_left _ (List.mem_append_left _ (List.mem_append_left _ (List.mem_append_left _ (List.mem_append_left _ (List.mem_append_left _ (List.mem_append_left _ (List.mem_append_left _ (List.mem_append_left _ (List.mem_append_left _ (List.mem_append_left _ (List.mem_append_left _ (List.mem_append_left _ (List.mem_append_right _ (List.mem_append_left _ h)))))))))))))))
theorem kr_3 : ∀ w ∈ wsL_law_r3, w ∈ wsL_law := fun _ h => List.mem_append_left _ (List.mem_append_left _ (List.mem_append_left _ (List.mem_append_left _ (List.mem_append_left _ (List.mem_append_left _ (List.mem_append_left _ (List.mem_append_left _ (List.mem_append_left _ (List.mem_append_left _ (List.mem_append_left _ (List.mem_append_left _ (List.mem_append_left _ (List.mem_append_left _ (List.mem_append_right _ (List.mem_append_right _ (List.mem_append_left _ h))))))))))))))))
theorem kr_4 : ∀ w ∈ wsL_law_r4, w ∈ wsL_law := fun _ h => List.mem_append_left _ (List.mem_append_left _ (List.mem_append_left _ (List.mem_append_left _ (List.mem_append_left _ (List.mem_append_left _ (List.mem_append_left _ (List.mem_append_left _ (List.mem_append_left _ (List.mem_append_left _ (List.mem_append_left _ (List.mem_append_left _ (List.mem_append_left _ (List.mem_append_left _ (List.mem_append_right _ (List.mem_append_right _ (List.mem_append_right _ (List.mem_append_left _ h)))))))))))))))))
theorem kr_5 : ∀ w ∈ wsL_law_r5, w ∈ wsL_law := fun _ h => List.mem_append_left _ (List.mem_append_left _ (List.mem_append_left _ (List.mem_append_left _ (List.mem_append_left _ (List.mem_append_left _ (List.mem_append_left _ (List.mem_append_left _ (List.mem_append_left _ (List.mem_append_left _ (List.mem_append_left _ (List.mem_append_left _ (List.mem_append_left _ (List.mem_append_left _ (List.mem_append_right _ (List.mem_append_right _ (List.mem_append_right _ (List.mem_append_right _ (List.mem_append_left _ h))))))))))))))))))
theorem kr_6 : ∀ w ∈ wsL_law_r6, w ∈ wsL_law := fun _ h => List.mem_append_left _ (List.mem_append_left _ (List.mem_append_left _ (List.mem_append_left _ (List.mem_append_left _ (List.mem_append_left _ (List.mem_append_left _ (List.mem_append_left _ (List.mem_append_left _ (List.mem_append_left _ (List.mem_append_left _ (List.mem_append_left _ (List.mem_append_left _ (List.mem_append_left _ (List.mem_append_right _ (List.mem_append_right _ (List.mem_append_right _ (List.mem_append_right _ (List.mem_append_right _ (List.mem_append_left _ h)))))))))))))))))))
theorem kr_7 : ∀ w ∈ wsL_law_r7, w ∈ wsL_law := fun _ h => List.mem_append_left _ (List.mem_append_left _ (List.mem_append_left _ (List.mem_append_left _ (List.mem_append_left _ (List.mem_append_left _ (List.mem_append_left _ (List.mem_append_left _ (List.mem_append_left _ (List.mem_append_left _ (List.mem_append_left _ (List.mem_append_left _ (List.mem_append_left _ (List.mem_append_left _ (List.mem_append_right _ (List.mem_append_right _ (List.mem_append_right _ (List.mem_append_right _ (List.mem_append_right _ (List.mem_append_right _ (List.mem_append_left _ h))))))))))))))))))))
theorem kr_8 : ∀ w ∈ wsL_law_r8, w ∈ wsL_law := fun _ h => List.mem_append_left _ (List.mem_append_left _ (List.mem_append_left _ (List.mem_append_left _ (List.mem_append_left _ (List.mem_append_left _ (List.mem_append_left _ (List.mem_append_left _ (List.mem_append_left _ (List.mem_append_left _ (List.mem_append_left _ (List.mem_append_left _ (List.mem_append_left _ (List.mem_append_left _ (List.mem_append_right _ (List.mem_append_right _ (List.mem_append_right _ (List.mem_append_right _ (List.mem_append_right _ (List.mem_append_right _ (List.mem_append_right _ (List.mem_append_left _ h)))))))))))))))))))))
theorem kr_9 : ∀ w ∈ wsL_law_r9, w ∈ wsL_law := fun _ h => List.mem_append_left _ (List.mem_append_left _ (List.mem_append_left _ (List.mem_append_left _ (List.mem_append_left _ (List.mem_append_left _ (List.mem_append_left _ (List.mem_append_left _ (List.mem_append_left _ (List.mem_append_left _ (List.mem_append_left _ (List.mem_append_left _ (List.mem_append_left _ (List.mem_append_left _ (List.mem_append_right _ (List.mem_append_right _ (List.mem_append_right _ (List.mem_append_right _ (List.mem_append_right _ (List.mem_append_right _ (List.mem_append_right _ (List.mem_append_right _ (List.mem_append_left _ h))))))))))))))))))))))
theorem kr_10 : ∀ w ∈ wsL_law_r10, w ∈ wsL_law := fun _ h => List.mem_append_left _ (List.mem_append_left _ (List.mem_append_left _ (List.mem_append_left _ (List.mem_append_left _ (List.mem_append_left _ (List.mem_append_left _ (List.mem_append_left _ (List.mem_append_left _ (List.mem_append_left _ (List.mem_append_left _ (List.mem_append_left _ (List.mem_append_left _ (List.mem_append_left _ (List.mem_append_right _ (List.mem_append_right _ (List.mem_append_right _ (List.mem_append_right _ (List.mem_append_right _ (List.mem_append_right _ (List.mem_append_right _ (List.mem_append_right _ (List.mem_append_right _ (List.mem_append_left _ h)))))))))))))))))))))))
theorem kr_11 : ∀ w ∈ wsL_law_r11, w ∈ wsL_law := fun _ h => List.mem_append_left _ (List.mem_append_left _ (List.mem_append_left _ (List.mem_append_left _ (List.mem_append_left _ (List.mem_append_left _ (List.mem_append_left _ (List.mem_append_left _ (List.mem_append_left _ (List.mem_append_left _ (List.mem_append_left _ (List.mem_append_left _ (List.mem_append_left _ (List.mem_append_left _ (List.mem_append_right _ (List.mem_append_right _ (List.mem_append_right _ (List.mem_append_right _ (List.mem_append_right _ (List.mem_append_right _ (List.mem_append_right _ (List.mem_append_right _ (List.mem_append_right _ (List.mem_append_right _ (List.mem_append_left _ h))))))))))))))))))))))))
theorem kr_12 : ∀ w ∈ wsL_law_r12, w ∈ wsL_law := fun _ h => List.mem_append_left _ (List.mem_append_left _ (List.mem_append_left _ (List.mem_append_left _ (List.mem_append_left _ (List.mem_append_left _ (List.mem_append_left _ (List.mem_append_left _ (List.mem_append_left _ (List.mem_append_left _ (List.mem_append_left _ (List.mem_append_left _ (List.mem_append_left _ (List.mem_append_left _ (List.mem_append_right _ (List.mem_append_right _ (List.mem_append_right _ (List.mem_append_right _ (List.mem_append_right _ (List.mem_append_right _ (List.mem_append_right _ (List.mem_append_right _ (List.mem_append_right _ (List.mem_append_right _ (List.mem_append_right _ (List.mem_append_left _ h)))))))))))))))))))))))))
theorem kr_13 : ∀ w ∈ wsL_law_r13, w ∈ wsL_law := fun _ h => List.mem_append_left _ (List.mem_append_left _ (List.mem_append_left _ (List.mem_append_left _ (List.mem_append_left _ (List.mem_append_left _ (List.mem_append_left _ (List.mem_append_left _ (List.mem_append_left _ (List.mem_append_left _ (List.mem_append_left _ (List.mem_append_left _ (List.mem_append_left _ (List.mem_append_left _ (List.mem_append_right _ (List.mem_append_right _ (List.mem_append_right _ (List.mem_append_right _ (List.mem_append_right _ (List.mem_append_right _ (List.mem_append_right _ (List.mem_append_right _ (List.mem_append_right _ (List.mem_append_right _ (List.mem_append_right _ (List.mem_append_right _ (List.mem_append_left _ h))))))))))))))))))))))))))
theorem kr_14 : ∀ w ∈ wsL_law_r14, w ∈ wsL_law := fun _ h => List.mem_append_left _ (List.mem_append_left _ (List.mem_append_left _ (List.mem_append_left _ (List.mem_append_left _ (List.mem_append_left _ (List.mem_append_left _ (List.mem_append_left _ (List.mem_append_left _ (List.mem_append_left _ (List.mem_append_left _ (List.mem_append_left _ (List.mem_append_left _ (List.mem_append_left _ (List.mem_append_right _ (List.mem_append_right _ (List.mem_append_right _ (List.mem_append_right _ (List.mem_append_right _ (List.mem_append_right _ (List.mem_append_right _ (List.mem_append_right _ (List.mem_append_right _ (List.mem_append_right _ (List.mem_append_right _ (List.mem_append_right _ (List.mem_append_right _ (List.mem_append_left _ h)))))))))))))))))))))))))))
theorem kr_15 : ∀ w ∈ wsL_law_r15, w ∈ wsL_law := fun _ h => List.mem_append_left _ (List.mem_append_left _ (List.mem_append_left _ (List.mem_append_left _ (List.mem_append_left _ (List.mem_append_left _ (List.mem_append_left _ (List.mem_append_left _ (List.mem_append_left _ (List.mem_append_left _ (List.mem_append_left _ (List.mem_append_left _ (List.mem_append_left _ (List.mem_append_left _ (List.mem_append_right _ (List.mem_append_right _ (List.mem_append_right _ (List.mem_append_right _ (List.mem_append_right _ (List.mem_append_right _ (List.mem_append_right _ (List.mem_append_right _ (List.mem_append_right _ (List.mem_append_right _ (List.mem_append_right _ (List.mem_append_right _ (List.mem_append_right _ (List.mem_append_right _ (List.mem_append_left _ h))))))))))))))))))))))))))))
theorem kr_16 : ∀ w ∈ wsL_law_r16, w ∈ wsL_law := fun _ h => List.mem_append_left _ (List.mem_append_left _ (List.mem_append_left _ (List.mem_append_left _ (List.mem_append_left _ (List.mem_append_left _ (List.mem_append_left _ (List.mem_append_left _ (List.mem_append_left _ (List.mem_append_left _ (List.mem_append_left _ (List.mem_append_left _ (List.mem_append_left _ (List.mem_append_left _ (List.mem_append_right _ (List.mem_append_right _ (List.mem_append_right _ (List.mem_append_right _ (List.mem_append_right _ (List.mem_append_right _ (List.mem_append_right _ (List.mem_append_right _ (List.mem_append_right _ (List.mem_append_right _ (List.mem_append_right _ (List.mem_append_right _ (List.mem_append_right _ (List.mem_append_right _ (List.mem_append_right _ (List.mem_append_left _ h)))))))))))))))))))))))))))))
theorem kr_17 : ∀ w ∈ wsL_law_r17, w ∈ wsL_law := fun _ h => List.mem_append_left _ (List.mem_append_left _ (List.mem_append_left _ (List.mem_append_left _ (List.mem_append_left _ (List.mem_append_left _ (List.mem_append_left _ (List.mem_append_left _ (List.mem_append_left _ (List.mem_append_left _ (List.mem_append_left _ (List.mem_append_left _ (List.mem_append_left _ (List.mem_append_left _ (List.mem_append_right _ (List.mem_append_right _ (List.mem_append_right _ (List.mem_append_right _ (List.mem_append_right _ (List.mem_append_right _ (List.mem_append_right _ (List.mem_append_right _ (List.mem_append_right _ (List.mem_append_right _ (List.mem_append_right _ (List.mem_append_right _ (List.mem_append_right _ (List.mem_append_right _ (List.mem_append_right _ (List.mem_append_right _ (List.mem_append_left _ h))))))))))))))))))))))))))))))
theorem kr_18 : ∀ w ∈ wsL_law_r18, w ∈ wsL_law := fun _ h => List.mem_append_left _ (List.mem_append_left _ (List.mem_append_left _ (List.mem_append_left _ (List.mem_append_left _ (List.mem_append_left _ (List.mem_append_left _ (List.mem_append_left _ (List.mem_append_left _ (List.mem_append_left _ (List.mem_append_left _ (List.mem_append_left _ (List.mem_append_left _ (List.mem_append_left _ (List.mem_append_right _ (List.mem_append_right _ (List.mem_append_right _ (List.mem_append_right _ (List.mem_append_right _ (List.mem_append_right _ (List.mem_append_right _ (List.mem_append_right _ (List.mem_append_right _ (List.mem_append_right _ (List.mem_append_right _ (List.mem_append_right _ (List.mem_append_right _ (List.mem_append_right _ (List.mem_append_right _ (List.mem_append_right _ (List.mem_append_right _ (List.mem_append_left _ h)))))))))))))))))))))))))))))))
theorem kr_19 : ∀ w ∈ wsL_law_r19, w ∈ wsL_law := fun _ h => List.mem_append_left _ (List.mem_append_left _ (List.mem_append_left _ (List.mem_append_left _ (List.mem_append_left _ (List.mem_append_left _ (List.mem_append_left _ (List.mem_append_left _ (List.mem_append_left _ (List.mem_append_left _ (List.mem_append_left _ (List.mem_append_left _ (List.mem_append_left _ (List.mem_append_left _ (List.mem_append_right _ (List.mem_append_right _ (List.mem_append_right _ (List.mem_append_right _ (List.mem_append_right _ (List.mem_append_right _ (List.mem_append_right _ (List.mem_append_right _ (List.mem_append_right _ (List.mem_append_right _ (List.mem_append_right _ (List.mem_append_right _ (List.mem_append_right _ (List.mem_append_right _ (List.mem_append_right _ (List.mem_append_right _ (List.mem_append_right _ (List.mem_append_right _ (List.mem_append_left _ h))))))))))))))))))))))))))))))))
theorem kr_20 : ∀ w ∈ wsL_law_r20, w ∈ wsL_law := fun _ h => List.mem_append_left _ (List.mem_append_left _ (List.mem_append_left _ (List.mem_append_left _ (List.mem_append_left _ (List.mem_append_left _ (List.mem_append_left _ (List.mem_append_left _ (List.mem_append_left _ (List.mem_append_left _ (List.mem_append_left _ (List.mem_append_left _ (List.mem_append_left _ (List.mem_append_left _ (List.mem_append_right _ (List.mem_append_right _ (List.mem_append_right _ (List.mem_append_right _ (List.mem_append_right _ (List.mem_append_right _ (List.mem_append_right _ (List.mem_append_right _ (List.mem_append_right _ (List.mem_append_right _ (List.mem_append_right _ (List.mem_append_right _ (List.mem_append_right _ (List.mem_append_right _ (List.mem_append_right _ (List.mem_append_right _ (List.mem_append_right _ (List.mem_append_right _ (List.mem_append_right _ (List.mem_append_left _ h)))))))))))))))))))))))))))))))))
theorem kr_21 : ∀ w ∈ wsL_law_r21, w ∈ wsL_law := fun _ h => List.mem_append_left _ (List.mem_append_left _ (List.mem_append_left _ (List.mem_append_left _ (List.mem_append_left _ (List.mem_append_left _ (List.mem_append_left _ (List.mem_append_left _ (List.mem_append_left _ (List.mem_append_left _ (List.mem_append_left _ (List.mem_append_left _ (List.mem_append_left _ (List.mem_append_left _ (List.mem_append_right _ (List.mem_append_right _ (List.mem_append_right _ (List.mem_append_right _ (List.mem_append_right _ (List.mem_append_right _ (List.mem_append_right _ (List.mem_append_right _ (List.mem_append_right _ (List.mem_append_right _ (List.mem_append_right _ (List.mem_append_right _ (List.mem_append_right _ (List.mem_append_right _ (List.mem_append_right _ (List.mem_append_right _ (List.mem_append_right _ (List.mem_append_right _ (List.mem_append_right _ (List.mem_append_right _ (List.mem_append_left _ h))))))))))))))))))))))))))))))))))
theorem kr_22 : ∀ w ∈ wsL_law_r22, w ∈ wsL_law := fun _ h => List.mem_append_left _ (List.mem_append_left _ (List.mem_append_left _ (List.mem_append_left _ (List.mem_append_left _ (List.mem_append_left _ (List.mem_append_left _ (List.mem_append_left _ (List.mem_append_left _ (List.mem_append_left _ (List.mem_append_left _ (List.mem_append_left _ (List.mem_append_left _ (List.mem_append_left _ (List.mem_append_right _ (List.mem_append_right _ (List.mem_append_right _ (List.mem_append_right _ (List.mem_append_right _ (List.mem_append_right _ (List.mem_append_right _ (List.mem_append_right _ (List.mem_append_right _ (List.mem_append_right _ (List.mem_append_right _ (List.mem_append_right _ (List.mem_append_right _ (List.mem_append_right _ (List.mem_append_right _ (List.mem_append_right _ (List.mem_append_right _ (List.mem_append_right _ (List.mem_append_right _ (List.mem_append_right _ (List.mem_append_right _ (List.mem_append_left _ h)))))))))))))))))))))))))))))))))))
theorem kr_23 : ∀ w ∈ wsL_law_r23, w ∈ wsL_law := fun _ h => List.mem_append_left _ (List.mem_append_left _ (List.mem_append_left _ (List.mem_append_left _ (List.mem_append_left _ (List.mem_append_left _ (List.mem_append_left _ (List.mem_append_left _ (List.mem_append_left _ (List.mem_append_left _ (List.mem_append_left _ (List.mem_append_left _ (List.mem_append_left _ (List.mem_append_left _ (List.mem_append_right _ (List.mem_append_right _ (List.mem_append_right _ (List.mem_append_right _ (List.mem_append_right _ (List.mem_append_right _ (List.mem_append_right _ (List.mem_append_right _ (List.mem_append_right _ (List.mem_append_right _ (List.mem_append_right _ (List.mem_append_right _ (List.mem_append_right _ (List.mem_append_right _ (List.mem_append_right _ (List.mem_append_right _ (List.mem_append_right _ (List.mem_append_right _ (List.mem_append_right _ (List.mem_append_right _ (List.mem_append_right _ (List.mem_append_right _ (List.mem_append_left _ h))))))))))))))))))))))))))))))))))))
theorem kr_24 : ∀ w ∈ wsL_law_r24, w ∈ wsL_law := fun _ h => List.mem_append_left _ (List.mem_append_left _ (List.mem_append_left _ (List.mem_append_left _ (List.mem_append_left _ (List.mem_append_left _ (List.mem_append_left _ (List.mem_append_left _ (List.mem_append_left _ (List.mem_append_left _ (List.mem_append_left _ (List.mem_append_left _ (List.mem_append_left _ (List.mem_append_left _ (List.mem_append_right _ (List.mem_append_right _ (List.mem_append_right _ (List.mem_append_right _ (List.mem_append_right _ (List.mem_append_right _ (List.mem_append_right _ (List.mem_append_right _ (List.mem_append_right _ (List.mem_append_right _ (List.mem_append_right _ (List.mem_append_right _ (List.mem_append_right _ (List.mem_append_right _ (List.mem_append_right _ (List.mem_append_right _ (List.mem_append_right _ (List.mem_append_right _ (List.mem_append_right _ (List.mem_append_right _ (List.mem_append_right _ (List.mem_append_right _ (List.mem_append_right _ (List.mem_append_left _ h)))))))))))))))))))))))))))))))))))))
theorem kr_25 : ∀ w ∈ wsL_law_r25, w ∈ wsL_law := fun _ h => List.mem_append_left _ (List.mem_append_left _ (List.mem_append_left _ (List.mem_append_left _ (List.mem_append_left _ (List.mem_append_left _ (List.mem_append_left _ (List.mem_append_left _ (List.mem_append_left _ (List.mem_append_left _ (List.mem_append_left _ (List.mem_append_left _ (List.mem_append_left _ (List.mem_append_left _ (List.mem_append_right _ (List.mem_append_right _ (List.mem_append_right _ (List.mem_append_right _ (List.mem_append_right _ (List.mem_append_right _ (List.mem_append_right _ (List.mem_append_right _ (List.mem_append_right _ (List.mem_append_right _ (List.mem_append_right _ (List.mem_append_right _ (List.mem_append_right _ (List.mem_append_right _ (List.mem_append_right _ (List.mem_append_right _ (List.mem_append_right _ (List.mem_append_right _ (List.mem_append_right _ (List.mem_append_right _ (List.mem_append_right _ (List.mem_append_right _ (List.mem_append_right _ (List.mem_append_right _ (List.mem_append_left _ h))))))))))))))))))))))))))))))))))))))
theorem kr_26 : ∀ w ∈ wsL_law_r26, w ∈ wsL_law := fun _ h => List.mem_append_left _ (List.mem_append_left _ (List.mem_append_left _ (List.mem_append_left _ (List.mem_append_left _ (List.mem_append_left _ (List.mem_append_left _ (List.mem_append_left _ (List.mem_append_left _ (List.mem_append_left _ (List.mem_append_left _ (List.mem_append_left _ (List.mem_append_left _ (List.mem_append_left _ (List.mem_append_right _ (List.mem_append_right _ (List.mem_append_right _ (List.mem_append_right _ (List.mem_append_right _ (List.mem_append_right _ (List.mem_append_right _ (List.mem_append_right _ (List.mem_append_right _ (List.mem_append_right _ (List.mem_append_right _ (List.mem_append_right _ (List.mem_append_right _ (List.mem_append_right _ (List.mem_append_right _ (List.mem_append_right _ (List.mem_append_right _ (List.mem_append_right _ (List.mem_append_right _ (List.mem_append_right _ (List.mem_append_right _ (List.mem_append_right _ (List.mem_append_right _ (List.mem_append_right _ (List.mem_append_right _ (List.mem_append_left _ h)))))))))))))))))))))))))))))))))))))))
theorem kr_27 : ∀ w ∈ wsL_law_r27, w ∈ wsL_law := fun _ h => List.mem_append_left _ (List.mem_append_left _ (List.mem_append_left _ (List.mem_append_left _ (List.mem_append_left _ (List.mem_append_left _ (List.mem_append_left _ (List.mem_append_left _ (List.mem_append_left _ (List.mem_append_left _ (List.mem_append_left _ (List.mem_append_left _ (List.mem_append_left _ (List.mem_append_left _ (List.mem_append_right _ (List.mem_append_right _ (List.mem_append_right _ (List.mem_append_right _ (List.mem_append_right _ (List.mem_append_right _ (List.mem_append_right _ (List.mem_append_right _ (List.mem_append_right _ (List.mem_append_right _ (List.mem_append_right _ (List.mem_append_right _ (List.mem_append_right _ (List.mem_append_right _ (List.mem_append_right _ (List.mem_append_right _ (List.mem_append_right _ (List.mem_append_right _ (List.mem_append_right _ (List.mem_append_right _ (List.mem_append_right _ (List.mem_append_right _ (List.mem_append_right _ (List.mem_append_right _ (List.mem_append_right _ (List.mem_append_right _ (List.mem_append_left _ h))))))))))))))))))))))))))))))))))))))))
theorem kr_28 : ∀ w ∈ wsL_law_r28, w ∈ wsL_law := fun _ h => List.mem_append_left _ (List.mem_append_left _ (List.mem_append_left _ (List.mem_append_left _ (List.mem_append_left _ (List.mem_append_left _ (List.mem_append_left _ (List.mem_append_left _ (List.mem_append_left _ (List.mem_append_left _ (List.mem_append_left _ (List.mem_append_left _ (List.mem_append_left _ (List.mem_append_left _ (List.mem_append_right _ (List.mem_append_right _ (List.mem_append_right _ (List.mem_append_right _ (List.mem_append_right _ (List.mem_append_right _ (List.mem_append_right _ (List.mem_append_right _ (List.mem_append_right _ (List.mem_append_right _ (List.mem_append_right _ (List.mem_append_right _ (List.mem_append_right _ (List.mem_append_right _ (List.mem_append_right _ (List.mem_append_right _ (List.mem_append_right _ (List.mem_append_right _ (List.mem_append_right _ (List.mem_append_right _ (List.mem_append_right _ (List.mem_append_right _ (List.mem_append_right _ (List.mem_append_right _ (List.mem_append_right _ (List.mem_append_right _ (List.mem_append_right _ (List.mem_append_left _ h)))))))))))))))))))))))))))))))))))))))))
theorem kr_29 : ∀ w ∈ wsL_law_r29, w ∈ wsL_law := fun _ h => List.mem_append_left _ (List.mem_append_left _ (List.mem_append_left _ (List.mem_append_left _ (List.mem_append_left _ (List.mem_append_left _ (List.mem_append_left _ (List.mem_append_left _ (List.mem_append_left _ (List.mem_append_left _ (List.mem_append_left _ (List.mem_append_left _ (List.mem_append_left _ (List.mem_append_left _ (List.mem_append_right _ (List.mem_append_right _ (List.mem_append_right _ (List.mem_append_right _ (List.mem_append_right _ (List.mem_append_right _ (List.mem_append_right _ (List.mem_append_right _ (List.mem_append_right _ (List.mem_append_right _ (List.mem_append_right _ (List.mem_append_right _ (List.mem_append_right _ (List.mem_append_right _ (List.mem_append_right _ (List.mem_append_right _ (List.mem_append_right _ (List.mem_append_right _ (List.mem_append_right _ (List.mem_append_right _ (List.mem_append_right _ (List.mem_append_right _ (List.mem_append_right _ (List.mem_append_right _ (List.mem_append_right _ (List.mem_append_right _ (List.mem_append_right _ (List.mem_append_right _ (List.mem_append_left _ h))))))))))))))))))))))))))))))))))))))))))
theorem kr_30 : ∀ w ∈ wsL_law_r30, w ∈ wsL_law := fun _ h => List.mem_append_left _ (List.mem_append_left _ (List.mem_append_left _ (List.mem_append_left _ (List.mem_append_left _ (List.mem_append_left _ (List.mem_append_left _ (List.mem_append_left _ (List.mem_append_left _ (List.mem_append_left _ (List.mem_append_left _ (List.mem_append_left _ (List.mem_append_left _ (List.mem_append_left _ (List.mem_append_right _ (List.mem_append_right _ (List.mem_append_right _ (List.mem_append_right _ (List.mem_append_right _ (List.mem_append_right _ (List.mem_append_right _ (List.mem_append_right _ (List.mem_append_right _ (List.mem_append_right _ (List.mem_append_right _ (List.mem_append_right _ (List.mem_append_right _ (List.mem_append_right _ (List.mem_append_right _ (List.mem_append_right _ (List.mem_append_right _ (List.mem_append_right _ (List.mem_append_right _ (List.mem_append_right _ (List.mem_append_right _ (List.mem_append_right _ (List.mem_append_right _ (List.mem_append_right _ (List.mem_append_right _ (List.mem_append_right _ (List.mem_append_right _ (List.mem_append_right _ (List.mem_append_right _ (List.mem_append_left _ h)))))))))))))))))))))))))))))))))))))))))))
theorem kr_31 : ∀ w ∈ wsL_law_r31, w ∈ wsL_law := fun _ h => List.mem_append_left _ (List.mem_append_left _ (List.mem_append_left _ (List.mem_append_left _ (List.mem_append_left _ (List.mem_append_left _ (List.mem_append_left _ (List.mem_append_left _ (List.mem_append_left _ (List.mem_append_left _ (List.mem_append_left _ (List.mem_append_left _ (List.mem_append_left _ (List.mem_append_left _ (List.mem_append_right _ (List.mem_append_right _ (List.mem_append_right _ (List.mem_append_right _ (List.mem_append_right _ (List.mem_append_right _ (List.mem_append_right _ (List.mem_append_right _ (List.mem_append_right _ (List.mem_append_right _ (List.mem_append_right _ (List.mem_append_right _ (List.mem_append_right _ (List.mem_append_right _ (List.mem_append_right _ (List.mem_append_right _ (List.mem_append_right _ (List.mem_append_right _ (List.mem_append_right _ (List.mem_append_right _ (List.mem_append_right _ (List.mem_append_right _ (List.mem_append_right _ (List.mem_append_right _ (List.mem_append_right _ (List.mem_append_right _ (List.mem_append_right _ (List.mem_append_right _ (List.mem_append_right _ (List.mem_append_right _ (List.mem_append_left _ h))))))))))))))))))))))))))))))))))))))))))))
theorem kr_32 : ∀ w ∈ wsL_law_r32, w ∈ wsL_law := fun _ h => List.mem_append_left _ (List.mem_append_left _ (List.mem_append_left _ (List.mem_append_left _ (List.mem_append_left _ (List.mem_append_left _ (List.mem_append_left _ (List.mem_append_left _ (List.mem_append_left _ (List.mem_append_left _ (List.mem_append_left _ (List.mem_append_left _ (List.mem_append_left _ (List.mem_append_left _ (List.mem_append_right _ (List.mem_append_right _ (List.mem_append_right _ (List.mem_append_right _ (List.mem_append_right _ (List.mem_append_right _ (List.mem_append_right _ (List.mem_append_right _ (List.mem_append_right _ (List.mem_append_right _ (List.mem_append_right _ (List.mem_append_right _ (List.mem_append_right _ (List.mem_append_right _ (List.mem_append_right _ (List.mem_append_right _ (List.mem_append_right _ (List.mem_append_right _ (List.mem_append_right _ (List.mem_append_right _ (List.mem_append_right _ (List.mem_append_right _ (List.mem_append_right _ (List.mem_append_right _ (List.mem_append_right _ (List.mem_append_right _ (List.mem_append_right _ (List.mem_append_right _ (List.mem_append_right _ (List.mem_append_right _ (List.mem_append_right _ (List.mem_append_left _ h)))))))))))))))))))))))))))))))))))))))))))))
theorem kr_33 : ∀ w ∈ wsL_law_r33, w ∈ wsL_law := fun _ h => List.mem_append_left _ (List.mem_append_left _ (List.mem_append_left _ (List.mem_append_left _ (List.mem_append_left _ (List.mem_append_left _ (List.mem_append_left _ (List.mem_append_left _ (List.mem_append_left _ (List.mem_append_left _ (List.mem_append_left _ (List.mem_append_left _ (List.mem_append_left _ (List.mem_append_left _ (List.mem_append_right _ (List.mem_append_right _ (List.mem_append_right _ (List.mem_append_right _ (List.mem_append_right _ (List.mem_append_right _ (List.mem_append_right _ (List.mem_append_right _ (List.mem_append_right _ (List.mem_append_right _ (List.mem_append_right _ (List.mem_append_right _ (List.mem_append_right _ (List.mem_append_right _ (List.mem_append_right _ (List.mem_append_right _ (List.mem_append_right _ (List.mem_append_right _ (List.mem_append_right _ (List.mem_append_right _ (List.mem_append_right _ (List.mem_append_right _ (List.mem_append_right _ (List.mem_append_right _ (List.mem_append_right _ (List.mem_append_right _ (List.mem_append_right _ (List.mem_append_right _ (List.mem_append_right _ (List.mem_append_right _ (List.mem_append_right _ (List.mem_append_right _ (List.mem_append_left _ h))))))))))))))))))))))))))))))))))))))))))))))
theorem kr_34 : ∀ w ∈ wsL_law_r34, w ∈ wsL_law := fun _ h => List.mem_append_left _ (List.mem_append_left _ (List.mem_append_left _ (List.mem_append_left _ (List.mem_append_left _ (List.mem_append_left _ (List.mem_append_left _ (List.mem_append_left _ (List.mem_append_left _ (List.mem_append_left _ (List.mem_append_left _ (List.mem_append_left _ (List.mem_append_left _ (List.mem_append_left _ (List.mem_append_right _ (List.mem_append_right _ (List.mem_append_right _ (List.mem_append_right _ (List.mem_append_right _ (List.mem_append_right _ (List.mem_append_right _ (List.mem_append_right _ (List.mem_append_right _ (List.mem_append_right _ (List.mem_append_right _ (List.mem_append_right _ (List.mem_append_right _ (List.mem_append_right _ (List.mem_append_right _ (List.mem_append_right _ (List.mem_append_right _ (List.mem_append_right _ (List.mem_append_right _ (List.mem_append_right _ (List.mem_append_right _ (List.mem_append_right _ (List.mem_append_right _ (List.mem_append_right _ (List.mem_append_right _ (List.mem_append_right _ (List.mem_append_right _ (List.mem_append_right _ (List.mem_append_right _ (List.mem_append_right _ (List.mem_append_right _ (List.mem_append_right _ (List.mem_append_right _ (List.mem_append_left _ h)))))))))))))))))))))))))))))))))))))))))))))))
theorem kr_35 : ∀ w ∈ wsL_law_r35, w ∈ wsL_law := fun _ h => List.mem_append_left _ (List.mem_append_left _ (List.mem_append_left _ (List.mem_append_left _ (List.mem_append_left _ (List.mem_append_left _ (List.mem_append_left _ (List.mem_append_left _ (List.mem_append_left _ (List.mem_append_left _ (List.mem_append_left _ (List.mem_append_left _ (List.mem_append_left _ (List.mem_append_left _ (List.mem_append_right _ (List.mem_append_right _ (List.mem_append_right _ (List.mem_append_right _ (List.mem_append_right _ (List.mem_append_right _ (List.mem_append_right _ (List.mem_append_right _ (List.mem_append_right _ (List.mem_append_right _ (List.mem_append_right _ (List.mem_append_right _ (List.mem_append_right _ (List.mem_append_right _ (List.mem_append_right _ (List.mem_append_right _ (List.mem_append_right _ (List.mem_append_right _ (List.mem_append_right _ (List.mem_append_right _ (List.mem_append_right _ (List.mem_append_right _ (List.mem_append_right _ (List.mem_append_right _ (List.mem_append_right _ (List.mem_append_right _ (List.mem_append_right _ (List.mem_append_right _ (List.mem_append_right _ (List.mem_append_right _ (List.mem_append_right _ (List.mem_append_right _ (List.mem_append_right _ (List.mem_append_right _ (List.mem_append_left _ h))))))))))))))))))))))))))))))))))))))))))))))))
theorem kr_36 : ∀ w ∈ wsL_law_r36, w ∈ wsL_law := fun _ h => List.mem_append_left _ (List.mem_append_left _ (List.mem_append_left _ (List.mem_append_left _ (List.mem_append_left _ (List.mem_append_left _ (List.mem_append_left _ (List.mem_append_left _ (List.mem_append_left _ (List.mem_append_left _ (List.mem_append_left _ (List.mem_append_left _ (List.mem_append_left _ (List.mem_append_left _ (List.mem_append_right _ (List.mem_append_right _ (List.mem_append_right _ (List.mem_append_right _ (List.mem_append_right _ (List.mem_append_right _ (List.mem_append_right _ (List.mem_append_right _ (List.mem_append_right _ (List.mem_append_right _ (List.mem_append_right _ (List.mem_append_right _ (List.mem_append_right _ (List.mem_append_right _ (List.mem_append_right _ (List.mem_append_right _ (List.mem_append_right _ (List.mem_append_right _ (List.mem_append_right _ (List.mem_append_right _ (List.mem_append_right _ (List.mem_append_right _ (List.mem_append_right _ (List.mem_append_right _ (List.mem_append_right _ (List.mem_append_right _ (List.mem_append_right _ (List.mem_append_right _ (List.mem_append_right _ (List.mem_append_right _ (List.mem_append_right _ (List.mem_append_right _ (List.mem_append_right _ (List.mem_append_right _ (List.mem_append_right _ (List.mem_append_left _ h)))))))))))))))))))))))))))))))))))))))))))))))))
theorem kr_37 : ∀ w ∈ wsL_law_r37, w ∈ wsL_law := fun _ h => List.mem_append_left _ (List.mem_append_left _ (List.mem_append_left _ (List.mem_append_left _ (List.mem_append_left _ (List.mem_append_left _ (List.mem_append_left _ (List.mem_append_left _ (List.mem_append_left _ (List.mem_append_left _ (List.mem_append_left _ (List.mem_append_left _ (List.mem_append_left _ (List.mem_append_left _ (List.mem_append_right _ (List.mem_append_right _ (List.mem_append_right _ (List.mem_append_right _ (List.mem_append_right _ (List.mem_append_right _ (List.mem_append_right _ (List.mem_append_right _ (List.mem_append_right _ (List.mem_append_right _ (List.mem_append_right _ (List.mem_append_right _ (List.mem_append_right _ (List.mem_append_right _ (List.mem_append_right _ (List.mem_append_right _ (List.mem_append_right _ (List.mem_append_right _ (List.mem_append_right _ (List.mem_append_right _ (List.mem_append_right _ (List.mem_append_right _ (List.mem_append_right _ (List.mem_append_right _ (List.mem_append_right _ (List.mem_append_right _ (List.mem_append_right _ (List.mem_append_right _ (List.mem_append_right _ (List.mem_append_right _ (List.mem_append_right _ (List.mem_append_right _ (List.mem_append_right _ (List.mem_append_right _ (List.mem_append_right _ (List.mem_append_right _ (List.mem_append_left _ h))))))))))))))))))))))))))))))))))))))))))))))))))
theorem kr_38 : ∀ w ∈ wsL_law_r38, w ∈ wsL_law := fun _ h => List.mem_append_left _ (List.mem_append_left _ (List.mem_append_left _ (List.mem_append_left _ (List.mem_append_left _ (List.mem_append_left _ (List.mem_append_left _ (List.mem_append_left _ (List.mem_append_left _ (List.mem_append_left _ (List.mem_append_left _ (List.mem_append_left _ (List.mem_append_left _ (List.mem_append_left _ (List.mem_append_right _ (List.mem_append_right _ (List.mem_append_right _ (List.mem_append_right _ (List.mem_append_right _ (List.mem_append_right _ (List.mem_append_right _ (List.mem_append_right _ (List.mem_append_right _ (List.mem_append_right _ (List.mem_append_right _ (List.mem_append_right _ (List.mem_append_right _ (List.mem_append_right _ (List.mem_append_right _ (List.mem_append_right _ (List.mem_append_right _ (List.mem_append_right _ (List.mem_append_right _ (List.mem_append_right _ (List.mem_append_right _ (List.mem_append_right _ (List.mem_append_right _ (List.mem_append_right _ (List.mem_append_right _ (List.mem_append_right _ (List.mem_append_right _ (List.mem_append_right _ (List.mem_append_right _ (List.mem_append_right _ (List.mem_append_right _ (List.mem_append_right _ (List.mem_append_right _ (List.mem_append_right _ (List.mem_append_right _ (List.mem_append_right _ (List.mem_append_right _ (List.mem_append_left _ h)))))))))))))))))))))))))))))))))))))))))))))))))))
theorem kr_39 : ∀ w ∈ wsL_law_r39, w ∈ wsL_law := fun _ h => List.mem_append_left _ (List.mem_append_left _ (List.mem_append_left _ (List.mem_append_left _ (List.mem_append_left _ (List.mem_append_left _ (List.mem_append_left _ (List.mem_append_left _ (List.mem_append_left _ (List.mem_append_left _ (List.mem_append_left _ (List.mem_append_left _ (List.mem_append_left _ (List.mem_append_left _ (List.mem_append_right _ (List.mem_append_right _ (List.mem_append_right _ (List.mem_append_right _ (List.mem_append_right _ (List.mem_append_right _ (List.mem_append_right _ (List.mem_append_right _ (List.mem_append_right _ (List.mem_append_right _ (List.mem_append_right _ (List.mem_append_right _ (List.mem_append_right _ (List.mem_append_right _ (List.mem_append_right _ (List.mem_append_right _ (List.mem_append_right _ (List.mem_append_right _ (List.mem_append_right _ (List.mem_append_right _ (List.mem_append_right _ (List.mem_append_right _ (List.mem_append_right _ (List.mem_append_right _ (List.mem_append_right _ (List.mem_append_right _ (List.mem_append_right _ (List.mem_append_right _ (List.mem_append_right _ (List.mem_append_right _ (List.mem_append_right _ (List.mem_append_right _ (List.mem_append_right _ (List.mem_append_right _ (List.mem_append_right _ (List.mem_append_right _ (List.mem_append_right _ (List.mem_append_right _ (List.mem_append_left _ h))))))))))))))))))))))))))))))))))))))))))))))))))))
theorem kr_40 : ∀ w ∈ wsL_law_r40, w ∈ wsL_law := fun _ h => List.mem_append_left _ (List.mem_append_left _ (List.mem_append_left _ (List.mem_append_left _ (List.mem_append_left _ (List.mem_append_left _ (List.mem_append_left _ (List.mem_append_left _ (List.mem_append_left _ (List.mem_append_left _ (List.mem_append_left _ (List.mem_append_left _ (List.mem_append_left _ (List.mem_append_left _ (List.mem_append_right _ (List.mem_append_right _ (List.mem_append_right _ (List.mem_append_right _ (List.mem_append_right _ (List.mem_append_right _ (List.mem_append_right _ (List.mem_append_right _ (List.mem_append_right _ (List.mem_append_right _ (List.mem_append_right _ (List.mem_append_right _ (List.mem_append_right _ (List.mem_append_right _ (List.mem_append_right _ (List.mem_append_right _ (List.mem_append_right _ (List.mem_append_right _ (List.mem_append_right _ (List.mem_append_right _ (List.mem_append_right _ (List.mem_append_right _ (List.mem_append_right _ (List.mem_append_right _ (List.mem_append_right _ (List.mem_append_right _ (List.mem_append_right _ (List.mem_append_right _ (List.mem_append_right _ (List.mem_append_right _ (List.mem_append_right _ (List.mem_append_right _ (List.mem_append_right _ (List.mem_append_right _ (List.mem_append_right _ (List.mem_append_right _ (List.mem_append_right _ (List.mem_append_right _ (List.mem_append_right _ (List.mem_append_left _ h)))))))))))))))))))))))))))))))))))))))))))))))))))))
theorem kr_41 : ∀ w ∈ wsL_law_r41, w ∈ wsL_law := fun _ h => List.mem_append_left _ (List.mem_append_left _ (List.mem_append_left _ (List.mem_append_left _ (List.mem_append_left _ (List.mem_append_left _ (List.mem_append_left _ (List.mem_append_left _ (List.mem_append_left _ (List.mem_append_left _ (List.mem_append_left _ (List.mem_append_left _ (List.mem_append_left _ (List.mem_append_left _ (List.mem_append_right _ (List.mem_append_right _ (List.mem_append_right _ (List.mem_append_right _ (List.mem_append_right _ (List.mem_append_right _ (List.mem_append_right _ (List.mem_append_right _ (List.mem_append_right _ (List.mem_append_right _ (List.mem_append_right _ (List.mem_append_right _ (List.mem_append_right _ (List.mem_append_right _ (List.mem_append_right _ (List.mem_append_right _ (List.mem_append_right _ (List.mem_append_right _ (List.mem_append_right _ (List.mem_append_right _ (List.mem_append_right _ (List.mem_append_right _ (List.mem_append_right _ (List.mem_append_right _ (List.mem_append_right _ (List.mem_append_right _ (List.mem_append_right _ (List.mem_append_right _ (List.mem_append_right _ (List.mem_append_right _ (List.mem_append_right _ (List.mem_append_right _ (List.mem_append_right _ (List.mem_append_right _ (List.mem_append_right _ (List.mem_append_right _ (List.mem_append_right _ (List.mem_append_right _ (List.mem_append_right _ (List.mem_append_right _ (List.mem_append_left _ h))))))))))))))))))))))))))))))))))))))))))))))))))))))
theorem kr_42 : ∀ w ∈ wsL_law_r42, w ∈ wsL_law := fun _ h => List.mem_append_left _ (List.mem_append_left _ (List.mem_append_left _ (List.mem_append_left _ (List.mem_append_left _ (List.mem_append_left _ (List.mem_append_left _ (List.mem_append_left _ (List.mem_append_left _ (List.mem_append_left _ (List.mem_append_left _ (List.mem_append_left _ (List.mem_append_left _ (List.mem_append_left _ (List.mem_append_right _ (List.mem_append_right _ (List.mem_append_right _ (List.mem_append_right _ (List.mem_append_right _ (List.mem_append_right _ (List.mem_append_right _ (List.mem_append_right _ (List.mem_append_right _ (List.mem_append_right _ (List.mem_append_right _ (List.mem_append_right _ (List.mem_append_right _ (List.mem_append_right _ (List.mem_append_right _ (List.mem_append_right _ (List.mem_append_right _ (List.mem_append_right _ (List.mem_append_right _ (List.mem_append_right _ (List.mem_append_right _ (List.mem_append_right _ (List.mem_append_right _ (List.mem_append_right _ (List.mem_append_right _ (List.mem_append_right _ (List.mem_append_right _ (List.mem_append_right _ (List.mem_append_right _ (List.mem_append_right _ (List.mem_append_right _ (List.mem_append_right _ (List.mem_append_right _ (List.mem_append_right _ (List.mem_append_right _ (List.mem_append_right _ (List.mem_append_right _ (List.mem_append_right _ (List.mem_append_right _ (List.mem_append_right _ (List.mem_append_right _ (List.mem_append_left _ h)))))))))))))))))))))))))))))))))))))))))))))))))))))))
theorem kr_43 : ∀ w ∈ wsL_law_r43, w ∈ wsL_law := fun _ h => List.mem_append_left _ (List.mem_append_left _ (List.mem_append_left _ (List.mem_append_left _ (List.mem_append_left _ (List.mem_append_left _ (List.mem_append_left _ (List.mem_append_left _ (List.mem_append_left _ (List.mem_append_left _ (List.mem_append_left _ (List.mem_append_left _ (List.mem_append_left _ (List.mem_append_left _ (List.mem_append_right _ (List.mem_append_right _ (List.mem_append_right _ (List.mem_append_right _ (List.mem_append_right _ (List.mem_append_right _ (List.mem_append_right _ (List.mem_append_right _ (List.mem_append_right _ (List.mem_append_right _ (List.mem_append_right _ (List.mem_append_right _ (List.mem_append_right _ (List.mem_append_right _ (List.mem_append_right _ (List.mem_append_right _ (List.mem_append_right _ (List.mem_append_right _ (List.mem_append_right _ (List.mem_append_right _ (List.mem_append_right _ (List.mem_append_right _ (List.mem_append_right _ (List.mem_append_right _ (List.mem_append_right _ (List.mem_append_right _ (List.mem_append_right _ (List.mem_append_right _ (List.mem_append_right _ (List.mem_append_right _ (List.mem_append_right _ (List.mem_append_right _ (List.mem_append_right _ (List.mem_append_right _ (List.mem_append_right _ (List.mem_append_right _ (List.mem_append_right _ (List.mem_append_right _ (List.mem_append_right _ (List.mem_append_right _ (List.mem_append_right _ (List.mem_append_right _ (List.mem_append_left _ h))))))))))))))))))))))))))))))))))))))))))))))))))))))))
theorem kr_44 : ∀ w ∈ wsL_law_r44, w ∈ wsL_law := fun _ h => List.mem_append_left _ (List.mem_append_left _ (List.mem_append_left _ (List.mem_append_left _ (List.mem_append_left _ (List.mem_append_left _ (List.mem_append_left _ (List.mem_append_left _ (List.mem_append_left _ (List.mem_append_left _ (List.mem_append_left _ (List.mem_append_left _ (List.mem_append_left _ (List.mem_append_left _ (List.mem_append_right _ (List.mem_append_right _ (List.mem_append_right _ (List.mem_append_right _ (List.mem_append_right _ (List.mem_append_right _ (List.mem_append_right _ (List.mem_append_right _ (List.mem_append_right _ (List.mem_append_right _ (List.mem_append_right _ (List.mem_append_right _ (List.mem_append_right _ (List.mem_append_right _ (List.mem_append_right _ (List.mem_append_right _ (List.mem_append_right _ (List.mem_append_right _ (List.mem_append_right _ (List.mem_append_right _ (List.mem_append_right _ (List.mem_append_right _ (List.mem_append_right _ (List.mem_append_right _ (List.mem_append_right _ (List.mem_append_right _ (List.mem_append_right _ (List.mem_append_right _ (List.mem_append_right _ (List.mem_append_right _ (List.mem_append_right _ (List.mem_append_right _ (List.mem_append_right _ (List.mem_append_right _ (List.mem_append_right _ (List.mem_append_right _ (List.mem_append_right _ (List.mem_append_right _ (List.mem_append_right _ (List.mem_append_right _ (List.mem_append_right _ (List.mem_append_right _ (List.mem_append_right _ (List.mem_append_left _ h)))))))))))))))))))))))))))))))))))))))))))))))))))))))))
theorem kr_45 : ∀ w ∈ wsL_law_r45, w ∈ wsL_law := fun _ h => List.mem_append_left _ (List.mem_append_left _ (List.mem_append_left _ (List.mem_append_left _ (List.mem_append_left _ (List.mem_append_left _ (List.mem_append_left _ (List.mem_append_left _ (List.mem_append_left _ (List.mem_append_left _ (List.mem_append_left _ (List.mem_append_left _ (List.mem_append_left _ (List.mem_append_left _ (List.mem_append_right _ (List.mem_append_right _ (List.mem_append_right _ (List.mem_append_right _ (List.mem_append_right _ (List.mem_append_right _ (List.mem_append_right _ (List.mem_append_right _ (List.mem_append_right _ (List.mem_append_right _ (List.mem_append_right _ (List.mem_append_right _ (List.mem_append_right _ (List.mem_append_right _ (List.mem_append_right _ (List.mem_append_right _ (List.mem_append_right _ (List.mem_append_right _ (List.mem_append_right _ (List.mem_append_right _ (List.mem_append_right _ (List.mem_append_right _ (List.mem_append_right _ (List.mem_append_right _ (List.mem_append_right _ (List.mem_append_right _ (List.mem_append_right _ (List.mem_append_right _ (List.mem_append_right _ (List.mem_append_right _ (List.mem_append_right _ (List.mem_append_right _ (List.mem_append_right _ (List.mem_append_right _ (List.mem_append_right _ (List.mem_append_right _ (List.mem_append_right _ (List.mem_append_right _ (List.mem_append_right _ (List.mem_append_right _ (List.mem_append_right _ (List.mem_append_right _ (List.mem_append_right _ (List.mem_append_right _ (h))))))))))))))))))))))))))))))))))))))))))))))))))))))))))
end
section
/-! THE FRAME: one world a side, whose int contents are a memory 'region, place'; contracts over the whole world; rows of the walk over it. -/
abbrev Mm : Type := Nat → Nat → Int32
def mset (M : Mm) (r i : Nat) (v : Int32) : Mm := fun a => if a = r then upd (M a) i v else M a
def atf (n : Nat) (f : Nat → Int32) (i : Int32) : Int32 := if i < 0 ∨ n ≤ i.toNatClampNeg then 0 else f i.toNatClampNeg
def putf (n : Nat) (M : Mm) (r : Nat) (i v : Int32) : Mm := if i < 0 ∨ n ≤ i.toNatClampNeg then M else mset M r i.toNatClampNeg v
-- the language of what a method does
def rdc {α : Type} (n : Nat) (f : Nat → Int32) (i : Int32) (k : Int32 → Option α) : Option α := if i < 0 ∨ n ≤ i.toNatClampNeg then none else k (f i.toNatClampNeg)
def inc {α : Type} (n : Nat) (i : Int32) (k : Option α) : Option α := if i < 0 ∨ n ≤ i.toNatClampNeg then none else k
def dvc {α : Type} (y : Int32) (k : Option α) : Option α := if y = 0 then none else k
def dvl {α : Type} (y : Int64) (k : Option α) : Option α := if y = 0 then none else k
def ltI {α : Type} (x : Int32) (k : Int32 → Option α) : Option α := k x
def ltL {α : Type} (x : Int64) (k : Int64 → Option α) : Option α := k x
def ltM {α : Type} (x : Mm) (k : Mm → Option α) : Option α := k x
def itr {σ ρ : Type} (f : σ → Option (σ ⊕ ρ)) : Nat → σ → Option ρ
  | 0, _ => none
  | n + 1, s => (f s).bind fun x => match x with
    | .inl s' => itr f n s'
    | .inr r => some r
theorem rdc_e {α : Type} {n : Nat} {f : Nat → Int32} {i : Int32} {k : Int32 → Option α} {r : α} (h : rdc n f i k = some r) : vp_in i n ∧ k (f i.toNatClampNeg) = some r := by
  unfold rdc at h
  by_cases c : i < 0 ∨ n ≤ i.toNatClampNeg
  · rw [if_pos c] at h; cases h
  · rw [if_neg c] at h; exact ⟨c, h⟩
theorem inc_e {α : Type} {n : Nat} {i : Int32} {k : Option α} {r : α} (h : inc n i k = some r) : vp_in i n ∧ k = some r := by
  unfold inc at h
  by_cases c : i < 0 ∨ n ≤ i.toNatClampNeg
  · rw [if_pos c] at h; cases h
  · rw [if_neg c] at h; exact ⟨c, h⟩
theorem dvc_e {α : Type} {y : Int32} {k : Option α} {r : α} (h : dvc y k = some r) : ¬ y = 0 ∧ k = some r := by
  unfold dvc at h
  by_cases c : y = 0
  · rw [if_pos c] at h; cases h
  · rw [if_neg c] at h; exact ⟨c, h⟩
theorem dvl_e {α : Type} {y : Int64} {k : Option α} {r : α} (h : dvl y k = some r) : ¬ y = 0 ∧ k = some r := by
  unfold dvl at h
  by_cases c : y = 0
  · rw [if_pos c] at h; cases h
  · rw [if_neg c] at h; exact ⟨c, h⟩
theorem ltI_e {α : Type} {x : Int32} {k : Int32 → Option α} {r : α} (h : ltI x k = some r) : ∃ y, y = x ∧ k y = some r := ⟨x, rfl, h⟩
theorem ltL_e {α : Type} {x : Int64} {k : Int64 → Option α} {r : α} (h : ltL x k = some r) : ∃ y, y = x ∧ k y = some r := ⟨x, rfl, h⟩
theorem ltM_e {α : Type} {x : Mm} {k : Mm → Option α} {r : α} (h : ltM x k = some r) : ∃ y, y = x ∧ k y = some r := ⟨x, rfl, h⟩
theorem bnd_e {α β : Type} {o : Option α} {k : α → Option β} {r : β} (h : o.bind k = some r) : ∃ x, o = some x ∧ k x = some r := Option.bind_eq_some_iff.mp h
theorem br_T {α : Type} {c : Prop} [Decidable c] {a b : Option α} {r : α} (h : (if c then a else b) = some r) (hc : c) : a = some r := (if_pos hc).symm.trans h
theorem br_F {α : Type} {c : Prop} [Decidable c] {a b : Option α} {r : α} (h : (if c then a else b) = some r) (hc : ¬ c) : b = some r := (if_neg hc).symm.trans h
/-- what is left of a loop behind one round -/
def itk {σ ρ : Type} (f : σ → Option (σ ⊕ ρ)) (n : Nat) (x : ρ) : σ ⊕ ρ → Prop
  | .inl s' => itr f n s' = some x
  | .inr r => r = x
theorem itr_0 {σ ρ : Type} {f : σ → Option (σ ⊕ ρ)} {s : σ} {x : ρ} (h : itr f 0 s = some x) : False := by cases h
theorem itr_s {σ ρ : Type} {f : σ → Option (σ ⊕ ρ)} {n : Nat} {s : σ} {x : ρ} (h : itr f (n + 1) s = some x) : ∃ y, f s = some y ∧ itk f n x y := by
  unfold itr at h
  obtain ⟨y, h1, h2⟩ := Option.bind_eq_some_iff.mp h
  refine ⟨y, h1, ?_⟩
  cases y with
  | inl s' => exact h2
  | inr r => exact Option.some.inj h2
abbrev remI (x y : Int32) : Int32 := x - x / y * y
abbrev remL (x y : Int64) : Int64 := x - x / y * y
abbrev ushI (x y : Int32) : Int32 := (x.toUInt32 >>> (y.toUInt32 &&& Int32.toUInt32 31)).toInt32
abbrev ushL (x : Int64) (y : Int32) : Int64 := (x.toUInt64 >>> (y.toInt64.toUInt64 &&& Int64.toUInt64 63)).toInt64
abbrev shlL (x : Int64) (y : Int32) : Int64 := x <<< (y.toInt64 &&& 63)
abbrev shrL (x : Int64) (y : Int32) : Int64 := x >>> (y.toInt64 &&& 63)
theorem rdc_v {α : Type} {n : Nat} {f : Nat → Int32} {i : Int32} {k : Int32 → Option α} {r : α} (h : rdc n f i k = some r) : ∃ v, v = f i.toNatClampNeg ∧ vp_in i n ∧ k v = some r := ⟨_, rfl, rdc_e h⟩
theorem itk_l {σ ρ : Type} {f : σ → Option (σ ⊕ ρ)} {n : Nat} {x : ρ} {s : σ} (h : itk f n x (.inl s)) : itr f n s = some x := h
theorem itk_r {σ ρ : Type} {f : σ → Option (σ ⊕ ρ)} {n : Nat} {x r : ρ} (h : itk f n x (.inr r)) : x = r := h.symm
-- the nest mates' links
def NWs (U : State) : Prop := (∀ q ∈ nestF, va_Nw (.fieldLinkNest q.1 q.2.1 q.2.2.1 q.2.2.2.1 q.2.2.2.2.1 q.2.2.2.2.2) U) ∧ (∀ q ∈ nestM, va_Nw (.methodLinkNest q.1 q.2.1 q.2.2.1 q.2.2.2) U)
theorem NWs.warm {s U : State} (hW : s.WarmedH U.vm) (h : NWs s) : NWs U := ⟨fun q hq => va_Nw.warmF hW (h.1 q hq), fun q hq => va_Nw.warmM hW (h.2 q hq)⟩
theorem NWs.same {u U : State} (e : u.vm = U.vm) (h : NWs u) : NWs U := ⟨fun q hq => va_Nw.same rfl e (h.1 q hq), fun q hq => va_Nw.same rfl e (h.2 q hq)⟩
-- words and room
def wsM (y : MethodName) (cc : ByteArray) (maxL : Nat) (ret : Option FieldType) : List Cond := .code y cc maxL ret :: wsL_law
def RM (k : Nat) : Room := { frames := k, cells := 0, slots := 0, locals := 64 * k }
def nrw (ret : Option FieldType) (v : Int32) : Prop := match ret with
  | some ty => narrow ty (.int v) = .int v
  | none => True
-- contracts
def StW (D : va_G) (cI : ClassId) (w : va_W) (sz : Nat) (U : State) : Prop := U.heap.size = sz ∧ va_P D vwCl w U.heap ∧ va_K D vwCl [(cI, .int)] U ∧ va_D (fun _ => True) w ∧ NWs U
def EnW (D : va_G) (cI : ClassId) (w : va_W) (A : Nat → Prop) (t : State) : Prop := va_P D vwCl w t.heap ∧ va_K D vwCl [(cI, .int)] t ∧ va_D A w
def QcI (D : va_G) (cI : ClassId) (w' : va_W) (A : Nat → Prop) (r : Int32) (ret : Option FieldType) : Array Value → State → Outcome → State → Prop := va_Qi (fun (r' : Int32) (_ : Unit) => r' = r ∧ nrw ret r') (fun _ t => EnW D cI w' A t) A
def QcV (D : va_G) (cI : ClassId) (w' : va_W) (A : Nat → Prop) : Array Value → State → Outcome → State → Prop := va_Qv (fun (_ : Unit) => True) (fun _ t => EnW D cI w' A t) A
def CtI (l : Launch) (y : MethodName) (cc : ByteArray) (maxL : Nat) (ret : Option FieldType) (k : Nat) (D : va_G) (cI : ClassId) (w w' : va_W) (av : List Value) (r : Int32) : Prop := ∀ sz : Nat, Met l y (wsM y cc maxL ret) (RM k) (va_Pc av (StW D cI w sz)) (QcI D cI w' (va_A w sz) r ret) 0 0 (va_A w sz)
def CtV (l : Launch) (y : MethodName) (cc : ByteArray) (maxL : Nat) (k : Nat) (D : va_G) (cI : ClassId) (w w' : va_W) (av : List Value) : Prop := ∀ sz : Nat, Met l y (wsM y cc maxL none) (RM k) (va_Pc av (StW D cI w sz)) (QcV D cI w' (va_A w sz)) 0 0 (va_A w sz)
/-- the heap in a walk: the world, apart, and what else has stayed -/
def Hw (D : va_G) (w : va_W) (A : Nat → Prop) (H0 H : Heap) (locs : List Loc) : Prop := va_P D vwCl w H ∧ va_D A w ∧ va_S A H0 H locs
/-- what a walk stands on -/
def Cx (p : Program) (s : State) (m : MethodId) (args : Array Value) (meth : Method) (c : Code) (own : String) (cc : ByteArray) (maxL : Nat) (ret : Option FieldType) (D : va_G) (cI : ClassId) (A : Nat → Prop) : Prop :=
  p.tables.exec = Jvm.exec ∧ c.code = cc ∧ meth.sig.returnType = ret ∧ c.maxLocals = maxL ∧ s.vm.findClass own = some m.cls ∧ meth.locks = false ∧ (∀ w ∈ wsL_law, w.before args s = true) ∧ va_K D vwCl [(cI, .int)] s ∧ NWs s ∧ ∀ q, s.heap.size ≤ q → A q
section XR
variable {p : Program} {l : Launch} {e : Env} {R : Room} {s : State} {m : MethodId} {args : Array Value} {below : List Frame} {meth : Method} {c : Code} {H : Heap} {locs : List Loc} {Q : State → Prop}
variable {cc : ByteArray} {pc : Nat} {ls : Array Slot} {rest st : List Value} {D : va_G} {cI : ClassId} {A : Nat → Prop} {a : Nat} {w w' : va_W} {own : String} {maxL : Nat} {ret : Option FieldType}
theorem x_iret {r v : Int32} {ty : FieldType} (C : Cx p s m args meth c own cc maxL (some ty) D cI A) (hw : Hw D w A s.heap H locs) (hdg : decode cc pc = .ok (.ireturn, 1)) (hn : nrw (some ty) v) (hv : v = r) (hww : w = w') : W p l e R s m args below meth c H locs 0 0 (MQ below (QcI D cI w' A r (some ty)) args s 0 0 A) (F0 m pc ls [.int v]) := by
  obtain ⟨hx, hb, hr, -, -, hlocks, -, hK, -, -⟩ := C
  subst hv; subst hww
  exact W.zret hx hb hr hn (fun t ht hW => ⟨⟨v, (), rfl, ⟨rfl, hn⟩, by rw [ht]; exact hw.1, va_K.moved hW.alike hK, hw.2.1⟩, hw.2.2.F ht⟩) hw.2.2.2.2 hdg hlocks
theorem x_vret (C : Cx p s m args meth c own cc maxL none D cI A) (hw : Hw D w A s.heap H locs) (hdg : decode cc pc = .ok (.return_, 1)) (hww : w = w') : W p l e R s m args below meth c H locs 0 0 (MQ below (QcV D cI w' A) args s 0 0 A) (F0 m pc ls []) := by
  obtain ⟨hx, hb, hr, -, -, hlocks, -, hK, -, -⟩ := C
  subst hww
  exact W.vret hx hb hr (fun t ht hW => ⟨⟨(), rfl, trivial, by rw [ht]; exact hw.1, va_K.moved hW.alike hK, hw.2.1⟩, hw.2.2.F ht⟩) hw.2.2.2.2 hdg hlocks
theorem x_get (C : Cx p s m args meth c own cc maxL ret D cI A) (hw : Hw D w A s.heap H locs) {ref Cn : String} {T : u_T} {n ci index : Nat} (hin : ∀ x ∈ u_ws Cn T n, x ∈ wsL_law) (hc : vwCl[ci]? = some (Cn, T, n)) (q0 k : Nat) (hk : k < n) (hlink : Cond.fieldLink own index ref (T k).2.1 (T k).2.2.1 ∈ wsL_law) (href : ref = (T k).1) {fs : List Value} (he : w[q0]? = some (a, .inr (ci, fs))) {v : Value} (hv : fs[k]? = some v) (hdg : decode cc pc = .ok (.getfield index, 3))
    (kk : W p l e R s m args below meth c H locs 0 0 Q (F0 m (pc + 3) ls (v :: rest))) : W p l e R s m args below meth c H locs 0 0 Q (F0 m pc ls (.ref a :: rest)) := by
  obtain ⟨hx, hb, -, -, hown, -, htB, hK, -, -⟩ := C
  subst href
  exact va_get (Ts := wsL_law) hx hb htB hin hown hK hw.1 q0 he hc k hk (htB _ hlink) (fun _ h9 => h9) hv hdg kk
theorem x_getN (C : Cx p s m args meth c own cc maxL ret D cI A) (hw : Hw D w A s.heap H locs) {ref Cn host : String} {T : u_T} {n ci index : Nat} (hin : ∀ x ∈ u_ws Cn T n, x ∈ wsL_law) (hc : vwCl[ci]? = some (Cn, T, n)) (q0 k : Nat) (hk : k < n) (hlink : (own, index, ref, (T k).2.1, (T k).2.2.1, host) ∈ nestF) (href : ref = (T k).1) {fs : List Value} (he : w[q0]? = some (a, .inr (ci, fs))) {v : Value} (hv : fs[k]? = some v) (hdg : decode cc pc = .ok (.getfield index, 3))
    (kk : W p l e R s m args below meth c H locs 0 0 Q (F0 m (pc + 3) ls (v :: rest))) : W p l e R s m args below meth c H locs 0 0 Q (F0 m pc ls (.ref a :: rest)) := by
  obtain ⟨hx, hb, -, -, hown, -, htB, hK, hN, -⟩ := C
  subst href
  exact va_getN (Ts := wsL_law) hx hb htB hin hown hK hw.1 q0 he hc k hk (va_Nw.use rfl (hN.1 _ hlink)) (fun _ h9 => h9) hv hdg kk
theorem x_put (C : Cx p s m args meth c own cc maxL ret D cI A) (hw : Hw D w A s.heap H locs) {ref Cn : String} {T : u_T} {n ci index : Nat} (hin : ∀ x ∈ u_ws Cn T n, x ∈ wsL_law) (hc : vwCl[ci]? = some (Cn, T, n)) {ty0 : Nat → FieldType} (hty : ∀ k, k < n → parseFieldDescriptor (T k).2.2.1 = some (ty0 k)) (hnm : ∀ a, a < n → ∀ b, b < n → a ≠ b → (T a).2.1 ≠ (T b).2.1) (q0 k : Nat) (hk : k < n) (hlink : Cond.fieldLink own index ref (T k).2.1 (T k).2.2.1 ∈ wsL_law) (href : ref = (T k).1) (hfin : (T k).2.2.2 = false) (hint : (T k).2.2.1 = "I") {fs : List Value} {x : Int32} (he : w[q0]? = some (a, .inr (ci, fs))) (hl : k < fs.length) (hset : w.set q0 (a, .inr (ci, fs.set k (.int x))) = w') (hdg : decode cc pc = .ok (.putfield index, 3))
    (kk : ∀ (H : Heap) (locs : List Loc), Hw D w' A s.heap H locs → W p l e R s m args below meth c H locs 0 0 Q (F0 m (pc + 3) ls rest)) : W p l e R s m args below meth c H locs 0 0 Q (F0 m pc ls (.int x :: .ref a :: rest)) := by
  obtain ⟨hx, hb, -, -, hown, -, htB, hK, -, -⟩ := C
  subst href
  subst hset
  exact va_put (Ts := wsL_law) (ty := .int) hx hb htB hin ty0 hty hnm hown hK hw.1 hw.2.1 hw.2.2 q0 he hc k hk (htB _ hlink) (fun _ h9 => h9) hfin (by rw [hint]; decide +kernel) rfl rfl hl hdg (fun H1 locs1 hP hD hS => kk H1 locs1 ⟨hP, hD, hS⟩)
theorem x_putN (C : Cx p s m args meth c own cc maxL ret D cI A) (hw : Hw D w A s.heap H locs) {ref Cn host : String} {T : u_T} {n ci index : Nat} (hin : ∀ x ∈ u_ws Cn T n, x ∈ wsL_law) (hc : vwCl[ci]? = some (Cn, T, n)) {ty0 : Nat → FieldType} (hty : ∀ k, k < n → parseFieldDescriptor (T k).2.2.1 = some (ty0 k)) (hnm : ∀ a, a < n → ∀ b, b < n → a ≠ b → (T a).2.1 ≠ (T b).2.1) (q0 k : Nat) (hk : k < n) (hlink : (own, index, ref, (T k).2.1, (T k).2.2.1, host) ∈ nestF) (href : ref = (T k).1) (hfin : (T k).2.2.2 = false) (hint : (T k).2.2.1 = "I") {fs : List Value} {x : Int32} (he : w[q0]? = some (a, .inr (ci, fs))) (hl : k < fs.length) (hset : w.set q0 (a, .inr (ci, fs.set k (.int x))) = w') (hdg : decode cc pc = .ok (.putfield index, 3))
    (kk : ∀ (H : Heap) (locs : List Loc), Hw D w' A s.heap H locs → W p l e R s m args below meth c H locs 0 0 Q (F0 m (pc + 3) ls rest)) : W p l e R s m args below meth c H locs 0 0 Q (F0 m pc ls (.int x :: .ref a :: rest)) := by
  obtain ⟨hx, hb, -, -, hown, -, htB, hK, hN, -⟩ := C
  subst href
  subst hset
  exact va_putN (Ts := wsL_law) (ty := .int) hx hb htB hin ty0 hty hnm hown hK hw.1 hw.2.1 hw.2.2 q0 he hc k hk (va_Nw.use rfl (hN.1 _ hlink)) (fun _ h9 => h9) hfin (by rw [hint]; decide +kernel) rfl rfl hl hdg (fun H1 locs1 hP hD hS => kk H1 locs1 ⟨hP, hD, hS⟩)
theorem x_iald (C : Cx p s m args meth c own cc maxL ret D cI A) (hw : Hw D w A s.heap H locs) (q0 : Nat) {n : Nat} {f : Nat → Int32} (he : w[q0]? = some (a, .inl (cI, n, .inl f))) {i : Int32} (hin : vp_in i n) (hdg : decode cc pc = .ok (.iaload, 1))
    (kk : W p l e R s m args below meth c H locs 0 0 Q (F0 m (pc + 1) ls (.int (f i.toNatClampNeg) :: rest))) : W p l e R s m args below meth c H locs 0 0 Q (F0 m pc ls (.int i :: .ref a :: rest)) :=
  va_iald C.1 C.2.1 C.2.2.2.2.2.2.2.1 hw.1 q0 0 he rfl hin hdg kk
theorem x_iast (C : Cx p s m args meth c own cc maxL ret D cI A) (hw : Hw D w A s.heap H locs) (q0 : Nat) {n : Nat} {f : Nat → Int32} (he : w[q0]? = some (a, .inl (cI, n, .inl f))) {i x : Int32} (hin : vp_in i n) (hset : w.set q0 (a, .inl (cI, n, .inl (upd f i.toNatClampNeg x))) = w') (hdg : decode cc pc = .ok (.iastore, 1))
    (kk : ∀ (H : Heap) (locs : List Loc), Hw D w' A s.heap H locs → W p l e R s m args below meth c H locs 0 0 Q (F0 m (pc + 1) ls rest)) : W p l e R s m args below meth c H locs 0 0 Q (F0 m pc ls (.int x :: .int i :: .ref a :: rest)) := by
  subst hset
  exact va_iast C.1 C.2.1 C.2.2.2.2.2.2.2.1 hw.1 hw.2.1 hw.2.2 q0 0 he rfl hin hdg (fun H1 locs1 hP hD hS => kk H1 locs1 ⟨hP, hD, hS⟩)
theorem x_alen (C : Cx p s m args meth c own cc maxL ret D cI A) (hw : Hw D w A s.heap H locs) (q0 : Nat) {n : Nat} {f : Nat → Int32} (he : w[q0]? = some (a, .inl (cI, n, .inl f))) (hdg : decode cc pc = .ok (.arraylength, 1))
    (kk : W p l e R s m args below meth c H locs 0 0 Q (F0 m (pc + 1) ls (.int (nI n) :: rest))) : W p l e R s m args below meth c H locs 0 0 Q (F0 m pc ls (.ref a :: rest)) :=
  va_alen C.1 C.2.1 C.2.2.2.2.2.2.2.1 hw.1 q0 0 he rfl rfl hdg kk
-- calls
theorem wsV_in {own : String} {idx : Nat} {Cn : String} {y : MethodName} {bytes : ByteArray} {mL : Nat} {rt : Option FieldType} (h1 : Cond.methodLink own idx y ∈ wsL_law) (h2 : Cond.instanceMethod y ∈ wsL_law) (h3 : Cond.selects Cn y y ∈ wsL_law) (h4 : Cond.initialized Cn ∈ wsL_law) (h5 : Cond.code y bytes mL rt ∈ wsL_law) : GoodIn wsL_law (wsV own idx Cn y (wsM y bytes mL rt)) := by
  intro x hx
  refine gBIG x ?_
  rcases List.mem_append.mp hx with hx | hx
  · simp only [List.mem_cons, List.not_mem_nil, or_false] at hx
    rcases hx with rfl | rfl | rfl | rfl <;> assumption
  · rcases List.mem_cons.mp hx with rfl | hx
    · exact h5
    · exact hx
theorem wsS_in {own : String} {idx : Nat} {y : MethodName} {bytes : ByteArray} {mL : Nat} {rt : Option FieldType} (h1 : Cond.methodLink own idx y ∈ wsL_law) (h2 : Cond.static y ∈ wsL_law) (h4 : Cond.initialized y.cls ∈ wsL_law) (h5 : Cond.code y bytes mL rt ∈ wsL_law) {s : State} {args : Array Value} {R : Room} {k n : Nat} (htB : ∀ w ∈ wsL_law, w.before args s = true) (hd : y.cls ≠ "java/lang/invoke/MethodHandle" ∧ y.cls ≠ "java/lang/invoke/VarHandle" ∧ (parseMethodDescriptor y.desc).map (fun d => d.parameters.length) = some n) (hR : (RM k).frames + 1 ≤ R.frames ∧ 8 + (mL + 11) + (RM k).locals ≤ R.locals) : CallB R s args own idx y bytes mL rt (wsM y bytes mL rt) (RM k) 0 0 n ∧ (Cond.static y).before args s = true :=
  ⟨callB_of n htB (ws := wsM y bytes mL rt) (Ts := wsL_law) (fun x hx => gBIG x ((List.mem_cons.mp hx).elim (fun q => q ▸ h5) id)) rfl rfl rfl (htB _ h4) (htB _ h1) hd hR, htB _ h2⟩
theorem RM_le {k K mL : Nat} (h : k + 1 ≤ K) (hm : mL ≤ 45) : (RM k).frames + 1 ≤ (RM K).frames ∧ 8 + (mL + 11) + (RM k).locals ≤ (RM K).locals := by
  refine ⟨h, ?_⟩
  show 8 + (mL + 11) + 64 * k ≤ 64 * K
  omega
theorem StW_calling {D : va_G} {cI : ClassId} {w : va_W} {sz : Nat} {av : List Value} : FrameBlind (va_Pc av (StW D cI w sz)) := fun a U g mk q => by
  obtain ⟨q0, q1, qP, qK, qD, qN⟩ := q
  exact ⟨q0, q1, qP, va_K.moved (u := U) (U := U.calling g mk a) (Vm.Alike.refl U.vm) qK, qD, NWs.same (u := U) (U := U.calling g mk a) rfl qN⟩
theorem StW_start (C : Cx p s m args meth c own cc maxL ret D cI A) (hw : Hw D w A s.heap H locs) (av : List Value) : ∀ U : State, U.heap = H → s.WarmedH U.vm → va_Pc av (StW D cI w H.size) av.toArray U := fun U hU hW =>
  ⟨rfl, by rw [hU], by rw [hU]; exact hw.1, va_K.moved hW.alike C.2.2.2.2.2.2.2.1, hw.2.1.weaken (fun _ _ _ _ => trivial), C.2.2.2.2.2.2.2.2.1.warm hW⟩
theorem Hw_free (C : Cx p s m args meth c own cc maxL ret D cI A) (hw : Hw D w A s.heap H locs) : ∀ q, va_A w H.size q → A q := fun q h => by
  rcases h with ⟨k, e, h⟩ | h
  · exact hw.2.1.2 k _ h
  · exact C.2.2.2.2.2.2.2.2.2 q (Nat.le_trans hw.2.2.1 h)
theorem Hw_back (C : Cx p s m args meth c own cc maxL ret D cI A) (hw : Hw D w A s.heap H locs) {H1 : Heap} {locs1 : List Loc} {t : State} (ht : t.heap = H1) (hB : EnW D cI w' (va_A w H.size) t) (hS : va_S A s.heap H1 locs1) : Hw D w' A s.heap H1 locs1 :=
  ⟨by rw [← ht]; exact hB.1, hB.2.2.weaken (fun _ q _ h => Hw_free C hw q.1 h), hS⟩
end XR
theorem CtI_of {l : Launch} {y : MethodName} {cc : ByteArray} {maxL : Nat} {ret : Option FieldType} {k : Nat} {D : va_G} {cI : ClassId} {w w' : va_W} {av : List Value} {r : Int32} (hy : plainName y.cls = true) (hlen : (lg_sl av).length ≤ maxL) (hret0 : ∃ ty, ret = some ty)
    (body : ∀ (p : Program) (e : Env) (s : State) (m : MethodId) (args : Array Value) (below : List Frame) (meth : Method) (c : Code) (A : Nat → Prop) (Q : State → Prop) (ls : Array Slot), Cx p s m args meth c y.cls cc maxL ret D cI A → Hw D w A s.heap s.heap [] → lv_has ls maxL (lv_args 0 av) →
      (∀ (pc : Nat) (ls : Array Slot) (H : Heap) (locs : List Loc), decode cc pc = .ok (.ireturn, 1) → nrw ret r → Hw D w' A s.heap H locs → W p l e (RM k) s m args below meth c H locs 0 0 Q (F0 m pc ls [.int r])) → W p l e (RM k) s m args below meth c s.heap [] 0 0 Q (F0 m 0 ls [])) : CtI l y cc maxL ret k D cI w w' av r := by
  intro sz
  refine Met.ofW (cc := cc) (maxL := maxL) (ret := ret) hy rfl ?_
  intro p e s m args below meth c s₁ B hml hv
  obtain ⟨rfl, hsz, hP, hK, hD0, hN⟩ := hv
  obtain ⟨ty, rfl⟩ := hret0
  have hts := atoms_spec (ws := wsM y cc maxL (some ty)) B.pre
  have hD := hD0.self (sz := s.heap.size)
  subst hsz
  have hl := lv_entry av (n := maxL) hlen
  rw [lg_entry_eq]
  have C : Cx p s m av.toArray meth c y.cls cc maxL (some ty) D cI (va_A w s.heap.size) := ⟨B.exec, B.bytes, B.returns, hml, findClass_of_methodNamed B.named, B.notSynchronized, fun x hx => hts x (List.mem_cons_of_mem _ hx), hK, hN, fun q h => Or.inr h⟩
  exact body p e s m _ below meth c _ _ _ C ⟨hP, hD, va_S.rf⟩ hl (fun pc ls H locs hdg hn hw => x_iret C hw hdg hn rfl rfl)
theorem CtV_of {l : Launch} {y : MethodName} {cc : ByteArray} {maxL : Nat} {k : Nat} {D : va_G} {cI : ClassId} {w w' : va_W} {av : List Value} (hy : plainName y.cls = true) (hlen : (lg_sl av).length ≤ maxL)
    (body : ∀ (p : Program) (e : Env) (s : State) (m : MethodId) (args : Array Value) (below : List Frame) (meth : Method) (c : Code) (A : Nat → Prop) (Q : State → Prop) (ls : Array Slot), Cx p s m args meth c y.cls cc maxL none D cI A → Hw D w A s.heap s.heap [] → lv_has ls maxL (lv_args 0 av) →
      (∀ (pc : Nat) (ls : Array Slot) (H : Heap) (locs : List Loc), decode cc pc = .ok (.return_, 1) → Hw D w' A s.heap H locs → W p l e (RM k) s m args below meth c H locs 0 0 Q (F0 m pc ls [])) → W p l e (RM k) s m args below meth c s.heap [] 0 0 Q (F0 m 0 ls [])) : CtV l y cc maxL k D cI w w' av := by
  intro sz
  refine Met.ofW (cc := cc) (maxL := maxL) (ret := none) hy rfl ?_
  intro p e s m args below meth c s₁ B hml hv
  obtain ⟨rfl, hsz, hP, hK, hD0, hN⟩ := hv
  have hts := atoms_spec (ws := wsM y cc maxL none) B.pre
  have hD := hD0.self (sz := s.heap.size)
  subst hsz
  have hl := lv_entry av (n := maxL) hlen
  rw [lg_entry_eq]
  have C : Cx p s m av.toArray meth c y.cls cc maxL none D cI (va_A w s.heap.size) := ⟨B.exec, B.bytes, B.returns, hml, findClass_of_methodNamed B.named, B.notSynchronized, fun x hx => hts x (List.mem_cons_of_mem _ hx), hK, hN, fun q h => Or.inr h⟩
  exact body p e s m _ below meth c _ _ _ C ⟨hP, hD, va_S.rf⟩ hl (fun pc ls H locs hdg hw => x_vret C hw hdg rfl)
section XC
variable {p : Program} {l : Launch} {e : Env} {K : Nat} {s : State} {m : MethodId} {args : Array Value} {below : List Frame} {meth : Method} {c : Code} {H : Heap} {locs : List Loc} {Q : State → Prop}
variable {cc : ByteArray} {pc : Nat} {ls : Array Slot} {rest st As : List Value} {D : va_G} {cI : ClassId} {A : Nat → Prop} {b : Nat} {w w' : va_W} {own Cn host : String} {maxL mL k n idx : Nat} {ret rt : Option FieldType} {y : MethodName} {bytes : ByteArray} {r : Int32} {lv : List (Nat × Value)}
theorem wsM_in (h5 : Cond.code y bytes mL rt ∈ wsL_law) : GoodIn wsL_law (wsM y bytes mL rt) := fun x hx => gBIG x ((List.mem_cons.mp hx).elim (fun q => q ▸ h5) id)
theorem x_cVI (C : Cx p s m args meth c own cc maxL ret D cI A) (hw : Hw D w A s.heap H locs) (hl : lv_has ls maxL lv) (hc : CtI l y bytes mL rt k D cI w w' (.ref b :: As) r) (hk : k + 1 ≤ K) (hm : mL ≤ 45) (h1 : Cond.methodLink own idx y ∈ wsL_law) (h2 : Cond.instanceMethod y ∈ wsL_law) (h3 : Cond.selects Cn y y ∈ wsL_law) (h4 : Cond.initialized y.cls ∈ wsL_law) (h5 : Cond.code y bytes mL rt ∈ wsL_law) (hd : y.cls ≠ "java/lang/invoke/MethodHandle" ∧ y.cls ≠ "java/lang/invoke/VarHandle" ∧ (parseMethodDescriptor y.desc).map (fun d => d.parameters.length) = some n) (hC : y.cls = Cn) (q0 : Nat) {ci : Nat} {fs : List Value} {q9 : vw_C} (he : w[q0]? = some (b, .inr (ci, fs))) (hcl : vwCl[ci]? = some q9) (hq : q9.1 = Cn) (hn : As.length = n) (hst : st = As.reverse ++ .ref b :: rest) (hcat : (rest.map fun v => v.category).sum ≤ 8) (hdg : decode cc pc = .ok (.invokevirtual idx, 3))
    (kk : ∀ (H : Heap) (locs : List Loc), Hw D w' A s.heap H locs → nrw rt r → W p l e (RM K) s m args below meth c H locs 0 0 Q (F0 m (pc + 3) ls (.int r :: rest))) : W p l e (RM K) s m args below meth c H locs 0 0 Q (F0 m pc ls st) := by
  obtain ⟨hx, hb, hr, hml, hown, hlocks, htB, hK, hN, hA⟩ := id C
  subst hst
  subst hC
  refine va_calli (va_runV (As := As) (rest := rest) (Ts := wsL_law) ⟨hx, hb, hml, hown, htB⟩ (hc H.size) (cwV n htB (wsV_in h1 h2 h3 h4 h5) rfl rfl rfl ⟨rfl, hd⟩ (RM_le hk hm)) ⟨StW_calling, hq ▸ va_recv hK hw.1 hcl he, StW_start C hw (.ref b :: As)⟩ rfl hn hl.1 rfl (lv_room hcat) hdg ⟨Nat.le_refl 0, Nat.le_refl 0⟩) hw.2.2 (fun q _ h => Hw_free C hw q h) (Hw_free C hw) (fun r' u t H1 locs1 ht hvm hp hB hz hk1 hS => ?_)
  obtain ⟨rfl, hn'⟩ := hp
  exact kk H1 locs1 (Hw_back C hw ht hB hS) hn'
theorem x_cVV (C : Cx p s m args meth c own cc maxL ret D cI A) (hw : Hw D w A s.heap H locs) (hl : lv_has ls maxL lv) (hc : CtV l y bytes mL k D cI w w' (.ref b :: As)) (hk : k + 1 ≤ K) (hm : mL ≤ 45) (h1 : Cond.methodLink own idx y ∈ wsL_law) (h2 : Cond.instanceMethod y ∈ wsL_law) (h3 : Cond.selects Cn y y ∈ wsL_law) (h4 : Cond.initialized y.cls ∈ wsL_law) (h5 : Cond.code y bytes mL none ∈ wsL_law) (hd : y.cls ≠ "java/lang/invoke/MethodHandle" ∧ y.cls ≠ "java/lang/invoke/VarHandle" ∧ (parseMethodDescriptor y.desc).map (fun d => d.parameters.length) = some n) (hC : y.cls = Cn) (q0 : Nat) {ci : Nat} {fs : List Value} {q9 : vw_C} (he : w[q0]? = some (b, .inr (ci, fs))) (hcl : vwCl[ci]? = some q9) (hq : q9.1 = Cn) (hn : As.length = n) (hst : st = As.reverse ++ .ref b :: rest) (hcat : (rest.map fun v => v.category).sum ≤ 8) (hdg : decode cc pc = .ok (.invokevirtual idx, 3))
    (kk : ∀ (H : Heap) (locs : List Loc), Hw D w' A s.heap H locs → W p l e (RM K) s m args below meth c H locs 0 0 Q (F0 m (pc + 3) ls rest)) : W p l e (RM K) s m args below meth c H locs 0 0 Q (F0 m pc ls st) := by
  obtain ⟨hx, hb, hr, hml, hown, hlocks, htB, hK, hN, hA⟩ := id C
  subst hst
  subst hC
  refine va_callv (va_runV (As := As) (rest := rest) (Ts := wsL_law) ⟨hx, hb, hml, hown, htB⟩ (hc H.size) (cwV n htB (wsV_in h1 h2 h3 h4 h5) rfl rfl rfl ⟨rfl, hd⟩ (RM_le hk hm)) ⟨StW_calling, hq ▸ va_recv hK hw.1 hcl he, StW_start C hw (.ref b :: As)⟩ rfl hn hl.1 rfl (lv_room hcat) hdg ⟨Nat.le_refl 0, Nat.le_refl 0⟩) hw.2.2 (fun q _ h => Hw_free C hw q h) (Hw_free C hw) (fun u t H1 locs1 ht hvm hp hB hz hk1 hS => ?_)
  exact kk H1 locs1 (Hw_back C hw ht hB hS)
theorem x_cVNI (C : Cx p s m args meth c own cc maxL ret D cI A) (hw : Hw D w A s.heap H locs) (hl : lv_has ls maxL lv) (hc : CtI l y bytes mL rt k D cI w w' (.ref b :: As) r) (hk : k + 1 ≤ K) (hm : mL ≤ 45) (h1 : (own, idx, y, host) ∈ nestM) (h2 : Cond.instanceMethod y ∈ wsL_law) (h3 : Cond.selects Cn y y ∈ wsL_law) (h4 : Cond.initialized y.cls ∈ wsL_law) (h5 : Cond.code y bytes mL rt ∈ wsL_law) (hd : y.cls ≠ "java/lang/invoke/MethodHandle" ∧ y.cls ≠ "java/lang/invoke/VarHandle" ∧ (parseMethodDescriptor y.desc).map (fun d => d.parameters.length) = some n) (hC : y.cls = Cn) (q0 : Nat) {ci : Nat} {fs : List Value} {q9 : vw_C} (he : w[q0]? = some (b, .inr (ci, fs))) (hcl : vwCl[ci]? = some q9) (hq : q9.1 = Cn) (hn : As.length = n) (hst : st = As.reverse ++ .ref b :: rest) (hcat : (rest.map fun v => v.category).sum ≤ 8) (hdg : decode cc pc = .ok (.invokevirtual idx, 3))
    (kk : ∀ (H : Heap) (locs : List Loc), Hw D w' A s.heap H locs → nrw rt r → W p l e (RM K) s m args below meth c H locs 0 0 Q (F0 m (pc + 3) ls (.int r :: rest))) : W p l e (RM K) s m args below meth c H locs 0 0 Q (F0 m pc ls st) := by
  obtain ⟨hx, hb, hr, hml, hown, hlocks, htB, hK, hN, hA⟩ := id C
  subst hst
  subst hC
  refine va_calli (va_runVN (As := As) (rest := rest) (Ts := wsL_law) ⟨hx, hb, hml, hown, htB⟩ (hc H.size) ⟨va_cnB n htB (wsM_in h5) rfl rfl rfl (hN.2 _ h1) (htB _ h4) hd (RM_le hk hm), htB _ h2, htB _ h3⟩ ⟨StW_calling, hq ▸ va_recv hK hw.1 hcl he, StW_start C hw (.ref b :: As)⟩ rfl hn hl.1 rfl (lv_room hcat) hdg ⟨Nat.le_refl 0, Nat.le_refl 0⟩) hw.2.2 (fun q _ h => Hw_free C hw q h) (Hw_free C hw) (fun r' u t H1 locs1 ht hvm hp hB hz hk1 hS => ?_)
  obtain ⟨rfl, hn'⟩ := hp
  exact kk H1 locs1 (Hw_back C hw ht hB hS) hn'
theorem x_cVNV (C : Cx p s m args meth c own cc maxL ret D cI A) (hw : Hw D w A s.heap H locs) (hl : lv_has ls maxL lv) (hc : CtV l y bytes mL k D cI w w' (.ref b :: As)) (hk : k + 1 ≤ K) (hm : mL ≤ 45) (h1 : (own, idx, y, host) ∈ nestM) (h2 : Cond.instanceMethod y ∈ wsL_law) (h3 : Cond.selects Cn y y ∈ wsL_law) (h4 : Cond.initialized y.cls ∈ wsL_law) (h5 : Cond.code y bytes mL none ∈ wsL_law) (hd : y.cls ≠ "java/lang/invoke/MethodHandle" ∧ y.cls ≠ "java/lang/invoke/VarHandle" ∧ (parseMethodDescriptor y.desc).map (fun d => d.parameters.length) = some n) (hC : y.cls = Cn) (q0 : Nat) {ci : Nat} {fs : List Value} {q9 : vw_C} (he : w[q0]? = some (b, .inr (ci, fs))) (hcl : vwCl[ci]? = some q9) (hq : q9.1 = Cn) (hn : As.length = n) (hst : st = As.reverse ++ .ref b :: rest) (hcat : (rest.map fun v => v.category).sum ≤ 8) (hdg : decode cc pc = .ok (.invokevirtual idx, 3))
    (kk : ∀ (H : Heap) (locs : List Loc), Hw D w' A s.heap H locs → W p l e (RM K) s m args below meth c H locs 0 0 Q (F0 m (pc + 3) ls rest)) : W p l e (RM K) s m args below meth c H locs 0 0 Q (F0 m pc ls st) := by
  obtain ⟨hx, hb, hr, hml, hown, hlocks, htB, hK, hN, hA⟩ := id C
  subst hst
  subst hC
  refine va_callv (va_runVN (As := As) (rest := rest) (Ts := wsL_law) ⟨hx, hb, hml, hown, htB⟩ (hc H.size) ⟨va_cnB n htB (wsM_in h5) rfl rfl rfl (hN.2 _ h1) (htB _ h4) hd (RM_le hk hm), htB _ h2, htB _ h3⟩ ⟨StW_calling, hq ▸ va_recv hK hw.1 hcl he, StW_start C hw (.ref b :: As)⟩ rfl hn hl.1 rfl (lv_room hcat) hdg ⟨Nat.le_refl 0, Nat.le_refl 0⟩) hw.2.2 (fun q _ h => Hw_free C hw q h) (Hw_free C hw) (fun u t H1 locs1 ht hvm hp hB hz hk1 hS => ?_)
  exact kk H1 locs1 (Hw_back C hw ht hB hS)
theorem x_cSI (C : Cx p s m args meth c own cc maxL ret D cI A) (hw : Hw D w A s.heap H locs) (hl : lv_has ls maxL lv) (hc : CtI l y bytes mL rt k D cI w w' As r) (hk : k + 1 ≤ K) (hm : mL ≤ 45) (h1 : Cond.methodLink own idx y ∈ wsL_law) (h2 : Cond.static y ∈ wsL_law) (h4 : Cond.initialized y.cls ∈ wsL_law) (h5 : Cond.code y bytes mL rt ∈ wsL_law) (hd : y.cls ≠ "java/lang/invoke/MethodHandle" ∧ y.cls ≠ "java/lang/invoke/VarHandle" ∧ (parseMethodDescriptor y.desc).map (fun d => d.parameters.length) = some n) (hn : As.length = n) (hst : st = As.reverse ++ rest) (hcat : (rest.map fun v => v.category).sum ≤ 8) (hdg : decode cc pc = .ok (.invokestatic idx, 3))
    (kk : ∀ (H : Heap) (locs : List Loc), Hw D w' A s.heap H locs → nrw rt r → W p l e (RM K) s m args below meth c H locs 0 0 Q (F0 m (pc + 3) ls (.int r :: rest))) : W p l e (RM K) s m args below meth c H locs 0 0 Q (F0 m pc ls st) := by
  obtain ⟨hx, hb, hr, hml, hown, hlocks, htB, hK, hN, hA⟩ := id C
  subst hst
  refine va_calli (va_runS (As := As) (rest := rest) (Ts := wsL_law) ⟨hx, hb, hml, hown, htB⟩ (hc H.size) (wsS_in h1 h2 h4 h5 htB hd (RM_le hk hm)) ⟨StW_calling, StW_start C hw As⟩ rfl hn hl.1 rfl (lv_room hcat) hdg ⟨Nat.le_refl 0, Nat.le_refl 0⟩) hw.2.2 (fun q _ h => Hw_free C hw q h) (Hw_free C hw) (fun r' u t H1 locs1 ht hvm hp hB hz hk1 hS => ?_)
  obtain ⟨rfl, hn'⟩ := hp
  exact kk H1 locs1 (Hw_back C hw ht hB hS) hn'
theorem x_cSV (C : Cx p s m args meth c own cc maxL ret D cI A) (hw : Hw D w A s.heap H locs) (hl : lv_has ls maxL lv) (hc : CtV l y bytes mL k D cI w w' As) (hk : k + 1 ≤ K) (hm : mL ≤ 45) (h1 : Cond.methodLink own idx y ∈ wsL_law) (h2 : Cond.static y ∈ wsL_law) (h4 : Cond.initialized y.cls ∈ wsL_law) (h5 : Cond.code y bytes mL none ∈ wsL_law) (hd : y.cls ≠ "java/lang/invoke/MethodHandle" ∧ y.cls ≠ "java/lang/invoke/VarHandle" ∧ (parseMethodDescriptor y.desc).map (fun d => d.parameters.length) = some n) (hn : As.length = n) (hst : st = As.reverse ++ rest) (hcat : (rest.map fun v => v.category).sum ≤ 8) (hdg : decode cc pc = .ok (.invokestatic idx, 3))
    (kk : ∀ (H : Heap) (locs : List Loc), Hw D w' A s.heap H locs → W p l e (RM K) s m args below meth c H locs 0 0 Q (F0 m (pc + 3) ls rest)) : W p l e (RM K) s m args below meth c H locs 0 0 Q (F0 m pc ls st) := by
  obtain ⟨hx, hb, hr, hml, hown, hlocks, htB, hK, hN, hA⟩ := id C
  subst hst
  refine va_callv (va_runS (As := As) (rest := rest) (Ts := wsL_law) ⟨hx, hb, hml, hown, htB⟩ (hc H.size) (wsS_in h1 h2 h4 h5 htB hd (RM_le hk hm)) ⟨StW_calling, StW_start C hw As⟩ rfl hn hl.1 rfl (lv_room hcat) hdg ⟨Nat.le_refl 0, Nat.le_refl 0⟩) hw.2.2 (fun q _ h => Hw_free C hw q h) (Hw_free C hw) (fun u t H1 locs1 ht hvm hp hB hz hk1 hS => ?_)
  exact kk H1 locs1 (Hw_back C hw ht hB hS)
theorem x_cSNI (C : Cx p s m args meth c own cc maxL ret D cI A) (hw : Hw D w A s.heap H locs) (hl : lv_has ls maxL lv) (hc : CtI l y bytes mL rt k D cI w w' As r) (hk : k + 1 ≤ K) (hm : mL ≤ 45) (h1 : (own, idx, y, host) ∈ nestM) (h2 : Cond.static y ∈ wsL_law) (h4 : Cond.initialized y.cls ∈ wsL_law) (h5 : Cond.code y bytes mL rt ∈ wsL_law) (hd : y.cls ≠ "java/lang/invoke/MethodHandle" ∧ y.cls ≠ "java/lang/invoke/VarHandle" ∧ (parseMethodDescriptor y.desc).map (fun d => d.parameters.length) = some n) (hn : As.length = n) (hst : st = As.reverse ++ rest) (hcat : (rest.map fun v => v.category).sum ≤ 8) (hdg : decode cc pc = .ok (.invokestatic idx, 3))
    (kk : ∀ (H : Heap) (locs : List Loc), Hw D w' A s.heap H locs → nrw rt r → W p l e (RM K) s m args below meth c H locs 0 0 Q (F0 m (pc + 3) ls (.int r :: rest))) : W p l e (RM K) s m args below meth c H locs 0 0 Q (F0 m pc ls st) := by
  obtain ⟨hx, hb, hr, hml, hown, hlocks, htB, hK, hN, hA⟩ := id C
  subst hst
  refine va_calli (va_runSN (As := As) (rest := rest) (Ts := wsL_law) ⟨hx, hb, hml, hown, htB⟩ (hc H.size) ⟨va_cnB n htB (wsM_in h5) rfl rfl rfl (hN.2 _ h1) (htB _ h4) hd (RM_le hk hm), htB _ h2, trivial⟩ ⟨StW_calling, StW_start C hw As⟩ rfl hn hl.1 rfl (lv_room hcat) hdg ⟨Nat.le_refl 0, Nat.le_refl 0⟩) hw.2.2 (fun q _ h => Hw_free C hw q h) (Hw_free C hw) (fun r' u t H1 locs1 ht hvm hp hB hz hk1 hS => ?_)
  obtain ⟨rfl, hn'⟩ := hp
  exact kk H1 locs1 (Hw_back C hw ht hB hS) hn'
theorem x_cSNV (C : Cx p s m args meth c own cc maxL ret D cI A) (hw : Hw D w A s.heap H locs) (hl : lv_has ls maxL lv) (hc : CtV l y bytes mL k D cI w w' As) (hk : k + 1 ≤ K) (hm : mL ≤ 45) (h1 : (own, idx, y, host) ∈ nestM) (h2 : Cond.static y ∈ wsL_law) (h4 : Cond.initialized y.cls ∈ wsL_law) (h5 : Cond.code y bytes mL none ∈ wsL_law) (hd : y.cls ≠ "java/lang/invoke/MethodHandle" ∧ y.cls ≠ "java/lang/invoke/VarHandle" ∧ (parseMethodDescriptor y.desc).map (fun d => d.parameters.length) = some n) (hn : As.length = n) (hst : st = As.reverse ++ rest) (hcat : (rest.map fun v => v.category).sum ≤ 8) (hdg : decode cc pc = .ok (.invokestatic idx, 3))
    (kk : ∀ (H : Heap) (locs : List Loc), Hw D w' A s.heap H locs → W p l e (RM K) s m args below meth c H locs 0 0 Q (F0 m (pc + 3) ls rest)) : W p l e (RM K) s m args below meth c H locs 0 0 Q (F0 m pc ls st) := by
  obtain ⟨hx, hb, hr, hml, hown, hlocks, htB, hK, hN, hA⟩ := id C
  subst hst
  refine va_callv (va_runSN (As := As) (rest := rest) (Ts := wsL_law) ⟨hx, hb, hml, hown, htB⟩ (hc H.size) ⟨va_cnB n htB (wsM_in h5) rfl rfl rfl (hN.2 _ h1) (htB _ h4) hd (RM_le hk hm), htB _ h2, trivial⟩ ⟨StW_calling, StW_start C hw As⟩ rfl hn hl.1 rfl (lv_room hcat) hdg ⟨Nat.le_refl 0, Nat.le_refl 0⟩) hw.2.2 (fun q _ h => Hw_free C hw q h) (Hw_free C hw) (fun u t H1 locs1 ht hvm hp hB hz hk1 hS => ?_)
  exact kk H1 locs1 (Hw_back C hw ht hB hS)
end XC
end
