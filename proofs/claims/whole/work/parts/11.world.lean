/-! THE TWO WORLDS (the class', the reference's), the words that rows use, OffFirst.at and .put. Written by wip/whole/gen.py. -/
/-- the cells of the X side, in the order of their making: 0 this, 1 text, 2 text_bytes, 3 text_numbers, 4 draft, 5 draft_cells, 6 draft_cells_warm, 7 draft_cells_more, 8 draft_cells_room, 9 draft_foods, 10 draft_foods_kind, 11 draft_foods_cell, 12 draft_foods_coin, 13 draft_foods_life, 14 draft_foods_printed, 15 draft_foods_sort, 16 draft_foods_ofSort, 17 draft_dishes, 18 draft_eaters, 19 draft_party, 20 draft_party_guests, 21 draft_party_weight, 22 laid, 23 laid_cells, 24 laid_cells_warm, 25 laid_cells_more, 26 laid_cells_room, 27 laid_foods, 28 laid_foods_kind, 29 laid_foods_cell, 30 laid_foods_coin, 31 laid_foods_life, 32 laid_foods_printed, 33 laid_foods_sort, 34 laid_foods_ofSort, 35 laid_dishes, 36 laid_eaters, 37 laid_party, 38 laid_party_guests, 39 laid_party_weight, 40 stock, 41 stock_kind, 42 stock_cell, 43 stock_age, 44 stock_fate, 45 stock_leftIn, 46 firstKept, 47 firstKept_kind, 48 firstKept_cell, 49 firstKept_age, 50 firstKept_fate, 51 firstKept_leftIn, 52 secondKept, 53 secondKept_kind, 54 secondKept_cell, 55 secondKept_age, 56 secondKept_fate, 57 secondKept_leftIn, 58 fridge, 59 evenings, 60 evenings_ages, 61 evenings_limits, 62 evenings_offs, 63 planner, 64 planner_row, 65 planner_best, 66 layer, 67 layer_lostIn, 68 layer_free, 69 layer_way, 70 layer_best, 71 spans, 72 spans_warm, 73 spans_hours -/
def wX (h : Nat → Nat) (cI : ClassId) (M : Mm) : va_W := [(h 0, .inr (11, [.ref (h 1), .ref (h 4), .ref (h 22), .ref (h 40), .ref (h 46), .ref (h 52), .int (M 0 6), .ref (h 58), .ref (h 59), .ref (h 63), .ref (h 66), .ref (h 71)])), (h 1, .inr (9, [.ref (h 2), .int (M 1 1), .int (M 1 2), .ref (h 3), .int (M 1 4)])), (h 2, .inl (cI, 400, .inl (M 2))), (h 3, .inl (cI, 6, .inl (M 3))), (h 4, .inr (10, [.ref (h 5), .ref (h 9), .ref (h 17), .int (M 4 3), .ref (h 18), .int (M 4 5), .ref (h 19), .int (M 4 7)])), (h 5, .inr (0, [.ref (h 6), .ref (h 7), .ref (h 8), .int (M 5 3), .int (M 5 4)])), (h 6, .inl (cI, 6, .inl (M 6))), (h 7, .inl (cI, 6, .inl (M 7))), (h 8, .inl (cI, 6, .inl (M 8))), (h 9, .inr (2, [.ref (h 10), .ref (h 11), .ref (h 12), .ref (h 13), .ref (h 14), .ref (h 15), .ref (h 16), .int (M 9 7)])), (h 10, .inl (cI, 10, .inl (M 10))), (h 11, .inl (cI, 10, .inl (M 11))), (h 12, .inl (cI, 10, .inl (M 12))), (h 13, .inl (cI, 10, .inl (M 13))), (h 14, .inl (cI, 10, .inl (M 14))), (h 15, .inl (cI, 10, .inl (M 15))), (h 16, .inl (cI, 4, .inl (M 16))), (h 17, .inl (cI, 5, .inl (M 17))), (h 18, .inl (cI, 4, .inl (M 18))), (h 19, .inr (5, [.ref (h 20), .ref (h 21), .int (M 19 2), .int (M 19 3), .int (M 19 4)])), (h 20, .inl (cI, 6, .inl (M 20))), (h 21, .inl (cI, 6, .inl (M 21))), (h 22, .inr (10, [.ref (h 23), .ref (h 27), .ref (h 35), .int (M 22 3), .ref (h 36), .int (M 22 5), .ref (h 37), .int (M 22 7)])), (h 23, .inr (0, [.ref (h 24), .ref (h 25), .ref (h 26), .int (M 23 3), .int (M 23 4)])), (h 24, .inl (cI, 6, .inl (M 24))), (h 25, .inl (cI, 6, .inl (M 25))), (h 26, .inl (cI, 6, .inl (M 26))), (h 27, .inr (2, [.ref (h 28), .ref (h 29), .ref (h 30), .ref (h 31), .ref (h 32), .ref (h 33), .ref (h 34), .int (M 27 7)])), (h 28, .inl (cI, 10, .inl (M 28))), (h 29, .inl (cI, 10, .inl (M 29))), (h 30, .inl (cI, 10, .inl (M 30))), (h 31, .inl (cI, 10, .inl (M 31))), (h 32, .inl (cI, 10, .inl (M 32))), (h 33, .inl (cI, 10, .inl (M 33))), (h 34, .inl (cI, 4, .inl (M 34))), (h 35, .inl (cI, 5, .inl (M 35))), (h 36, .inl (cI, 4, .inl (M 36))), (h 37, .inr (5, [.ref (h 38), .ref (h 39), .int (M 37 2), .int (M 37 3), .int (M 37 4)])), (h 38, .inl (cI, 6, .inl (M 38))), (h 39, .inl (cI, 6, .inl (M 39))), (h 40, .inr (8, [.ref (h 41), .ref (h 42), .ref (h 43), .ref (h 44), .ref (h 45), .int (M 40 5), .int (M 40 6)])), (h 41, .inl (cI, 10, .inl (M 41))), (h 42, .inl (cI, 10, .inl (M 42))), (h 43, .inl (cI, 10, .inl (M 43))), (h 44, .inl (cI, 10, .inl (M 44))), (h 45, .inl (cI, 10, .inl (M 45))), (h 46, .inr (8, [.ref (h 47), .ref (h 48), .ref (h 49), .ref (h 50), .ref (h 51), .int (M 46 5), .int (M 46 6)])), (h 47, .inl (cI, 10, .inl (M 47))), (h 48, .inl (cI, 10, .inl (M 48))), (h 49, .inl (cI, 10, .inl (M 49))), (h 50, .inl (cI, 10, .inl (M 50))), (h 51, .inl (cI, 10, .inl (M 51))), (h 52, .inr (8, [.ref (h 53), .ref (h 54), .ref (h 55), .ref (h 56), .ref (h 57), .int (M 52 5), .int (M 52 6)])), (h 53, .inl (cI, 10, .inl (M 53))), (h 54, .inl (cI, 10, .inl (M 54))), (h 55, .inl (cI, 10, .inl (M 55))), (h 56, .inl (cI, 10, .inl (M 56))), (h 57, .inl (cI, 10, .inl (M 57))), (h 58, .inr (3, [.ref (h 22), .ref (h 40)])), (h 59, .inr (1, [.ref (h 58), .ref (h 60), .ref (h 61), .ref (h 62)])), (h 60, .inl (cI, 200, .inl (M 60))), (h 61, .inl (cI, 10, .inl (M 61))), (h 62, .inl (cI, 20, .inl (M 62))), (h 63, .inr (6, [.ref (h 58), .ref (h 59), .ref (h 64), .ref (h 65), .int (M 63 4), .int (M 63 5)])), (h 64, .inl (cI, 4, .inl (M 64))), (h 65, .inl (cI, 4, .inl (M 65))), (h 66, .inr (4, [.ref (h 58), .ref (h 67), .ref (h 68), .ref (h 69), .ref (h 70), .int (M 66 5), .int (M 66 6)])), (h 67, .inl (cI, 24, .inl (M 67))), (h 68, .inl (cI, 6, .inl (M 68))), (h 69, .inl (cI, 4, .inl (M 69))), (h 70, .inl (cI, 4, .inl (M 70))), (h 71, .inr (7, [.ref (h 72), .ref (h 73), .int (M 71 2)])), (h 72, .inl (cI, 8, .inl (M 72))), (h 73, .inl (cI, 8, .inl (M 73)))]
theorem wX_c0 (h : Nat → Nat) (cI : ClassId) (M : Mm) : (wX h cI M)[0]? = some (h 0, .inr (11, [.ref (h 1), .ref (h 4), .ref (h 22), .ref (h 40), .ref (h 46), .ref (h 52), .int (M 0 6), .ref (h 58), .ref (h 59), .ref (h 63), .ref (h 66), .ref (h 71)])) := rfl
theorem wX_s0_6 (h : Nat → Nat) (cI : ClassId) (M : Mm) (v : Int32) : (wX h cI M).set 0 (h 0, .inr (11, [.ref (h 1), .ref (h 4), .ref (h 22), .ref (h 40), .ref (h 46), .ref (h 52), .int (M 0 6), .ref (h 58), .ref (h 59), .ref (h 63), .ref (h 66), .ref (h 71)].set 6 (.int v))) = wX h cI (mset M 0 6 v) := rfl
theorem wX_c1 (h : Nat → Nat) (cI : ClassId) (M : Mm) : (wX h cI M)[1]? = some (h 1, .inr (9, [.ref (h 2), .int (M 1 1), .int (M 1 2), .ref (h 3), .int (M 1 4)])) := rfl
theorem wX_s1_1 (h : Nat → Nat) (cI : ClassId) (M : Mm) (v : Int32) : (wX h cI M).set 1 (h 1, .inr (9, [.ref (h 2), .int (M 1 1), .int (M 1 2), .ref (h 3), .int (M 1 4)].set 1 (.int v))) = wX h cI (mset M 1 1 v) := rfl
theorem wX_s1_2 (h : Nat → Nat) (cI : ClassId) (M : Mm) (v : Int32) : (wX h cI M).set 1 (h 1, .inr (9, [.ref (h 2), .int (M 1 1), .int (M 1 2), .ref (h 3), .int (M 1 4)].set 2 (.int v))) = wX h cI (mset M 1 2 v) := rfl
theorem wX_s1_4 (h : Nat → Nat) (cI : ClassId) (M : Mm) (v : Int32) : (wX h cI M).set 1 (h 1, .inr (9, [.ref (h 2), .int (M 1 1), .int (M 1 2), .ref (h 3), .int (M 1 4)].set 4 (.int v))) = wX h cI (mset M 1 4 v) := rfl
theorem wX_c2 (h : Nat → Nat) (cI : ClassId) (M : Mm) : (wX h cI M)[2]? = some (h 2, .inl (cI, 400, .inl (M 2))) := rfl
theorem wX_a2 (h : Nat → Nat) (cI : ClassId) (M : Mm) (i : Nat) (v : Int32) : (wX h cI M).set 2 (h 2, .inl (cI, 400, .inl (upd (M 2) i v))) = wX h cI (mset M 2 i v) := rfl
theorem wX_c3 (h : Nat → Nat) (cI : ClassId) (M : Mm) : (wX h cI M)[3]? = some (h 3, .inl (cI, 6, .inl (M 3))) := rfl
theorem wX_a3 (h : Nat → Nat) (cI : ClassId) (M : Mm) (i : Nat) (v : Int32) : (wX h cI M).set 3 (h 3, .inl (cI, 6, .inl (upd (M 3) i v))) = wX h cI (mset M 3 i v) := rfl
theorem wX_c4 (h : Nat → Nat) (cI : ClassId) (M : Mm) : (wX h cI M)[4]? = some (h 4, .inr (10, [.ref (h 5), .ref (h 9), .ref (h 17), .int (M 4 3), .ref (h 18), .int (M 4 5), .ref (h 19), .int (M 4 7)])) := rfl
theorem wX_s4_3 (h : Nat → Nat) (cI : ClassId) (M : Mm) (v : Int32) : (wX h cI M).set 4 (h 4, .inr (10, [.ref (h 5), .ref (h 9), .ref (h 17), .int (M 4 3), .ref (h 18), .int (M 4 5), .ref (h 19), .int (M 4 7)].set 3 (.int v))) = wX h cI (mset M 4 3 v) := rfl
theorem wX_s4_5 (h : Nat → Nat) (cI : ClassId) (M : Mm) (v : Int32) : (wX h cI M).set 4 (h 4, .inr (10, [.ref (h 5), .ref (h 9), .ref (h 17), .int (M 4 3), .ref (h 18), .int (M 4 5), .ref (h 19), .int (M 4 7)].set 5 (.int v))) = wX h cI (mset M 4 5 v) := rfl
theorem wX_s4_7 (h : Nat → Nat) (cI : ClassId) (M : Mm) (v : Int32) : (wX h cI M).set 4 (h 4, .inr (10, [.ref (h 5), .ref (h 9), .ref (h 17), .int (M 4 3), .ref (h 18), .int (M 4 5), .ref (h 19), .int (M 4 7)].set 7 (.int v))) = wX h cI (mset M 4 7 v) := rfl
theorem wX_c5 (h : Nat → Nat) (cI : ClassId) (M : Mm) : (wX h cI M)[5]? = some (h 5, .inr (0, [.ref (h 6), .ref (h 7), .ref (h 8), .int (M 5 3), .int (M 5 4)])) := rfl
theorem wX_s5_3 (h : Nat → Nat) (cI : ClassId) (M : Mm) (v : Int32) : (wX h cI M).set 5 (h 5, .inr (0, [.ref (h 6), .ref (h 7), .ref (h 8), .int (M 5 3), .int (M 5 4)].set 3 (.int v))) = wX h cI (mset M 5 3 v) := rfl
theorem wX_s5_4 (h : Nat → Nat) (cI : ClassId) (M : Mm) (v : Int32) : (wX h cI M).set 5 (h 5, .inr (0, [.ref (h 6), .ref (h 7), .ref (h 8), .int (M 5 3), .int (M 5 4)].set 4 (.int v))) = wX h cI (mset M 5 4 v) := rfl
theorem wX_c6 (h : Nat → Nat) (cI : ClassId) (M : Mm) : (wX h cI M)[6]? = some (h 6, .inl (cI, 6, .inl (M 6))) := rfl
theorem wX_a6 (h : Nat → Nat) (cI : ClassId) (M : Mm) (i : Nat) (v : Int32) : (wX h cI M).set 6 (h 6, .inl (cI, 6, .inl (upd (M 6) i v))) = wX h cI (mset M 6 i v) := rfl
theorem wX_c7 (h : Nat → Nat) (cI : ClassId) (M : Mm) : (wX h cI M)[7]? = some (h 7, .inl (cI, 6, .inl (M 7))) := rfl
theorem wX_a7 (h : Nat → Nat) (cI : ClassId) (M : Mm) (i : Nat) (v : Int32) : (wX h cI M).set 7 (h 7, .inl (cI, 6, .inl (upd (M 7) i v))) = wX h cI (mset M 7 i v) := rfl
theorem wX_c8 (h : Nat → Nat) (cI : ClassId) (M : Mm) : (wX h cI M)[8]? = some (h 8, .inl (cI, 6, .inl (M 8))) := rfl
theorem wX_a8 (h : Nat → Nat) (cI : ClassId) (M : Mm) (i : Nat) (v : Int32) : (wX h cI M).set 8 (h 8, .inl (cI, 6, .inl (upd (M 8) i v))) = wX h cI (mset M 8 i v) := rfl
theorem wX_c9 (h : Nat → Nat) (cI : ClassId) (M : Mm) : (wX h cI M)[9]? = some (h 9, .inr (2, [.ref (h 10), .ref (h 11), .ref (h 12), .ref (h 13), .ref (h 14), .ref (h 15), .ref (h 16), .int (M 9 7)])) := rfl
theorem wX_s9_7 (h : Nat → Nat) (cI : ClassId) (M : Mm) (v : Int32) : (wX h cI M).set 9 (h 9, .inr (2, [.ref (h 10), .ref (h 11), .ref (h 12), .ref (h 13), .ref (h 14), .ref (h 15), .ref (h 16), .int (M 9 7)].set 7 (.int v))) = wX h cI (mset M 9 7 v) := rfl
theorem wX_c10 (h : Nat → Nat) (cI : ClassId) (M : Mm) : (wX h cI M)[10]? = some (h 10, .inl (cI, 10, .inl (M 10))) := rfl
theorem wX_a10 (h : Nat → Nat) (cI : ClassId) (M : Mm) (i : Nat) (v : Int32) : (wX h cI M).set 10 (h 10, .inl (cI, 10, .inl (upd (M 10) i v))) = wX h cI (mset M 10 i v) := rfl
theorem wX_c11 (h : Nat → Nat) (cI : ClassId) (M : Mm) : (wX h cI M)[11]? = some (h 11, .inl (cI, 10, .inl (M 11))) := rfl
theorem wX_a11 (h : Nat → Nat) (cI : ClassId) (M : Mm) (i : Nat) (v : Int32) : (wX h cI M).set 11 (h 11, .inl (cI, 10, .inl (upd (M 11) i v))) = wX h cI (mset M 11 i v) := rfl
theorem wX_c12 (h : Nat → Nat) (cI : ClassId) (M : Mm) : (wX h cI M)[12]? = some (h 12, .inl (cI, 10, .inl (M 12))) := rfl
theorem wX_a12 (h : Nat → Nat) (cI : ClassId) (M : Mm) (i : Nat) (v : Int32) : (wX h cI M).set 12 (h 12, .inl (cI, 10, .inl (upd (M 12) i v))) = wX h cI (mset M 12 i v) := rfl
theorem wX_c13 (h : Nat → Nat) (cI : ClassId) (M : Mm) : (wX h cI M)[13]? = some (h 13, .inl (cI, 10, .inl (M 13))) := rfl
theorem wX_a13 (h : Nat → Nat) (cI : ClassId) (M : Mm) (i : Nat) (v : Int32) : (wX h cI M).set 13 (h 13, .inl (cI, 10, .inl (upd (M 13) i v))) = wX h cI (mset M 13 i v) := rfl
theorem wX_c14 (h : Nat → Nat) (cI : ClassId) (M : Mm) : (wX h cI M)[14]? = some (h 14, .inl (cI, 10, .inl (M 14))) := rfl
theorem wX_a14 (h : Nat → Nat) (cI : ClassId) (M : Mm) (i : Nat) (v : Int32) : (wX h cI M).set 14 (h 14, .inl (cI, 10, .inl (upd (M 14) i v))) = wX h cI (mset M 14 i v) := rfl
theorem wX_c15 (h : Nat → Nat) (cI : ClassId) (M : Mm) : (wX h cI M)[15]? = some (h 15, .inl (cI, 10, .inl (M 15))) := rfl
theorem wX_a15 (h : Nat → Nat) (cI : ClassId) (M : Mm) (i : Nat) (v : Int32) : (wX h cI M).set 15 (h 15, .inl (cI, 10, .inl (upd (M 15) i v))) = wX h cI (mset M 15 i v) := rfl
theorem wX_c16 (h : Nat → Nat) (cI : ClassId) (M : Mm) : (wX h cI M)[16]? = some (h 16, .inl (cI, 4, .inl (M 16))) := rfl
theorem wX_a16 (h : Nat → Nat) (cI : ClassId) (M : Mm) (i : Nat) (v : Int32) : (wX h cI M).set 16 (h 16, .inl (cI, 4, .inl (upd (M 16) i v))) = wX h cI (mset M 16 i v) := rfl
theorem wX_c17 (h : Nat → Nat) (cI : ClassId) (M : Mm) : (wX h cI M)[17]? = some (h 17, .inl (cI, 5, .inl (M 17))) := rfl
theorem wX_a17 (h : Nat → Nat) (cI : ClassId) (M : Mm) (i : Nat) (v : Int32) : (wX h cI M).set 17 (h 17, .inl (cI, 5, .inl (upd (M 17) i v))) = wX h cI (mset M 17 i v) := rfl
theorem wX_c18 (h : Nat → Nat) (cI : ClassId) (M : Mm) : (wX h cI M)[18]? = some (h 18, .inl (cI, 4, .inl (M 18))) := rfl
theorem wX_a18 (h : Nat → Nat) (cI : ClassId) (M : Mm) (i : Nat) (v : Int32) : (wX h cI M).set 18 (h 18, .inl (cI, 4, .inl (upd (M 18) i v))) = wX h cI (mset M 18 i v) := rfl
theorem wX_c19 (h : Nat → Nat) (cI : ClassId) (M : Mm) : (wX h cI M)[19]? = some (h 19, .inr (5, [.ref (h 20), .ref (h 21), .int (M 19 2), .int (M 19 3), .int (M 19 4)])) := rfl
theorem wX_s19_2 (h : Nat → Nat) (cI : ClassId) (M : Mm) (v : Int32) : (wX h cI M).set 19 (h 19, .inr (5, [.ref (h 20), .ref (h 21), .int (M 19 2), .int (M 19 3), .int (M 19 4)].set 2 (.int v))) = wX h cI (mset M 19 2 v) := rfl
theorem wX_s19_3 (h : Nat → Nat) (cI : ClassId) (M : Mm) (v : Int32) : (wX h cI M).set 19 (h 19, .inr (5, [.ref (h 20), .ref (h 21), .int (M 19 2), .int (M 19 3), .int (M 19 4)].set 3 (.int v))) = wX h cI (mset M 19 3 v) := rfl
theorem wX_s19_4 (h : Nat → Nat) (cI : ClassId) (M : Mm) (v : Int32) : (wX h cI M).set 19 (h 19, .inr (5, [.ref (h 20), .ref (h 21), .int (M 19 2), .int (M 19 3), .int (M 19 4)].set 4 (.int v))) = wX h cI (mset M 19 4 v) := rfl
theorem wX_c20 (h : Nat → Nat) (cI : ClassId) (M : Mm) : (wX h cI M)[20]? = some (h 20, .inl (cI, 6, .inl (M 20))) := rfl
theorem wX_a20 (h : Nat → Nat) (cI : ClassId) (M : Mm) (i : Nat) (v : Int32) : (wX h cI M).set 20 (h 20, .inl (cI, 6, .inl (upd (M 20) i v))) = wX h cI (mset M 20 i v) := rfl
theorem wX_c21 (h : Nat → Nat) (cI : ClassId) (M : Mm) : (wX h cI M)[21]? = some (h 21, .inl (cI, 6, .inl (M 21))) := rfl
theorem wX_a21 (h : Nat → Nat) (cI : ClassId) (M : Mm) (i : Nat) (v : Int32) : (wX h cI M).set 21 (h 21, .inl (cI, 6, .inl (upd (M 21) i v))) = wX h cI (mset M 21 i v) := rfl
theorem wX_c22 (h : Nat → Nat) (cI : ClassId) (M : Mm) : (wX h cI M)[22]? = some (h 22, .inr (10, [.ref (h 23), .ref (h 27), .ref (h 35), .int (M 22 3), .ref (h 36), .int (M 22 5), .ref (h 37), .int (M 22 7)])) := rfl
theorem wX_s22_3 (h : Nat → Nat) (cI : ClassId) (M : Mm) (v : Int32) : (wX h cI M).set 22 (h 22, .inr (10, [.ref (h 23), .ref (h 27), .ref (h 35), .int (M 22 3), .ref (h 36), .int (M 22 5), .ref (h 37), .int (M 22 7)].set 3 (.int v))) = wX h cI (mset M 22 3 v) := rfl
theorem wX_s22_5 (h : Nat → Nat) (cI : ClassId) (M : Mm) (v : Int32) : (wX h cI M).set 22 (h 22, .inr (10, [.ref (h 23), .ref (h 27), .ref (h 35), .int (M 22 3), .ref (h 36), .int (M 22 5), .ref (h 37), .int (M 22 7)].set 5 (.int v))) = wX h cI (mset M 22 5 v) := rfl
theorem wX_s22_7 (h : Nat → Nat) (cI : ClassId) (M : Mm) (v : Int32) : (wX h cI M).set 22 (h 22, .inr (10, [.ref (h 23), .ref (h 27), .ref (h 35), .int (M 22 3), .ref (h 36), .int (M 22 5), .ref (h 37), .int (M 22 7)].set 7 (.int v))) = wX h cI (mset M 22 7 v) := rfl
theorem wX_c23 (h : Nat → Nat) (cI : ClassId) (M : Mm) : (wX h cI M)[23]? = some (h 23, .inr (0, [.ref (h 24), .ref (h 25), .ref (h 26), .int (M 23 3), .int (M 23 4)])) := rfl
theorem wX_s23_3 (h : Nat → Nat) (cI : ClassId) (M : Mm) (v : Int32) : (wX h cI M).set 23 (h 23, .inr (0, [.ref (h 24), .ref (h 25), .ref (h 26), .int (M 23 3), .int (M 23 4)].set 3 (.int v))) = wX h cI (mset M 23 3 v) := rfl
theorem wX_s23_4 (h : Nat → Nat) (cI : ClassId) (M : Mm) (v : Int32) : (wX h cI M).set 23 (h 23, .inr (0, [.ref (h 24), .ref (h 25), .ref (h 26), .int (M 23 3), .int (M 23 4)].set 4 (.int v))) = wX h cI (mset M 23 4 v) := rfl
theorem wX_c24 (h : Nat → Nat) (cI : ClassId) (M : Mm) : (wX h cI M)[24]? = some (h 24, .inl (cI, 6, .inl (M 24))) := rfl
theorem wX_a24 (h : Nat → Nat) (cI : ClassId) (M : Mm) (i : Nat) (v : Int32) : (wX h cI M).set 24 (h 24, .inl (cI, 6, .inl (upd (M 24) i v))) = wX h cI (mset M 24 i v) := rfl
theorem wX_c25 (h : Nat → Nat) (cI : ClassId) (M : Mm) : (wX h cI M)[25]? = some (h 25, .inl (cI, 6, .inl (M 25))) := rfl
theorem wX_a25 (h : Nat → Nat) (cI : ClassId) (M : Mm) (i : Nat) (v : Int32) : (wX h cI M).set 25 (h 25, .inl (cI, 6, .inl (upd (M 25) i v))) = wX h cI (mset M 25 i v) := rfl
theorem wX_c26 (h : Nat → Nat) (cI : ClassId) (M : Mm) : (wX h cI M)[26]? = some (h 26, .inl (cI, 6, .inl (M 26))) := rfl
theorem wX_a26 (h : Nat → Nat) (cI : ClassId) (M : Mm) (i : Nat) (v : Int32) : (wX h cI M).set 26 (h 26, .inl (cI, 6, .inl (upd (M 26) i v))) = wX h cI (mset M 26 i v) := rfl
theorem wX_c27 (h : Nat → Nat) (cI : ClassId) (M : Mm) : (wX h cI M)[27]? = some (h 27, .inr (2, [.ref (h 28), .ref (h 29), .ref (h 30), .ref (h 31), .ref (h 32), .ref (h 33), .ref (h 34), .int (M 27 7)])) := rfl
theorem wX_s27_7 (h : Nat → Nat) (cI : ClassId) (M : Mm) (v : Int32) : (wX h cI M).set 27 (h 27, .inr (2, [.ref (h 28), .ref (h 29), .ref (h 30), .ref (h 31), .ref (h 32), .ref (h 33), .ref (h 34), .int (M 27 7)].set 7 (.int v))) = wX h cI (mset M 27 7 v) := rfl
theorem wX_c28 (h : Nat → Nat) (cI : ClassId) (M : Mm) : (wX h cI M)[28]? = some (h 28, .inl (cI, 10, .inl (M 28))) := rfl
theorem wX_a28 (h : Nat → Nat) (cI : ClassId) (M : Mm) (i : Nat) (v : Int32) : (wX h cI M).set 28 (h 28, .inl (cI, 10, .inl (upd (M 28) i v))) = wX h cI (mset M 28 i v) := rfl
theorem wX_c29 (h : Nat → Nat) (cI : ClassId) (M : Mm) : (wX h cI M)[29]? = some (h 29, .inl (cI, 10, .inl (M 29))) := rfl
theorem wX_a29 (h : Nat → Nat) (cI : ClassId) (M : Mm) (i : Nat) (v : Int32) : (wX h cI M).set 29 (h 29, .inl (cI, 10, .inl (upd (M 29) i v))) = wX h cI (mset M 29 i v) := rfl
theorem wX_c30 (h : Nat → Nat) (cI : ClassId) (M : Mm) : (wX h cI M)[30]? = some (h 30, .inl (cI, 10, .inl (M 30))) := rfl
theorem wX_a30 (h : Nat → Nat) (cI : ClassId) (M : Mm) (i : Nat) (v : Int32) : (wX h cI M).set 30 (h 30, .inl (cI, 10, .inl (upd (M 30) i v))) = wX h cI (mset M 30 i v) := rfl
theorem wX_c31 (h : Nat → Nat) (cI : ClassId) (M : Mm) : (wX h cI M)[31]? = some (h 31, .inl (cI, 10, .inl (M 31))) := rfl
theorem wX_a31 (h : Nat → Nat) (cI : ClassId) (M : Mm) (i : Nat) (v : Int32) : (wX h cI M).set 31 (h 31, .inl (cI, 10, .inl (upd (M 31) i v))) = wX h cI (mset M 31 i v) := rfl
theorem wX_c32 (h : Nat → Nat) (cI : ClassId) (M : Mm) : (wX h cI M)[32]? = some (h 32, .inl (cI, 10, .inl (M 32))) := rfl
theorem wX_a32 (h : Nat → Nat) (cI : ClassId) (M : Mm) (i : Nat) (v : Int32) : (wX h cI M).set 32 (h 32, .inl (cI, 10, .inl (upd (M 32) i v))) = wX h cI (mset M 32 i v) := rfl
theorem wX_c33 (h : Nat → Nat) (cI : ClassId) (M : Mm) : (wX h cI M)[33]? = some (h 33, .inl (cI, 10, .inl (M 33))) := rfl
theorem wX_a33 (h : Nat → Nat) (cI : ClassId) (M : Mm) (i : Nat) (v : Int32) : (wX h cI M).set 33 (h 33, .inl (cI, 10, .inl (upd (M 33) i v))) = wX h cI (mset M 33 i v) := rfl
theorem wX_c34 (h : Nat → Nat) (cI : ClassId) (M : Mm) : (wX h cI M)[34]? = some (h 34, .inl (cI, 4, .inl (M 34))) := rfl
theorem wX_a34 (h : Nat → Nat) (cI : ClassId) (M : Mm) (i : Nat) (v : Int32) : (wX h cI M).set 34 (h 34, .inl (cI, 4, .inl (upd (M 34) i v))) = wX h cI (mset M 34 i v) := rfl
theorem wX_c35 (h : Nat → Nat) (cI : ClassId) (M : Mm) : (wX h cI M)[35]? = some (h 35, .inl (cI, 5, .inl (M 35))) := rfl
theorem wX_a35 (h : Nat → Nat) (cI : ClassId) (M : Mm) (i : Nat) (v : Int32) : (wX h cI M).set 35 (h 35, .inl (cI, 5, .inl (upd (M 35) i v))) = wX h cI (mset M 35 i v) := rfl
theorem wX_c36 (h : Nat → Nat) (cI : ClassId) (M : Mm) : (wX h cI M)[36]? = some (h 36, .inl (cI, 4, .inl (M 36))) := rfl
theorem wX_a36 (h : Nat → Nat) (cI : ClassId) (M : Mm) (i : Nat) (v : Int32) : (wX h cI M).set 36 (h 36, .inl (cI, 4, .inl (upd (M 36) i v))) = wX h cI (mset M 36 i v) := rfl
theorem wX_c37 (h : Nat → Nat) (cI : ClassId) (M : Mm) : (wX h cI M)[37]? = some (h 37, .inr (5, [.ref (h 38), .ref (h 39), .int (M 37 2), .int (M 37 3), .int (M 37 4)])) := rfl
theorem wX_s37_2 (h : Nat → Nat) (cI : ClassId) (M : Mm) (v : Int32) : (wX h cI M).set 37 (h 37, .inr (5, [.ref (h 38), .ref (h 39), .int (M 37 2), .int (M 37 3), .int (M 37 4)].set 2 (.int v))) = wX h cI (mset M 37 2 v) := rfl
theorem wX_s37_3 (h : Nat → Nat) (cI : ClassId) (M : Mm) (v : Int32) : (wX h cI M).set 37 (h 37, .inr (5, [.ref (h 38), .ref (h 39), .int (M 37 2), .int (M 37 3), .int (M 37 4)].set 3 (.int v))) = wX h cI (mset M 37 3 v) := rfl
theorem wX_s37_4 (h : Nat → Nat) (cI : ClassId) (M : Mm) (v : Int32) : (wX h cI M).set 37 (h 37, .inr (5, [.ref (h 38), .ref (h 39), .int (M 37 2), .int (M 37 3), .int (M 37 4)].set 4 (.int v))) = wX h cI (mset M 37 4 v) := rfl
theorem wX_c38 (h : Nat → Nat) (cI : ClassId) (M : Mm) : (wX h cI M)[38]? = some (h 38, .inl (cI, 6, .inl (M 38))) := rfl
theorem wX_a38 (h : Nat → Nat) (cI : ClassId) (M : Mm) (i : Nat) (v : Int32) : (wX h cI M).set 38 (h 38, .inl (cI, 6, .inl (upd (M 38) i v))) = wX h cI (mset M 38 i v) := rfl
theorem wX_c39 (h : Nat → Nat) (cI : ClassId) (M : Mm) : (wX h cI M)[39]? = some (h 39, .inl (cI, 6, .inl (M 39))) := rfl
theorem wX_a39 (h : Nat → Nat) (cI : ClassId) (M : Mm) (i : Nat) (v : Int32) : (wX h cI M).set 39 (h 39, .inl (cI, 6, .inl (upd (M 39) i v))) = wX h cI (mset M 39 i v) := rfl
theorem wX_c40 (h : Nat → Nat) (cI : ClassId) (M : Mm) : (wX h cI M)[40]? = some (h 40, .inr (8, [.ref (h 41), .ref (h 42), .ref (h 43), .ref (h 44), .ref (h 45), .int (M 40 5), .int (M 40 6)])) := rfl
theorem wX_s40_5 (h : Nat → Nat) (cI : ClassId) (M : Mm) (v : Int32) : (wX h cI M).set 40 (h 40, .inr (8, [.ref (h 41), .ref (h 42), .ref (h 43), .ref (h 44), .ref (h 45), .int (M 40 5), .int (M 40 6)].set 5 (.int v))) = wX h cI (mset M 40 5 v) := rfl
theorem wX_s40_6 (h : Nat → Nat) (cI : ClassId) (M : Mm) (v : Int32) : (wX h cI M).set 40 (h 40, .inr (8, [.ref (h 41), .ref (h 42), .ref (h 43), .ref (h 44), .ref (h 45), .int (M 40 5), .int (M 40 6)].set 6 (.int v))) = wX h cI (mset M 40 6 v) := rfl
theorem wX_c41 (h : Nat → Nat) (cI : ClassId) (M : Mm) : (wX h cI M)[41]? = some (h 41, .inl (cI, 10, .inl (M 41))) := rfl
theorem wX_a41 (h : Nat → Nat) (cI : ClassId) (M : Mm) (i : Nat) (v : Int32) : (wX h cI M).set 41 (h 41, .inl (cI, 10, .inl (upd (M 41) i v))) = wX h cI (mset M 41 i v) := rfl
theorem wX_c42 (h : Nat → Nat) (cI : ClassId) (M : Mm) : (wX h cI M)[42]? = some (h 42, .inl (cI, 10, .inl (M 42))) := rfl
theorem wX_a42 (h : Nat → Nat) (cI : ClassId) (M : Mm) (i : Nat) (v : Int32) : (wX h cI M).set 42 (h 42, .inl (cI, 10, .inl (upd (M 42) i v))) = wX h cI (mset M 42 i v) := rfl
theorem wX_c43 (h : Nat → Nat) (cI : ClassId) (M : Mm) : (wX h cI M)[43]? = some (h 43, .inl (cI, 10, .inl (M 43))) := rfl
theorem wX_a43 (h : Nat → Nat) (cI : ClassId) (M : Mm) (i : Nat) (v : Int32) : (wX h cI M).set 43 (h 43, .inl (cI, 10, .inl (upd (M 43) i v))) = wX h cI (mset M 43 i v) := rfl
theorem wX_c44 (h : Nat → Nat) (cI : ClassId) (M : Mm) : (wX h cI M)[44]? = some (h 44, .inl (cI, 10, .inl (M 44))) := rfl
theorem wX_a44 (h : Nat → Nat) (cI : ClassId) (M : Mm) (i : Nat) (v : Int32) : (wX h cI M).set 44 (h 44, .inl (cI, 10, .inl (upd (M 44) i v))) = wX h cI (mset M 44 i v) := rfl
theorem wX_c45 (h : Nat → Nat) (cI : ClassId) (M : Mm) : (wX h cI M)[45]? = some (h 45, .inl (cI, 10, .inl (M 45))) := rfl
theorem wX_a45 (h : Nat → Nat) (cI : ClassId) (M : Mm) (i : Nat) (v : Int32) : (wX h cI M).set 45 (h 45, .inl (cI, 10, .inl (upd (M 45) i v))) = wX h cI (mset M 45 i v) := rfl
theorem wX_c46 (h : Nat → Nat) (cI : ClassId) (M : Mm) : (wX h cI M)[46]? = some (h 46, .inr (8, [.ref (h 47), .ref (h 48), .ref (h 49), .ref (h 50), .ref (h 51), .int (M 46 5), .int (M 46 6)])) := rfl
theorem wX_s46_5 (h : Nat → Nat) (cI : ClassId) (M : Mm) (v : Int32) : (wX h cI M).set 46 (h 46, .inr (8, [.ref (h 47), .ref (h 48), .ref (h 49), .ref (h 50), .ref (h 51), .int (M 46 5), .int (M 46 6)].set 5 (.int v))) = wX h cI (mset M 46 5 v) := rfl
theorem wX_s46_6 (h : Nat → Nat) (cI : ClassId) (M : Mm) (v : Int32) : (wX h cI M).set 46 (h 46, .inr (8, [.ref (h 47), .ref (h 48), .ref (h 49), .ref (h 50), .ref (h 51), .int (M 46 5), .int (M 46 6)].set 6 (.int v))) = wX h cI (mset M 46 6 v) := rfl
theorem wX_c47 (h : Nat → Nat) (cI : ClassId) (M : Mm) : (wX h cI M)[47]? = some (h 47, .inl (cI, 10, .inl (M 47))) := rfl
theorem wX_a47 (h : Nat → Nat) (cI : ClassId) (M : Mm) (i : Nat) (v : Int32) : (wX h cI M).set 47 (h 47, .inl (cI, 10, .inl (upd (M 47) i v))) = wX h cI (mset M 47 i v) := rfl
theorem wX_c48 (h : Nat → Nat) (cI : ClassId) (M : Mm) : (wX h cI M)[48]? = some (h 48, .inl (cI, 10, .inl (M 48))) := rfl
theorem wX_a48 (h : Nat → Nat) (cI : ClassId) (M : Mm) (i : Nat) (v : Int32) : (wX h cI M).set 48 (h 48, .inl (cI, 10, .inl (upd (M 48) i v))) = wX h cI (mset M 48 i v) := rfl
theorem wX_c49 (h : Nat → Nat) (cI : ClassId) (M : Mm) : (wX h cI M)[49]? = some (h 49, .inl (cI, 10, .inl (M 49))) := rfl
theorem wX_a49 (h : Nat → Nat) (cI : ClassId) (M : Mm) (i : Nat) (v : Int32) : (wX h cI M).set 49 (h 49, .inl (cI, 10, .inl (upd (M 49) i v))) = wX h cI (mset M 49 i v) := rfl
theorem wX_c50 (h : Nat → Nat) (cI : ClassId) (M : Mm) : (wX h cI M)[50]? = some (h 50, .inl (cI, 10, .inl (M 50))) := rfl
theorem wX_a50 (h : Nat → Nat) (cI : ClassId) (M : Mm) (i : Nat) (v : Int32) : (wX h cI M).set 50 (h 50, .inl (cI, 10, .inl (upd (M 50) i v))) = wX h cI (mset M 50 i v) := rfl
theorem wX_c51 (h : Nat → Nat) (cI : ClassId) (M : Mm) : (wX h cI M)[51]? = some (h 51, .inl (cI, 10, .inl (M 51))) := rfl
theorem wX_a51 (h : Nat → Nat) (cI : ClassId) (M : Mm) (i : Nat) (v : Int32) : (wX h cI M).set 51 (h 51, .inl (cI, 10, .inl (upd (M 51) i v))) = wX h cI (mset M 51 i v) := rfl
theorem wX_c52 (h : Nat → Nat) (cI : ClassId) (M : Mm) : (wX h cI M)[52]? = some (h 52, .inr (8, [.ref (h 53), .ref (h 54), .ref (h 55), .ref (h 56), .ref (h 57), .int (M 52 5), .int (M 52 6)])) := rfl
theorem wX_s52_5 (h : Nat → Nat) (cI : ClassId) (M : Mm) (v : Int32) : (wX h cI M).set 52 (h 52, .inr (8, [.ref (h 53), .ref (h 54), .ref (h 55), .ref (h 56), .ref (h 57), .int (M 52 5), .int (M 52 6)].set 5 (.int v))) = wX h cI (mset M 52 5 v) := rfl
theorem wX_s52_6 (h : Nat → Nat) (cI : ClassId) (M : Mm) (v : Int32) : (wX h cI M).set 52 (h 52, .inr (8, [.ref (h 53), .ref (h 54), .ref (h 55), .ref (h 56), .ref (h 57), .int (M 52 5), .int (M 52 6)].set 6 (.int v))) = wX h cI (mset M 52 6 v) := rfl
theorem wX_c53 (h : Nat → Nat) (cI : ClassId) (M : Mm) : (wX h cI M)[53]? = some (h 53, .inl (cI, 10, .inl (M 53))) := rfl
theorem wX_a53 (h : Nat → Nat) (cI : ClassId) (M : Mm) (i : Nat) (v : Int32) : (wX h cI M).set 53 (h 53, .inl (cI, 10, .inl (upd (M 53) i v))) = wX h cI (mset M 53 i v) := rfl
theorem wX_c54 (h : Nat → Nat) (cI : ClassId) (M : Mm) : (wX h cI M)[54]? = some (h 54, .inl (cI, 10, .inl (M 54))) := rfl
theorem wX_a54 (h : Nat → Nat) (cI : ClassId) (M : Mm) (i : Nat) (v : Int32) : (wX h cI M).set 54 (h 54, .inl (cI, 10, .inl (upd (M 54) i v))) = wX h cI (mset M 54 i v) := rfl
theorem wX_c55 (h : Nat → Nat) (cI : ClassId) (M : Mm) : (wX h cI M)[55]? = some (h 55, .inl (cI, 10, .inl (M 55))) := rfl
theorem wX_a55 (h : Nat → Nat) (cI : ClassId) (M : Mm) (i : Nat) (v : Int32) : (wX h cI M).set 55 (h 55, .inl (cI, 10, .inl (upd (M 55) i v))) = wX h cI (mset M 55 i v) := rfl
theorem wX_c56 (h : Nat → Nat) (cI : ClassId) (M : Mm) : (wX h cI M)[56]? = some (h 56, .inl (cI, 10, .inl (M 56))) := rfl
theorem wX_a56 (h : Nat → Nat) (cI : ClassId) (M : Mm) (i : Nat) (v : Int32) : (wX h cI M).set 56 (h 56, .inl (cI, 10, .inl (upd (M 56) i v))) = wX h cI (mset M 56 i v) := rfl
theorem wX_c57 (h : Nat → Nat) (cI : ClassId) (M : Mm) : (wX h cI M)[57]? = some (h 57, .inl (cI, 10, .inl (M 57))) := rfl
theorem wX_a57 (h : Nat → Nat) (cI : ClassId) (M : Mm) (i : Nat) (v : Int32) : (wX h cI M).set 57 (h 57, .inl (cI, 10, .inl (upd (M 57) i v))) = wX h cI (mset M 57 i v) := rfl
theorem wX_c58 (h : Nat → Nat) (cI : ClassId) (M : Mm) : (wX h cI M)[58]? = some (h 58, .inr (3, [.ref (h 22), .ref (h 40)])) := rfl
theorem wX_c59 (h : Nat → Nat) (cI : ClassId) (M : Mm) : (wX h cI M)[59]? = some (h 59, .inr (1, [.ref (h 58), .ref (h 60), .ref (h 61), .ref (h 62)])) := rfl
theorem wX_c60 (h : Nat → Nat) (cI : ClassId) (M : Mm) : (wX h cI M)[60]? = some (h 60, .inl (cI, 200, .inl (M 60))) := rfl
theorem wX_a60 (h : Nat → Nat) (cI : ClassId) (M : Mm) (i : Nat) (v : Int32) : (wX h cI M).set 60 (h 60, .inl (cI, 200, .inl (upd (M 60) i v))) = wX h cI (mset M 60 i v) := rfl
theorem wX_c61 (h : Nat → Nat) (cI : ClassId) (M : Mm) : (wX h cI M)[61]? = some (h 61, .inl (cI, 10, .inl (M 61))) := rfl
theorem wX_a61 (h : Nat → Nat) (cI : ClassId) (M : Mm) (i : Nat) (v : Int32) : (wX h cI M).set 61 (h 61, .inl (cI, 10, .inl (upd (M 61) i v))) = wX h cI (mset M 61 i v) := rfl
theorem wX_c62 (h : Nat → Nat) (cI : ClassId) (M : Mm) : (wX h cI M)[62]? = some (h 62, .inl (cI, 20, .inl (M 62))) := rfl
theorem wX_a62 (h : Nat → Nat) (cI : ClassId) (M : Mm) (i : Nat) (v : Int32) : (wX h cI M).set 62 (h 62, .inl (cI, 20, .inl (upd (M 62) i v))) = wX h cI (mset M 62 i v) := rfl
theorem wX_c63 (h : Nat → Nat) (cI : ClassId) (M : Mm) : (wX h cI M)[63]? = some (h 63, .inr (6, [.ref (h 58), .ref (h 59), .ref (h 64), .ref (h 65), .int (M 63 4), .int (M 63 5)])) := rfl
theorem wX_s63_4 (h : Nat → Nat) (cI : ClassId) (M : Mm) (v : Int32) : (wX h cI M).set 63 (h 63, .inr (6, [.ref (h 58), .ref (h 59), .ref (h 64), .ref (h 65), .int (M 63 4), .int (M 63 5)].set 4 (.int v))) = wX h cI (mset M 63 4 v) := rfl
theorem wX_s63_5 (h : Nat → Nat) (cI : ClassId) (M : Mm) (v : Int32) : (wX h cI M).set 63 (h 63, .inr (6, [.ref (h 58), .ref (h 59), .ref (h 64), .ref (h 65), .int (M 63 4), .int (M 63 5)].set 5 (.int v))) = wX h cI (mset M 63 5 v) := rfl
theorem wX_c64 (h : Nat → Nat) (cI : ClassId) (M : Mm) : (wX h cI M)[64]? = some (h 64, .inl (cI, 4, .inl (M 64))) := rfl
theorem wX_a64 (h : Nat → Nat) (cI : ClassId) (M : Mm) (i : Nat) (v : Int32) : (wX h cI M).set 64 (h 64, .inl (cI, 4, .inl (upd (M 64) i v))) = wX h cI (mset M 64 i v) := rfl
theorem wX_c65 (h : Nat → Nat) (cI : ClassId) (M : Mm) : (wX h cI M)[65]? = some (h 65, .inl (cI, 4, .inl (M 65))) := rfl
theorem wX_a65 (h : Nat → Nat) (cI : ClassId) (M : Mm) (i : Nat) (v : Int32) : (wX h cI M).set 65 (h 65, .inl (cI, 4, .inl (upd (M 65) i v))) = wX h cI (mset M 65 i v) := rfl
theorem wX_c66 (h : Nat → Nat) (cI : ClassId) (M : Mm) : (wX h cI M)[66]? = some (h 66, .inr (4, [.ref (h 58), .ref (h 67), .ref (h 68), .ref (h 69), .ref (h 70), .int (M 66 5), .int (M 66 6)])) := rfl
theorem wX_s66_5 (h : Nat → Nat) (cI : ClassId) (M : Mm) (v : Int32) : (wX h cI M).set 66 (h 66, .inr (4, [.ref (h 58), .ref (h 67), .ref (h 68), .ref (h 69), .ref (h 70), .int (M 66 5), .int (M 66 6)].set 5 (.int v))) = wX h cI (mset M 66 5 v) := rfl
theorem wX_s66_6 (h : Nat → Nat) (cI : ClassId) (M : Mm) (v : Int32) : (wX h cI M).set 66 (h 66, .inr (4, [.ref (h 58), .ref (h 67), .ref (h 68), .ref (h 69), .ref (h 70), .int (M 66 5), .int (M 66 6)].set 6 (.int v))) = wX h cI (mset M 66 6 v) := rfl
theorem wX_c67 (h : Nat → Nat) (cI : ClassId) (M : Mm) : (wX h cI M)[67]? = some (h 67, .inl (cI, 24, .inl (M 67))) := rfl
theorem wX_a67 (h : Nat → Nat) (cI : ClassId) (M : Mm) (i : Nat) (v : Int32) : (wX h cI M).set 67 (h 67, .inl (cI, 24, .inl (upd (M 67) i v))) = wX h cI (mset M 67 i v) := rfl
theorem wX_c68 (h : Nat → Nat) (cI : ClassId) (M : Mm) : (wX h cI M)[68]? = some (h 68, .inl (cI, 6, .inl (M 68))) := rfl
theorem wX_a68 (h : Nat → Nat) (cI : ClassId) (M : Mm) (i : Nat) (v : Int32) : (wX h cI M).set 68 (h 68, .inl (cI, 6, .inl (upd (M 68) i v))) = wX h cI (mset M 68 i v) := rfl
theorem wX_c69 (h : Nat → Nat) (cI : ClassId) (M : Mm) : (wX h cI M)[69]? = some (h 69, .inl (cI, 4, .inl (M 69))) := rfl
theorem wX_a69 (h : Nat → Nat) (cI : ClassId) (M : Mm) (i : Nat) (v : Int32) : (wX h cI M).set 69 (h 69, .inl (cI, 4, .inl (upd (M 69) i v))) = wX h cI (mset M 69 i v) := rfl
theorem wX_c70 (h : Nat → Nat) (cI : ClassId) (M : Mm) : (wX h cI M)[70]? = some (h 70, .inl (cI, 4, .inl (M 70))) := rfl
theorem wX_a70 (h : Nat → Nat) (cI : ClassId) (M : Mm) (i : Nat) (v : Int32) : (wX h cI M).set 70 (h 70, .inl (cI, 4, .inl (upd (M 70) i v))) = wX h cI (mset M 70 i v) := rfl
theorem wX_c71 (h : Nat → Nat) (cI : ClassId) (M : Mm) : (wX h cI M)[71]? = some (h 71, .inr (7, [.ref (h 72), .ref (h 73), .int (M 71 2)])) := rfl
theorem wX_s71_2 (h : Nat → Nat) (cI : ClassId) (M : Mm) (v : Int32) : (wX h cI M).set 71 (h 71, .inr (7, [.ref (h 72), .ref (h 73), .int (M 71 2)].set 2 (.int v))) = wX h cI (mset M 71 2 v) := rfl
theorem wX_c72 (h : Nat → Nat) (cI : ClassId) (M : Mm) : (wX h cI M)[72]? = some (h 72, .inl (cI, 8, .inl (M 72))) := rfl
theorem wX_a72 (h : Nat → Nat) (cI : ClassId) (M : Mm) (i : Nat) (v : Int32) : (wX h cI M).set 72 (h 72, .inl (cI, 8, .inl (upd (M 72) i v))) = wX h cI (mset M 72 i v) := rfl
theorem wX_c73 (h : Nat → Nat) (cI : ClassId) (M : Mm) : (wX h cI M)[73]? = some (h 73, .inl (cI, 8, .inl (M 73))) := rfl
theorem wX_a73 (h : Nat → Nat) (cI : ClassId) (M : Mm) (i : Nat) (v : Int32) : (wX h cI M).set 73 (h 73, .inl (cI, 8, .inl (upd (M 73) i v))) = wX h cI (mset M 73 i v) := rfl
/-- the cells of the R side, in the order of their making: 0 this, 1 text, 2 cellMany, 3 warm, 4 more, 5 room, 6 opens, 7 foodMany, 8 toldKind, 9 toldCell, 10 worths, 11 lives, 12 prints, 13 sorts, 14 dishMany, 15 dishes, 16 eaterMany, 17 eaters, 18 guestMany, 19 guests, 20 chances, 21 prices, 22 kinds, 23 cells, 24 ages, 25 states, 26 whens, 27 hour, 28 spans, 29 told -/
def wR (h : Nat → Nat) (cI : ClassId) (M : Mm) : va_W := [(h 0, .inr (12, [.int (M 0 0), .ref (h 1), .ref (h 2), .ref (h 3), .ref (h 4), .ref (h 5), .ref (h 6), .ref (h 7), .ref (h 8), .ref (h 9), .ref (h 10), .ref (h 11), .ref (h 12), .ref (h 13), .ref (h 14), .ref (h 15), .ref (h 16), .ref (h 17), .ref (h 18), .ref (h 19), .ref (h 20), .ref (h 21), .ref (h 22), .ref (h 23), .ref (h 24), .ref (h 25), .ref (h 26), .ref (h 27), .int (M 0 28), .int (M 0 29), .ref (h 28), .int (M 0 31), .ref (h 29)])), (h 1, .inl (cI, 400, .inl (M 1))), (h 2, .inl (cI, 2, .inl (M 2))), (h 3, .inl (cI, 12, .inl (M 3))), (h 4, .inl (cI, 12, .inl (M 4))), (h 5, .inl (cI, 12, .inl (M 5))), (h 6, .inl (cI, 2, .inl (M 6))), (h 7, .inl (cI, 2, .inl (M 7))), (h 8, .inl (cI, 20, .inl (M 8))), (h 9, .inl (cI, 20, .inl (M 9))), (h 10, .inl (cI, 20, .inl (M 10))), (h 11, .inl (cI, 20, .inl (M 11))), (h 12, .inl (cI, 20, .inl (M 12))), (h 13, .inl (cI, 20, .inl (M 13))), (h 14, .inl (cI, 2, .inl (M 14))), (h 15, .inl (cI, 10, .inl (M 15))), (h 16, .inl (cI, 2, .inl (M 16))), (h 17, .inl (cI, 8, .inl (M 17))), (h 18, .inl (cI, 2, .inl (M 18))), (h 19, .inl (cI, 12, .inl (M 19))), (h 20, .inl (cI, 12, .inl (M 20))), (h 21, .inl (cI, 6, .inl (M 21))), (h 22, .inl (cI, 40, .inl (M 22))), (h 23, .inl (cI, 40, .inl (M 23))), (h 24, .inl (cI, 40, .inl (M 24))), (h 25, .inl (cI, 40, .inl (M 25))), (h 26, .inl (cI, 40, .inl (M 26))), (h 27, .inl (cI, 4, .inl (M 27))), (h 28, .inl (cI, 16, .inl (M 28))), (h 29, .inl (cI, 6, .inl (M 29)))]
theorem wR_c0 (h : Nat → Nat) (cI : ClassId) (M : Mm) : (wR h cI M)[0]? = some (h 0, .inr (12, [.int (M 0 0), .ref (h 1), .ref (h 2), .ref (h 3), .ref (h 4), .ref (h 5), .ref (h 6), .ref (h 7), .ref (h 8), .ref (h 9), .ref (h 10), .ref (h 11), .ref (h 12), .ref (h 13), .ref (h 14), .ref (h 15), .ref (h 16), .ref (h 17), .ref (h 18), .ref (h 19), .ref (h 20), .ref (h 21), .ref (h 22), .ref (h 23), .ref (h 24), .ref (h 25), .ref (h 26), .ref (h 27), .int (M 0 28), .int (M 0 29), .ref (h 28), .int (M 0 31), .ref (h 29)])) := rfl
theorem wR_s0_0 (h : Nat → Nat) (cI : ClassId) (M : Mm) (v : Int32) : (wR h cI M).set 0 (h 0, .inr (12, [.int (M 0 0), .ref (h 1), .ref (h 2), .ref (h 3), .ref (h 4), .ref (h 5), .ref (h 6), .ref (h 7), .ref (h 8), .ref (h 9), .ref (h 10), .ref (h 11), .ref (h 12), .ref (h 13), .ref (h 14), .ref (h 15), .ref (h 16), .ref (h 17), .ref (h 18), .ref (h 19), .ref (h 20), .ref (h 21), .ref (h 22), .ref (h 23), .ref (h 24), .ref (h 25), .ref (h 26), .ref (h 27), .int (M 0 28), .int (M 0 29), .ref (h 28), .int (M 0 31), .ref (h 29)].set 0 (.int v))) = wR h cI (mset M 0 0 v) := rfl
theorem wR_s0_28 (h : Nat → Nat) (cI : ClassId) (M : Mm) (v : Int32) : (wR h cI M).set 0 (h 0, .inr (12, [.int (M 0 0), .ref (h 1), .ref (h 2), .ref (h 3), .ref (h 4), .ref (h 5), .ref (h 6), .ref (h 7), .ref (h 8), .ref (h 9), .ref (h 10), .ref (h 11), .ref (h 12), .ref (h 13), .ref (h 14), .ref (h 15), .ref (h 16), .ref (h 17), .ref (h 18), .ref (h 19), .ref (h 20), .ref (h 21), .ref (h 22), .ref (h 23), .ref (h 24), .ref (h 25), .ref (h 26), .ref (h 27), .int (M 0 28), .int (M 0 29), .ref (h 28), .int (M 0 31), .ref (h 29)].set 28 (.int v))) = wR h cI (mset M 0 28 v) := rfl
theorem wR_s0_29 (h : Nat → Nat) (cI : ClassId) (M : Mm) (v : Int32) : (wR h cI M).set 0 (h 0, .inr (12, [.int (M 0 0), .ref (h 1), .ref (h 2), .ref (h 3), .ref (h 4), .ref (h 5), .ref (h 6), .ref (h 7), .ref (h 8), .ref (h 9), .ref (h 10), .ref (h 11), .ref (h 12), .ref (h 13), .ref (h 14), .ref (h 15), .ref (h 16), .ref (h 17), .ref (h 18), .ref (h 19), .ref (h 20), .ref (h 21), .ref (h 22), .ref (h 23), .ref (h 24), .ref (h 25), .ref (h 26), .ref (h 27), .int (M 0 28), .int (M 0 29), .ref (h 28), .int (M 0 31), .ref (h 29)].set 29 (.int v))) = wR h cI (mset M 0 29 v) := rfl
theorem wR_s0_31 (h : Nat → Nat) (cI : ClassId) (M : Mm) (v : Int32) : (wR h cI M).set 0 (h 0, .inr (12, [.int (M 0 0), .ref (h 1), .ref (h 2), .ref (h 3), .ref (h 4), .ref (h 5), .ref (h 6), .ref (h 7), .ref (h 8), .ref (h 9), .ref (h 10), .ref (h 11), .ref (h 12), .ref (h 13), .ref (h 14), .ref (h 15), .ref (h 16), .ref (h 17), .ref (h 18), .ref (h 19), .ref (h 20), .ref (h 21), .ref (h 22), .ref (h 23), .ref (h 24), .ref (h 25), .ref (h 26), .ref (h 27), .int (M 0 28), .int (M 0 29), .ref (h 28), .int (M 0 31), .ref (h 29)].set 31 (.int v))) = wR h cI (mset M 0 31 v) := rfl
theorem wR_c1 (h : Nat → Nat) (cI : ClassId) (M : Mm) : (wR h cI M)[1]? = some (h 1, .inl (cI, 400, .inl (M 1))) := rfl
theorem wR_a1 (h : Nat → Nat) (cI : ClassId) (M : Mm) (i : Nat) (v : Int32) : (wR h cI M).set 1 (h 1, .inl (cI, 400, .inl (upd (M 1) i v))) = wR h cI (mset M 1 i v) := rfl
theorem wR_c2 (h : Nat → Nat) (cI : ClassId) (M : Mm) : (wR h cI M)[2]? = some (h 2, .inl (cI, 2, .inl (M 2))) := rfl
theorem wR_a2 (h : Nat → Nat) (cI : ClassId) (M : Mm) (i : Nat) (v : Int32) : (wR h cI M).set 2 (h 2, .inl (cI, 2, .inl (upd (M 2) i v))) = wR h cI (mset M 2 i v) := rfl
theorem wR_c3 (h : Nat → Nat) (cI : ClassId) (M : Mm) : (wR h cI M)[3]? = some (h 3, .inl (cI, 12, .inl (M 3))) := rfl
theorem wR_a3 (h : Nat → Nat) (cI : ClassId) (M : Mm) (i : Nat) (v : Int32) : (wR h cI M).set 3 (h 3, .inl (cI, 12, .inl (upd (M 3) i v))) = wR h cI (mset M 3 i v) := rfl
theorem wR_c4 (h : Nat → Nat) (cI : ClassId) (M : Mm) : (wR h cI M)[4]? = some (h 4, .inl (cI, 12, .inl (M 4))) := rfl
theorem wR_a4 (h : Nat → Nat) (cI : ClassId) (M : Mm) (i : Nat) (v : Int32) : (wR h cI M).set 4 (h 4, .inl (cI, 12, .inl (upd (M 4) i v))) = wR h cI (mset M 4 i v) := rfl
theorem wR_c5 (h : Nat → Nat) (cI : ClassId) (M : Mm) : (wR h cI M)[5]? = some (h 5, .inl (cI, 12, .inl (M 5))) := rfl
theorem wR_a5 (h : Nat → Nat) (cI : ClassId) (M : Mm) (i : Nat) (v : Int32) : (wR h cI M).set 5 (h 5, .inl (cI, 12, .inl (upd (M 5) i v))) = wR h cI (mset M 5 i v) := rfl
theorem wR_c6 (h : Nat → Nat) (cI : ClassId) (M : Mm) : (wR h cI M)[6]? = some (h 6, .inl (cI, 2, .inl (M 6))) := rfl
theorem wR_a6 (h : Nat → Nat) (cI : ClassId) (M : Mm) (i : Nat) (v : Int32) : (wR h cI M).set 6 (h 6, .inl (cI, 2, .inl (upd (M 6) i v))) = wR h cI (mset M 6 i v) := rfl
theorem wR_c7 (h : Nat → Nat) (cI : ClassId) (M : Mm) : (wR h cI M)[7]? = some (h 7, .inl (cI, 2, .inl (M 7))) := rfl
theorem wR_a7 (h : Nat → Nat) (cI : ClassId) (M : Mm) (i : Nat) (v : Int32) : (wR h cI M).set 7 (h 7, .inl (cI, 2, .inl (upd (M 7) i v))) = wR h cI (mset M 7 i v) := rfl
theorem wR_c8 (h : Nat → Nat) (cI : ClassId) (M : Mm) : (wR h cI M)[8]? = some (h 8, .inl (cI, 20, .inl (M 8))) := rfl
theorem wR_a8 (h : Nat → Nat) (cI : ClassId) (M : Mm) (i : Nat) (v : Int32) : (wR h cI M).set 8 (h 8, .inl (cI, 20, .inl (upd (M 8) i v))) = wR h cI (mset M 8 i v) := rfl
theorem wR_c9 (h : Nat → Nat) (cI : ClassId) (M : Mm) : (wR h cI M)[9]? = some (h 9, .inl (cI, 20, .inl (M 9))) := rfl
theorem wR_a9 (h : Nat → Nat) (cI : ClassId) (M : Mm) (i : Nat) (v : Int32) : (wR h cI M).set 9 (h 9, .inl (cI, 20, .inl (upd (M 9) i v))) = wR h cI (mset M 9 i v) := rfl
theorem wR_c10 (h : Nat → Nat) (cI : ClassId) (M : Mm) : (wR h cI M)[10]? = some (h 10, .inl (cI, 20, .inl (M 10))) := rfl
theorem wR_a10 (h : Nat → Nat) (cI : ClassId) (M : Mm) (i : Nat) (v : Int32) : (wR h cI M).set 10 (h 10, .inl (cI, 20, .inl (upd (M 10) i v))) = wR h cI (mset M 10 i v) := rfl
theorem wR_c11 (h : Nat → Nat) (cI : ClassId) (M : Mm) : (wR h cI M)[11]? = some (h 11, .inl (cI, 20, .inl (M 11))) := rfl
theorem wR_a11 (h : Nat → Nat) (cI : ClassId) (M : Mm) (i : Nat) (v : Int32) : (wR h cI M).set 11 (h 11, .inl (cI, 20, .inl (upd (M 11) i v))) = wR h cI (mset M 11 i v) := rfl
theorem wR_c12 (h : Nat → Nat) (cI : ClassId) (M : Mm) : (wR h cI M)[12]? = some (h 12, .inl (cI, 20, .inl (M 12))) := rfl
theorem wR_a12 (h : Nat → Nat) (cI : ClassId) (M : Mm) (i : Nat) (v : Int32) : (wR h cI M).set 12 (h 12, .inl (cI, 20, .inl (upd (M 12) i v))) = wR h cI (mset M 12 i v) := rfl
theorem wR_c13 (h : Nat → Nat) (cI : ClassId) (M : Mm) : (wR h cI M)[13]? = some (h 13, .inl (cI, 20, .inl (M 13))) := rfl
theorem wR_a13 (h : Nat → Nat) (cI : ClassId) (M : Mm) (i : Nat) (v : Int32) : (wR h cI M).set 13 (h 13, .inl (cI, 20, .inl (upd (M 13) i v))) = wR h cI (mset M 13 i v) := rfl
theorem wR_c14 (h : Nat → Nat) (cI : ClassId) (M : Mm) : (wR h cI M)[14]? = some (h 14, .inl (cI, 2, .inl (M 14))) := rfl
theorem wR_a14 (h : Nat → Nat) (cI : ClassId) (M : Mm) (i : Nat) (v : Int32) : (wR h cI M).set 14 (h 14, .inl (cI, 2, .inl (upd (M 14) i v))) = wR h cI (mset M 14 i v) := rfl
theorem wR_c15 (h : Nat → Nat) (cI : ClassId) (M : Mm) : (wR h cI M)[15]? = some (h 15, .inl (cI, 10, .inl (M 15))) := rfl
theorem wR_a15 (h : Nat → Nat) (cI : ClassId) (M : Mm) (i : Nat) (v : Int32) : (wR h cI M).set 15 (h 15, .inl (cI, 10, .inl (upd (M 15) i v))) = wR h cI (mset M 15 i v) := rfl
theorem wR_c16 (h : Nat → Nat) (cI : ClassId) (M : Mm) : (wR h cI M)[16]? = some (h 16, .inl (cI, 2, .inl (M 16))) := rfl
theorem wR_a16 (h : Nat → Nat) (cI : ClassId) (M : Mm) (i : Nat) (v : Int32) : (wR h cI M).set 16 (h 16, .inl (cI, 2, .inl (upd (M 16) i v))) = wR h cI (mset M 16 i v) := rfl
theorem wR_c17 (h : Nat → Nat) (cI : ClassId) (M : Mm) : (wR h cI M)[17]? = some (h 17, .inl (cI, 8, .inl (M 17))) := rfl
theorem wR_a17 (h : Nat → Nat) (cI : ClassId) (M : Mm) (i : Nat) (v : Int32) : (wR h cI M).set 17 (h 17, .inl (cI, 8, .inl (upd (M 17) i v))) = wR h cI (mset M 17 i v) := rfl
theorem wR_c18 (h : Nat → Nat) (cI : ClassId) (M : Mm) : (wR h cI M)[18]? = some (h 18, .inl (cI, 2, .inl (M 18))) := rfl
theorem wR_a18 (h : Nat → Nat) (cI : ClassId) (M : Mm) (i : Nat) (v : Int32) : (wR h cI M).set 18 (h 18, .inl (cI, 2, .inl (upd (M 18) i v))) = wR h cI (mset M 18 i v) := rfl
theorem wR_c19 (h : Nat → Nat) (cI : ClassId) (M : Mm) : (wR h cI M)[19]? = some (h 19, .inl (cI, 12, .inl (M 19))) := rfl
theorem wR_a19 (h : Nat → Nat) (cI : ClassId) (M : Mm) (i : Nat) (v : Int32) : (wR h cI M).set 19 (h 19, .inl (cI, 12, .inl (upd (M 19) i v))) = wR h cI (mset M 19 i v) := rfl
theorem wR_c20 (h : Nat → Nat) (cI : ClassId) (M : Mm) : (wR h cI M)[20]? = some (h 20, .inl (cI, 12, .inl (M 20))) := rfl
theorem wR_a20 (h : Nat → Nat) (cI : ClassId) (M : Mm) (i : Nat) (v : Int32) : (wR h cI M).set 20 (h 20, .inl (cI, 12, .inl (upd (M 20) i v))) = wR h cI (mset M 20 i v) := rfl
theorem wR_c21 (h : Nat → Nat) (cI : ClassId) (M : Mm) : (wR h cI M)[21]? = some (h 21, .inl (cI, 6, .inl (M 21))) := rfl
theorem wR_a21 (h : Nat → Nat) (cI : ClassId) (M : Mm) (i : Nat) (v : Int32) : (wR h cI M).set 21 (h 21, .inl (cI, 6, .inl (upd (M 21) i v))) = wR h cI (mset M 21 i v) := rfl
theorem wR_c22 (h : Nat → Nat) (cI : ClassId) (M : Mm) : (wR h cI M)[22]? = some (h 22, .inl (cI, 40, .inl (M 22))) := rfl
theorem wR_a22 (h : Nat → Nat) (cI : ClassId) (M : Mm) (i : Nat) (v : Int32) : (wR h cI M).set 22 (h 22, .inl (cI, 40, .inl (upd (M 22) i v))) = wR h cI (mset M 22 i v) := rfl
theorem wR_c23 (h : Nat → Nat) (cI : ClassId) (M : Mm) : (wR h cI M)[23]? = some (h 23, .inl (cI, 40, .inl (M 23))) := rfl
theorem wR_a23 (h : Nat → Nat) (cI : ClassId) (M : Mm) (i : Nat) (v : Int32) : (wR h cI M).set 23 (h 23, .inl (cI, 40, .inl (upd (M 23) i v))) = wR h cI (mset M 23 i v) := rfl
theorem wR_c24 (h : Nat → Nat) (cI : ClassId) (M : Mm) : (wR h cI M)[24]? = some (h 24, .inl (cI, 40, .inl (M 24))) := rfl
theorem wR_a24 (h : Nat → Nat) (cI : ClassId) (M : Mm) (i : Nat) (v : Int32) : (wR h cI M).set 24 (h 24, .inl (cI, 40, .inl (upd (M 24) i v))) = wR h cI (mset M 24 i v) := rfl
theorem wR_c25 (h : Nat → Nat) (cI : ClassId) (M : Mm) : (wR h cI M)[25]? = some (h 25, .inl (cI, 40, .inl (M 25))) := rfl
theorem wR_a25 (h : Nat → Nat) (cI : ClassId) (M : Mm) (i : Nat) (v : Int32) : (wR h cI M).set 25 (h 25, .inl (cI, 40, .inl (upd (M 25) i v))) = wR h cI (mset M 25 i v) := rfl
theorem wR_c26 (h : Nat → Nat) (cI : ClassId) (M : Mm) : (wR h cI M)[26]? = some (h 26, .inl (cI, 40, .inl (M 26))) := rfl
theorem wR_a26 (h : Nat → Nat) (cI : ClassId) (M : Mm) (i : Nat) (v : Int32) : (wR h cI M).set 26 (h 26, .inl (cI, 40, .inl (upd (M 26) i v))) = wR h cI (mset M 26 i v) := rfl
theorem wR_c27 (h : Nat → Nat) (cI : ClassId) (M : Mm) : (wR h cI M)[27]? = some (h 27, .inl (cI, 4, .inl (M 27))) := rfl
theorem wR_a27 (h : Nat → Nat) (cI : ClassId) (M : Mm) (i : Nat) (v : Int32) : (wR h cI M).set 27 (h 27, .inl (cI, 4, .inl (upd (M 27) i v))) = wR h cI (mset M 27 i v) := rfl
theorem wR_c28 (h : Nat → Nat) (cI : ClassId) (M : Mm) : (wR h cI M)[28]? = some (h 28, .inl (cI, 16, .inl (M 28))) := rfl
theorem wR_a28 (h : Nat → Nat) (cI : ClassId) (M : Mm) (i : Nat) (v : Int32) : (wR h cI M).set 28 (h 28, .inl (cI, 16, .inl (upd (M 28) i v))) = wR h cI (mset M 28 i v) := rfl
theorem wR_c29 (h : Nat → Nat) (cI : ClassId) (M : Mm) : (wR h cI M)[29]? = some (h 29, .inl (cI, 6, .inl (M 29))) := rfl
theorem wR_a29 (h : Nat → Nat) (cI : ClassId) (M : Mm) (i : Nat) (v : Int32) : (wR h cI M).set 29 (h 29, .inl (cI, 6, .inl (upd (M 29) i v))) = wR h cI (mset M 29 i v) := rfl
theorem kw_10_0 : Cond.code yX11_isWithin cX11_isWithin 3 (some .boolean) ∈ wsL_law := kr_10 _ (List.mem_of_getElem? (i := 0) rfl)
theorem kw_10_1 : Cond.methodLink RX11 106 yX9_append ∈ wsL_law := kr_10 _ (List.mem_of_getElem? (i := 1) rfl)
theorem kw_10_11 : Cond.constantLong RX12 104 (8) ∈ wsL_law := kr_10 _ (List.mem_of_getElem? (i := 11) rfl)
theorem kw_10_12 : Cond.fieldLink RX12 110 "OffFirstModel" "length" "I" ∈ wsL_law := kr_10 _ (List.mem_of_getElem? (i := 12) rfl)
theorem kw_10_13 : Cond.constantLong RX12 114 (255) ∈ wsL_law := kr_10 _ (List.mem_of_getElem? (i := 13) rfl)
theorem kw_10_14 : Cond.methodLink RX12 106 yX12_in ∈ wsL_law := kr_10 _ (List.mem_of_getElem? (i := 14) rfl)
theorem kw_10_15 : Cond.static yX12_in ∈ wsL_law := kr_10 _ (List.mem_of_getElem? (i := 15) rfl)
theorem kw_10_16 : Cond.code yX12_in cX12_in 6 (some .boolean) ∈ wsL_law := kr_10 _ (List.mem_of_getElem? (i := 16) rfl)
theorem kw_10_2 : Cond.instanceMethod yX9_append ∈ wsL_law := kr_10 _ (List.mem_of_getElem? (i := 2) rfl)
theorem kw_10_3 : Cond.selects RX9 yX9_append yX9_append ∈ wsL_law := kr_10 _ (List.mem_of_getElem? (i := 3) rfl)
theorem kw_10_4 : Cond.code yX9_append cX9_append 5 (some .boolean) ∈ wsL_law := kr_10 _ (List.mem_of_getElem? (i := 4) rfl)
theorem kw_10_5 : Cond.fieldLink RX9 18 "OffFirst$Text" "length" "I" ∈ wsL_law := kr_10 _ (List.mem_of_getElem? (i := 5) rfl)
theorem kw_10_6 : Cond.constantLong RX9 22 (255) ∈ wsL_law := kr_10 _ (List.mem_of_getElem? (i := 6) rfl)
theorem kw_11_10 : Cond.instanceMethod yX10_clear ∈ wsL_law := kr_11 _ (List.mem_of_getElem? (i := 10) rfl)
theorem kw_11_11 : Cond.selects RX10 yX10_clear yX10_clear ∈ wsL_law := kr_11 _ (List.mem_of_getElem? (i := 11) rfl)
theorem kw_11_12 : Cond.code yX10_clear cX10_clear 1 none ∈ wsL_law := kr_11 _ (List.mem_of_getElem? (i := 12) rfl)
theorem kw_11_13 : Cond.fieldLink RX10 61 "OffFirst$Told" "dishNumber" "I" ∈ wsL_law := kr_11 _ (List.mem_of_getElem? (i := 13) rfl)
theorem kw_11_14 : Cond.fieldLink RX10 64 "OffFirst$Told" "eaterNumber" "I" ∈ wsL_law := kr_11 _ (List.mem_of_getElem? (i := 14) rfl)
theorem kw_11_15 : Cond.methodLink RX10 59 yX0_clear ∈ wsL_law := kr_11 _ (List.mem_of_getElem? (i := 15) rfl)
theorem kw_11_16 : Cond.instanceMethod yX0_clear ∈ wsL_law := kr_11 _ (List.mem_of_getElem? (i := 16) rfl)
theorem kw_11_17 : Cond.selects RX0 yX0_clear yX0_clear ∈ wsL_law := kr_11 _ (List.mem_of_getElem? (i := 17) rfl)
theorem kw_11_18 : Cond.code yX0_clear cX0_clear 1 none ∈ wsL_law := kr_11 _ (List.mem_of_getElem? (i := 18) rfl)
theorem kw_11_19 : Cond.fieldLink RX0 25 "OffFirst$Cells" "openedHours" "I" ∈ wsL_law := kr_11 _ (List.mem_of_getElem? (i := 19) rfl)
theorem kw_11_20 : Cond.methodLink RX10 60 yX2_clear ∈ wsL_law := kr_11 _ (List.mem_of_getElem? (i := 20) rfl)
theorem kw_11_21 : Cond.instanceMethod yX2_clear ∈ wsL_law := kr_11 _ (List.mem_of_getElem? (i := 21) rfl)
theorem kw_11_22 : Cond.selects RX2 yX2_clear yX2_clear ∈ wsL_law := kr_11 _ (List.mem_of_getElem? (i := 22) rfl)
theorem kw_11_23 : Cond.code yX2_clear cX2_clear 2 none ∈ wsL_law := kr_11 _ (List.mem_of_getElem? (i := 23) rfl)
theorem kw_11_5 : Cond.methodLink RX11 114 yX10_read ∈ wsL_law := kr_11 _ (List.mem_of_getElem? (i := 5) rfl)
theorem kw_11_6 : Cond.instanceMethod yX10_read ∈ wsL_law := kr_11 _ (List.mem_of_getElem? (i := 6) rfl)
theorem kw_11_7 : Cond.selects RX10 yX10_read yX10_read ∈ wsL_law := kr_11 _ (List.mem_of_getElem? (i := 7) rfl)
theorem kw_11_8 : Cond.code yX10_read cX10_read 5 (some .int) ∈ wsL_law := kr_11 _ (List.mem_of_getElem? (i := 8) rfl)
theorem kw_11_9 : Cond.methodLink RX10 43 yX10_clear ∈ wsL_law := kr_11 _ (List.mem_of_getElem? (i := 9) rfl)
theorem kw_12_0 : Cond.methodLink RX10 67 yX5_clear ∈ wsL_law := kr_12 _ (List.mem_of_getElem? (i := 0) rfl)
theorem kw_12_1 : Cond.instanceMethod yX5_clear ∈ wsL_law := kr_12 _ (List.mem_of_getElem? (i := 1) rfl)
theorem kw_12_10 : Cond.fieldLink RX9 39 "OffFirst$Text" "told" "I" ∈ wsL_law := kr_12 _ (List.mem_of_getElem? (i := 10) rfl)
theorem kw_12_11 : Cond.methodLink RX9 32 yX9_byteAt ∈ wsL_law := kr_12 _ (List.mem_of_getElem? (i := 11) rfl)
theorem kw_12_12 : Cond.instanceMethod yX9_byteAt ∈ wsL_law := kr_12 _ (List.mem_of_getElem? (i := 12) rfl)
theorem kw_12_13 : Cond.selects RX9 yX9_byteAt yX9_byteAt ∈ wsL_law := kr_12 _ (List.mem_of_getElem? (i := 13) rfl)
theorem kw_12_14 : Cond.code yX9_byteAt cX9_byteAt 2 (some .int) ∈ wsL_law := kr_12 _ (List.mem_of_getElem? (i := 14) rfl)
theorem kw_12_15 : Cond.methodLink RX9 42 yX9_readNumber ∈ wsL_law := kr_12 _ (List.mem_of_getElem? (i := 15) rfl)
theorem kw_12_16 : Cond.instanceMethod yX9_readNumber ∈ wsL_law := kr_12 _ (List.mem_of_getElem? (i := 16) rfl)
theorem kw_12_17 : Cond.selects RX9 yX9_readNumber yX9_readNumber ∈ wsL_law := kr_12 _ (List.mem_of_getElem? (i := 17) rfl)
theorem kw_12_18 : Cond.code yX9_readNumber cX9_readNumber 5 (some .int) ∈ wsL_law := kr_12 _ (List.mem_of_getElem? (i := 18) rfl)
theorem kw_12_19 : Cond.methodLink RX9 45 yX9_isFigure ∈ wsL_law := kr_12 _ (List.mem_of_getElem? (i := 19) rfl)
theorem kw_12_2 : Cond.selects RX5 yX5_clear yX5_clear ∈ wsL_law := kr_12 _ (List.mem_of_getElem? (i := 2) rfl)
theorem kw_12_20 : Cond.static yX9_isFigure ∈ wsL_law := kr_12 _ (List.mem_of_getElem? (i := 20) rfl)
theorem kw_12_21 : Cond.code yX9_isFigure cX9_isFigure 1 (some .boolean) ∈ wsL_law := kr_12 _ (List.mem_of_getElem? (i := 21) rfl)
theorem kw_12_22 : Cond.methodLink RX10 55 yX10_takeItem ∈ wsL_law := kr_12 _ (List.mem_of_getElem? (i := 22) rfl)
theorem kw_12_23 : Cond.instanceMethod yX10_takeItem ∈ wsL_law := kr_12 _ (List.mem_of_getElem? (i := 23) rfl)
theorem kw_12_3 : Cond.code yX5_clear cX5_clear 1 none ∈ wsL_law := kr_12 _ (List.mem_of_getElem? (i := 3) rfl)
theorem kw_12_4 : Cond.fieldLink RX5 25 "OffFirst$Party" "number" "I" ∈ wsL_law := kr_12 _ (List.mem_of_getElem? (i := 4) rfl)
theorem kw_12_5 : Cond.methodLink RX10 51 yX9_readItem ∈ wsL_law := kr_12 _ (List.mem_of_getElem? (i := 5) rfl)
theorem kw_12_6 : Cond.instanceMethod yX9_readItem ∈ wsL_law := kr_12 _ (List.mem_of_getElem? (i := 6) rfl)
theorem kw_12_7 : Cond.selects RX9 yX9_readItem yX9_readItem ∈ wsL_law := kr_12 _ (List.mem_of_getElem? (i := 7) rfl)
theorem kw_12_8 : Cond.code yX9_readItem cX9_readItem 6 (some .int) ∈ wsL_law := kr_12 _ (List.mem_of_getElem? (i := 8) rfl)
theorem kw_12_9 : Cond.fieldLink RX9 36 "OffFirst$Text" "letter" "I" ∈ wsL_law := kr_12 _ (List.mem_of_getElem? (i := 9) rfl)
theorem kw_13_0 : Cond.selects RX10 yX10_takeItem yX10_takeItem ∈ wsL_law := kr_13 _ (List.mem_of_getElem? (i := 0) rfl)
theorem kw_13_1 : Cond.code yX10_takeItem cX10_takeItem 2 (some .boolean) ∈ wsL_law := kr_13 _ (List.mem_of_getElem? (i := 1) rfl)
theorem kw_13_10 : Cond.methodLink RX9 49 yX9_number ∈ wsL_law := kr_13 _ (List.mem_of_getElem? (i := 10) rfl)
theorem kw_13_11 : Cond.instanceMethod yX9_number ∈ wsL_law := kr_13 _ (List.mem_of_getElem? (i := 11) rfl)
theorem kw_13_12 : Cond.selects RX9 yX9_number yX9_number ∈ wsL_law := kr_13 _ (List.mem_of_getElem? (i := 12) rfl)
theorem kw_13_13 : Cond.code yX9_number cX9_number 2 (some .int) ∈ wsL_law := kr_13 _ (List.mem_of_getElem? (i := 13) rfl)
theorem kw_13_14 : Cond.methodLink RX10 102 yX9_number ∈ wsL_law := kr_13 _ (List.mem_of_getElem? (i := 14) rfl)
theorem kw_13_15 : Cond.methodLink RX10 105 yX0_add ∈ wsL_law := kr_13 _ (List.mem_of_getElem? (i := 15) rfl)
theorem kw_13_16 : Cond.methodLink RX10 74 yX10_takeOpenedHour ∈ wsL_law := kr_13 _ (List.mem_of_getElem? (i := 16) rfl)
theorem kw_13_17 : Cond.instanceMethod yX10_takeOpenedHour ∈ wsL_law := kr_13 _ (List.mem_of_getElem? (i := 17) rfl)
theorem kw_13_18 : Cond.selects RX10 yX10_takeOpenedHour yX10_takeOpenedHour ∈ wsL_law := kr_13 _ (List.mem_of_getElem? (i := 18) rfl)
theorem kw_13_19 : Cond.code yX10_takeOpenedHour cX10_takeOpenedHour 2 (some .boolean) ∈ wsL_law := kr_13 _ (List.mem_of_getElem? (i := 19) rfl)
theorem kw_13_2 : Cond.methodLink RX10 71 yX10_takeCell ∈ wsL_law := kr_13 _ (List.mem_of_getElem? (i := 2) rfl)
theorem kw_13_20 : Cond.methodLink RX10 108 yX0_openIn ∈ wsL_law := kr_13 _ (List.mem_of_getElem? (i := 20) rfl)
theorem kw_13_21 : Cond.instanceMethod yX0_openIn ∈ wsL_law := kr_13 _ (List.mem_of_getElem? (i := 21) rfl)
theorem kw_13_22 : Cond.selects RX0 yX0_openIn yX0_openIn ∈ wsL_law := kr_13 _ (List.mem_of_getElem? (i := 22) rfl)
theorem kw_13_23 : Cond.code yX0_openIn cX0_openIn 2 none ∈ wsL_law := kr_13 _ (List.mem_of_getElem? (i := 23) rfl)
theorem kw_13_3 : Cond.instanceMethod yX10_takeCell ∈ wsL_law := kr_13 _ (List.mem_of_getElem? (i := 3) rfl)
theorem kw_13_4 : Cond.selects RX10 yX10_takeCell yX10_takeCell ∈ wsL_law := kr_13 _ (List.mem_of_getElem? (i := 4) rfl)
theorem kw_13_5 : Cond.code yX10_takeCell cX10_takeCell 2 (some .boolean) ∈ wsL_law := kr_13 _ (List.mem_of_getElem? (i := 5) rfl)
theorem kw_13_6 : Cond.methodLink RX10 98 yX9_isNumberWithin ∈ wsL_law := kr_13 _ (List.mem_of_getElem? (i := 6) rfl)
theorem kw_13_7 : Cond.instanceMethod yX9_isNumberWithin ∈ wsL_law := kr_13 _ (List.mem_of_getElem? (i := 7) rfl)
theorem kw_13_8 : Cond.selects RX9 yX9_isNumberWithin yX9_isNumberWithin ∈ wsL_law := kr_13 _ (List.mem_of_getElem? (i := 8) rfl)
theorem kw_13_9 : Cond.code yX9_isNumberWithin cX9_isNumberWithin 4 (some .boolean) ∈ wsL_law := kr_13 _ (List.mem_of_getElem? (i := 9) rfl)
theorem kw_14_0 : Cond.methodLink RX10 77 yX10_takeFood ∈ wsL_law := kr_14 _ (List.mem_of_getElem? (i := 0) rfl)
theorem kw_14_1 : Cond.instanceMethod yX10_takeFood ∈ wsL_law := kr_14 _ (List.mem_of_getElem? (i := 1) rfl)
theorem kw_14_10 : Cond.instanceMethod yX10_takeDish ∈ wsL_law := kr_14 _ (List.mem_of_getElem? (i := 10) rfl)
theorem kw_14_11 : Cond.selects RX10 yX10_takeDish yX10_takeDish ∈ wsL_law := kr_14 _ (List.mem_of_getElem? (i := 11) rfl)
theorem kw_14_12 : Cond.code yX10_takeDish cX10_takeDish 2 (some .boolean) ∈ wsL_law := kr_14 _ (List.mem_of_getElem? (i := 12) rfl)
theorem kw_14_13 : Cond.methodLink RX10 83 yX10_takeEater ∈ wsL_law := kr_14 _ (List.mem_of_getElem? (i := 13) rfl)
theorem kw_14_14 : Cond.instanceMethod yX10_takeEater ∈ wsL_law := kr_14 _ (List.mem_of_getElem? (i := 14) rfl)
theorem kw_14_15 : Cond.selects RX10 yX10_takeEater yX10_takeEater ∈ wsL_law := kr_14 _ (List.mem_of_getElem? (i := 15) rfl)
theorem kw_14_16 : Cond.code yX10_takeEater cX10_takeEater 2 (some .boolean) ∈ wsL_law := kr_14 _ (List.mem_of_getElem? (i := 16) rfl)
theorem kw_14_17 : Cond.methodLink RX10 86 yX10_takeGuests ∈ wsL_law := kr_14 _ (List.mem_of_getElem? (i := 17) rfl)
theorem kw_14_18 : Cond.instanceMethod yX10_takeGuests ∈ wsL_law := kr_14 _ (List.mem_of_getElem? (i := 18) rfl)
theorem kw_14_19 : Cond.selects RX10 yX10_takeGuests yX10_takeGuests ∈ wsL_law := kr_14 _ (List.mem_of_getElem? (i := 19) rfl)
theorem kw_14_2 : Cond.selects RX10 yX10_takeFood yX10_takeFood ∈ wsL_law := kr_14 _ (List.mem_of_getElem? (i := 2) rfl)
theorem kw_14_20 : Cond.code yX10_takeGuests cX10_takeGuests 2 (some .boolean) ∈ wsL_law := kr_14 _ (List.mem_of_getElem? (i := 20) rfl)
theorem kw_14_21 : Cond.methodLink RX10 123 yX5_add ∈ wsL_law := kr_14 _ (List.mem_of_getElem? (i := 21) rfl)
theorem kw_14_22 : Cond.instanceMethod yX5_add ∈ wsL_law := kr_14 _ (List.mem_of_getElem? (i := 22) rfl)
theorem kw_14_23 : Cond.selects RX5 yX5_add yX5_add ∈ wsL_law := kr_14 _ (List.mem_of_getElem? (i := 23) rfl)
theorem kw_14_3 : Cond.code yX10_takeFood cX10_takeFood 2 (some .boolean) ∈ wsL_law := kr_14 _ (List.mem_of_getElem? (i := 3) rfl)
theorem kw_14_4 : Cond.methodLink RX10 112 yX0_has ∈ wsL_law := kr_14 _ (List.mem_of_getElem? (i := 4) rfl)
theorem kw_14_5 : Cond.instanceMethod yX0_has ∈ wsL_law := kr_14 _ (List.mem_of_getElem? (i := 5) rfl)
theorem kw_14_6 : Cond.selects RX0 yX0_has yX0_has ∈ wsL_law := kr_14 _ (List.mem_of_getElem? (i := 6) rfl)
theorem kw_14_7 : Cond.code yX0_has cX0_has 2 (some .boolean) ∈ wsL_law := kr_14 _ (List.mem_of_getElem? (i := 7) rfl)
theorem kw_14_8 : Cond.methodLink RX10 116 yX2_add ∈ wsL_law := kr_14 _ (List.mem_of_getElem? (i := 8) rfl)
theorem kw_14_9 : Cond.methodLink RX10 80 yX10_takeDish ∈ wsL_law := kr_14 _ (List.mem_of_getElem? (i := 9) rfl)
theorem kw_15_0 : Cond.code yX5_add cX5_add 3 (some .boolean) ∈ wsL_law := kr_15 _ (List.mem_of_getElem? (i := 0) rfl)
theorem kw_15_1 : Cond.methodLink RX10 89 yX10_takePacks ∈ wsL_law := kr_15 _ (List.mem_of_getElem? (i := 1) rfl)
theorem kw_15_13 : Cond.methodLink RX12 153 yX12_readAll ∈ wsL_law := kr_15 _ (List.mem_of_getElem? (i := 13) rfl)
theorem kw_15_14 : Cond.instanceMethod yX12_readAll ∈ wsL_law := kr_15 _ (List.mem_of_getElem? (i := 14) rfl)
theorem kw_15_15 : Cond.selects RX12 yX12_readAll yX12_readAll ∈ wsL_law := kr_15 _ (List.mem_of_getElem? (i := 15) rfl)
theorem kw_15_16 : Cond.code yX12_readAll cX12_readAll 2 (some .int) ∈ wsL_law := kr_15 _ (List.mem_of_getElem? (i := 16) rfl)
theorem kw_15_17 : Cond.fieldLink RX12 116 "OffFirstModel" "place" "I" ∈ wsL_law := kr_15 _ (List.mem_of_getElem? (i := 17) rfl)
theorem kw_15_18 : Cond.methodLink RX12 150 yX12_item ∈ wsL_law := kr_15 _ (List.mem_of_getElem? (i := 18) rfl)
theorem kw_15_19 : Cond.instanceMethod yX12_item ∈ wsL_law := kr_15 _ (List.mem_of_getElem? (i := 19) rfl)
theorem kw_15_2 : Cond.instanceMethod yX10_takePacks ∈ wsL_law := kr_15 _ (List.mem_of_getElem? (i := 2) rfl)
theorem kw_15_20 : Cond.selects RX12 yX12_item yX12_item ∈ wsL_law := kr_15 _ (List.mem_of_getElem? (i := 20) rfl)
theorem kw_15_21 : Cond.code yX12_item cX12_item 2 (some .boolean) ∈ wsL_law := kr_15 _ (List.mem_of_getElem? (i := 21) rfl)
theorem kw_15_22 : Cond.constantLong RX12 144 (15) ∈ wsL_law := kr_15 _ (List.mem_of_getElem? (i := 22) rfl)
theorem kw_15_23 : Cond.constantLong RX12 146 (99) ∈ wsL_law := kr_15 _ (List.mem_of_getElem? (i := 23) rfl)
theorem kw_15_3 : Cond.selects RX10 yX10_takePacks yX10_takePacks ∈ wsL_law := kr_15 _ (List.mem_of_getElem? (i := 3) rfl)
theorem kw_15_4 : Cond.code yX10_takePacks cX10_takePacks 2 (some .boolean) ∈ wsL_law := kr_15 _ (List.mem_of_getElem? (i := 4) rfl)
theorem kw_15_5 : Cond.methodLink RX10 92 yX10_takeSlip ∈ wsL_law := kr_15 _ (List.mem_of_getElem? (i := 5) rfl)
theorem kw_15_6 : Cond.instanceMethod yX10_takeSlip ∈ wsL_law := kr_15 _ (List.mem_of_getElem? (i := 6) rfl)
theorem kw_15_7 : Cond.selects RX10 yX10_takeSlip yX10_takeSlip ∈ wsL_law := kr_15 _ (List.mem_of_getElem? (i := 7) rfl)
theorem kw_15_8 : Cond.code yX10_takeSlip cX10_takeSlip 2 (some .boolean) ∈ wsL_law := kr_15 _ (List.mem_of_getElem? (i := 8) rfl)
theorem kw_16_0 : Cond.constantLong RX12 148 (198) ∈ wsL_law := kr_16 _ (List.mem_of_getElem? (i := 0) rfl)
theorem kw_16_1 : Cond.methodLink RX12 119 yX12_byteAt ∈ wsL_law := kr_16 _ (List.mem_of_getElem? (i := 1) rfl)
theorem kw_16_10 : Cond.methodLink RX12 129 yX12_figures ∈ wsL_law := kr_16 _ (List.mem_of_getElem? (i := 10) rfl)
theorem kw_16_11 : Cond.instanceMethod yX12_figures ∈ wsL_law := kr_16 _ (List.mem_of_getElem? (i := 11) rfl)
theorem kw_16_12 : Cond.selects RX12 yX12_figures yX12_figures ∈ wsL_law := kr_16 _ (List.mem_of_getElem? (i := 12) rfl)
theorem kw_16_13 : Cond.code yX12_figures cX12_figures 5 (some .boolean) ∈ wsL_law := kr_16 _ (List.mem_of_getElem? (i := 13) rfl)
theorem kw_16_14 : Cond.constantLong RX12 123 (48) ∈ wsL_law := kr_16 _ (List.mem_of_getElem? (i := 14) rfl)
theorem kw_16_15 : Cond.constantLong RX12 125 (57) ∈ wsL_law := kr_16 _ (List.mem_of_getElem? (i := 15) rfl)
theorem kw_16_16 : Cond.constantLong RX12 127 (3) ∈ wsL_law := kr_16 _ (List.mem_of_getElem? (i := 16) rfl)
theorem kw_16_17 : Cond.methodLink RX12 141 yX12_foodItem ∈ wsL_law := kr_16 _ (List.mem_of_getElem? (i := 17) rfl)
theorem kw_16_18 : Cond.instanceMethod yX12_foodItem ∈ wsL_law := kr_16 _ (List.mem_of_getElem? (i := 18) rfl)
theorem kw_16_19 : Cond.selects RX12 yX12_foodItem yX12_foodItem ∈ wsL_law := kr_16 _ (List.mem_of_getElem? (i := 19) rfl)
theorem kw_16_2 : Cond.instanceMethod yX12_byteAt ∈ wsL_law := kr_16 _ (List.mem_of_getElem? (i := 2) rfl)
theorem kw_16_20 : Cond.code yX12_foodItem cX12_foodItem 2 (some .boolean) ∈ wsL_law := kr_16 _ (List.mem_of_getElem? (i := 20) rfl)
theorem kw_16_21 : Cond.constantLong RX12 135 (240) ∈ wsL_law := kr_16 _ (List.mem_of_getElem? (i := 21) rfl)
theorem kw_16_3 : Cond.selects RX12 yX12_byteAt yX12_byteAt ∈ wsL_law := kr_16 _ (List.mem_of_getElem? (i := 3) rfl)
theorem kw_16_4 : Cond.code yX12_byteAt cX12_byteAt 2 (some .int) ∈ wsL_law := kr_16 _ (List.mem_of_getElem? (i := 4) rfl)
theorem kw_16_5 : Cond.methodLink RX12 137 yX12_cellItem ∈ wsL_law := kr_16 _ (List.mem_of_getElem? (i := 5) rfl)
theorem kw_16_6 : Cond.instanceMethod yX12_cellItem ∈ wsL_law := kr_16 _ (List.mem_of_getElem? (i := 6) rfl)
theorem kw_16_7 : Cond.selects RX12 yX12_cellItem yX12_cellItem ∈ wsL_law := kr_16 _ (List.mem_of_getElem? (i := 7) rfl)
theorem kw_16_8 : Cond.code yX12_cellItem cX12_cellItem 2 (some .boolean) ∈ wsL_law := kr_16 _ (List.mem_of_getElem? (i := 8) rfl)
theorem kw_16_9 : Cond.constantLong RX12 133 (10) ∈ wsL_law := kr_16 _ (List.mem_of_getElem? (i := 9) rfl)
theorem kw_17_10 : Cond.code yX2_numberIn cX2_numberIn 4 (some .int) ∈ wsL_law := kr_17 _ (List.mem_of_getElem? (i := 10) rfl)
theorem kw_17_11 : Cond.methodLink RX10 137 yX0_roomOf ∈ wsL_law := kr_17 _ (List.mem_of_getElem? (i := 11) rfl)
theorem kw_17_12 : Cond.instanceMethod yX0_roomOf ∈ wsL_law := kr_17 _ (List.mem_of_getElem? (i := 12) rfl)
theorem kw_17_13 : Cond.selects RX0 yX0_roomOf yX0_roomOf ∈ wsL_law := kr_17 _ (List.mem_of_getElem? (i := 13) rfl)
theorem kw_17_14 : Cond.code yX0_roomOf cX0_roomOf 2 (some .int) ∈ wsL_law := kr_17 _ (List.mem_of_getElem? (i := 14) rfl)
theorem kw_17_19 : Cond.methodLink RX12 163 yX12_isRoomy ∈ wsL_law := kr_17 _ (List.mem_of_getElem? (i := 19) rfl)
theorem kw_17_2 : Cond.fieldLink RX11 125 "OffFirst" "keptNumber" "I" ∈ wsL_law := kr_17 _ (List.mem_of_getElem? (i := 2) rfl)
theorem kw_17_20 : Cond.instanceMethod yX12_isRoomy ∈ wsL_law := kr_17 _ (List.mem_of_getElem? (i := 20) rfl)
theorem kw_17_21 : Cond.selects RX12 yX12_isRoomy yX12_isRoomy ∈ wsL_law := kr_17 _ (List.mem_of_getElem? (i := 21) rfl)
theorem kw_17_22 : Cond.code yX12_isRoomy cX12_isRoomy 5 (some .boolean) ∈ wsL_law := kr_17 _ (List.mem_of_getElem? (i := 22) rfl)
theorem kw_17_3 : Cond.methodLink RX11 118 yX10_canBeLaid ∈ wsL_law := kr_17 _ (List.mem_of_getElem? (i := 3) rfl)
theorem kw_17_4 : Cond.instanceMethod yX10_canBeLaid ∈ wsL_law := kr_17 _ (List.mem_of_getElem? (i := 4) rfl)
theorem kw_17_5 : Cond.selects RX10 yX10_canBeLaid yX10_canBeLaid ∈ wsL_law := kr_17 _ (List.mem_of_getElem? (i := 5) rfl)
theorem kw_17_6 : Cond.code yX10_canBeLaid cX10_canBeLaid 2 (some .boolean) ∈ wsL_law := kr_17 _ (List.mem_of_getElem? (i := 6) rfl)
theorem kw_17_7 : Cond.methodLink RX10 134 yX2_numberIn ∈ wsL_law := kr_17 _ (List.mem_of_getElem? (i := 7) rfl)
theorem kw_17_8 : Cond.instanceMethod yX2_numberIn ∈ wsL_law := kr_17 _ (List.mem_of_getElem? (i := 8) rfl)
theorem kw_17_9 : Cond.selects RX2 yX2_numberIn yX2_numberIn ∈ wsL_law := kr_17 _ (List.mem_of_getElem? (i := 9) rfl)
theorem kw_18_10 : Cond.code yX8_kindOf cX8_kindOf 2 (some .int) ∈ wsL_law := kr_18 _ (List.mem_of_getElem? (i := 10) rfl)
theorem kw_18_11 : Cond.methodLink RX11 137 yX8_cellOf ∈ wsL_law := kr_18 _ (List.mem_of_getElem? (i := 11) rfl)
theorem kw_18_12 : Cond.instanceMethod yX8_cellOf ∈ wsL_law := kr_18 _ (List.mem_of_getElem? (i := 12) rfl)
theorem kw_18_13 : Cond.selects RX8 yX8_cellOf yX8_cellOf ∈ wsL_law := kr_18 _ (List.mem_of_getElem? (i := 13) rfl)
theorem kw_18_14 : Cond.code yX8_cellOf cX8_cellOf 2 (some .int) ∈ wsL_law := kr_18 _ (List.mem_of_getElem? (i := 14) rfl)
theorem kw_18_15 : Cond.methodLink RX11 140 yX8_ageOf ∈ wsL_law := kr_18 _ (List.mem_of_getElem? (i := 15) rfl)
theorem kw_18_16 : Cond.instanceMethod yX8_ageOf ∈ wsL_law := kr_18 _ (List.mem_of_getElem? (i := 16) rfl)
theorem kw_18_17 : Cond.selects RX8 yX8_ageOf yX8_ageOf ∈ wsL_law := kr_18 _ (List.mem_of_getElem? (i := 17) rfl)
theorem kw_18_18 : Cond.code yX8_ageOf cX8_ageOf 2 (some .int) ∈ wsL_law := kr_18 _ (List.mem_of_getElem? (i := 18) rfl)
theorem kw_18_19 : Cond.methodLink RX11 143 yX3_limitOf ∈ wsL_law := kr_18 _ (List.mem_of_getElem? (i := 19) rfl)
theorem kw_18_20 : Cond.instanceMethod yX3_limitOf ∈ wsL_law := kr_18 _ (List.mem_of_getElem? (i := 20) rfl)
theorem kw_18_21 : Cond.selects RX3 yX3_limitOf yX3_limitOf ∈ wsL_law := kr_18 _ (List.mem_of_getElem? (i := 21) rfl)
theorem kw_18_22 : Cond.code yX3_limitOf cX3_limitOf 2 (some .int) ∈ wsL_law := kr_18 _ (List.mem_of_getElem? (i := 22) rfl)
theorem kw_18_23 : Cond.methodLink RX3 31 yX8_kindOf ∈ wsL_law := kr_18 _ (List.mem_of_getElem? (i := 23) rfl)
theorem kw_18_3 : Cond.methodLink RX11 129 yX3_hasFood ∈ wsL_law := kr_18 _ (List.mem_of_getElem? (i := 3) rfl)
theorem kw_18_4 : Cond.instanceMethod yX3_hasFood ∈ wsL_law := kr_18 _ (List.mem_of_getElem? (i := 4) rfl)
theorem kw_18_5 : Cond.selects RX3 yX3_hasFood yX3_hasFood ∈ wsL_law := kr_18 _ (List.mem_of_getElem? (i := 5) rfl)
theorem kw_18_6 : Cond.code yX3_hasFood cX3_hasFood 2 (some .boolean) ∈ wsL_law := kr_18 _ (List.mem_of_getElem? (i := 6) rfl)
theorem kw_18_7 : Cond.methodLink RX11 133 yX8_kindOf ∈ wsL_law := kr_18 _ (List.mem_of_getElem? (i := 7) rfl)
theorem kw_18_8 : Cond.instanceMethod yX8_kindOf ∈ wsL_law := kr_18 _ (List.mem_of_getElem? (i := 8) rfl)
theorem kw_18_9 : Cond.selects RX8 yX8_kindOf yX8_kindOf ∈ wsL_law := kr_18 _ (List.mem_of_getElem? (i := 9) rfl)
theorem kw_19_0 : Cond.methodLink RX3 37 yX2_limitAs ∈ wsL_law := kr_19 _ (List.mem_of_getElem? (i := 0) rfl)
theorem kw_19_1 : Cond.instanceMethod yX2_limitAs ∈ wsL_law := kr_19 _ (List.mem_of_getElem? (i := 1) rfl)
theorem kw_19_10 : Cond.selects RX3 yX3_isOff yX3_isOff ∈ wsL_law := kr_19 _ (List.mem_of_getElem? (i := 10) rfl)
theorem kw_19_11 : Cond.code yX3_isOff cX3_isOff 2 (some .boolean) ∈ wsL_law := kr_19 _ (List.mem_of_getElem? (i := 11) rfl)
theorem kw_19_12 : Cond.methodLink RX3 41 yX8_ageOf ∈ wsL_law := kr_19 _ (List.mem_of_getElem? (i := 12) rfl)
theorem kw_19_13 : Cond.methodLink RX3 44 yX3_limitOf ∈ wsL_law := kr_19 _ (List.mem_of_getElem? (i := 13) rfl)
theorem kw_19_14 : Cond.methodLink RX11 152 yX2_sortOf ∈ wsL_law := kr_19 _ (List.mem_of_getElem? (i := 14) rfl)
theorem kw_19_15 : Cond.instanceMethod yX2_sortOf ∈ wsL_law := kr_19 _ (List.mem_of_getElem? (i := 15) rfl)
theorem kw_19_16 : Cond.selects RX2 yX2_sortOf yX2_sortOf ∈ wsL_law := kr_19 _ (List.mem_of_getElem? (i := 16) rfl)
theorem kw_19_17 : Cond.code yX2_sortOf cX2_sortOf 2 (some .int) ∈ wsL_law := kr_19 _ (List.mem_of_getElem? (i := 17) rfl)
theorem kw_19_2 : Cond.selects RX2 yX2_limitAs yX2_limitAs ∈ wsL_law := kr_19 _ (List.mem_of_getElem? (i := 2) rfl)
theorem kw_19_22 : Cond.constantLong RX12 186 (6) ∈ wsL_law := kr_19 _ (List.mem_of_getElem? (i := 22) rfl)
theorem kw_19_23 : Cond.methodLink RX12 183 yX12_isFood ∈ wsL_law := kr_19 _ (List.mem_of_getElem? (i := 23) rfl)
theorem kw_19_3 : Cond.code yX2_limitAs cX2_limitAs 3 (some .int) ∈ wsL_law := kr_19 _ (List.mem_of_getElem? (i := 3) rfl)
theorem kw_19_4 : Cond.methodLink RX11 146 yX8_fateOf ∈ wsL_law := kr_19 _ (List.mem_of_getElem? (i := 4) rfl)
theorem kw_19_5 : Cond.instanceMethod yX8_fateOf ∈ wsL_law := kr_19 _ (List.mem_of_getElem? (i := 5) rfl)
theorem kw_19_6 : Cond.selects RX8 yX8_fateOf yX8_fateOf ∈ wsL_law := kr_19 _ (List.mem_of_getElem? (i := 6) rfl)
theorem kw_19_7 : Cond.code yX8_fateOf cX8_fateOf 2 (some .int) ∈ wsL_law := kr_19 _ (List.mem_of_getElem? (i := 7) rfl)
theorem kw_19_8 : Cond.methodLink RX11 149 yX3_isOff ∈ wsL_law := kr_19 _ (List.mem_of_getElem? (i := 8) rfl)
theorem kw_19_9 : Cond.instanceMethod yX3_isOff ∈ wsL_law := kr_19 _ (List.mem_of_getElem? (i := 9) rfl)
theorem kw_1_15 : Cond.initialized RX9 ∈ wsL_law := kr_1 _ (List.mem_of_getElem? (i := 15) rfl)
theorem kw_1_16 : Cond.fieldLink RX11 10 "OffFirst" "text" "LOffFirst$Text;" ∈ wsL_law := kr_1 _ (List.mem_of_getElem? (i := 16) rfl)
theorem kw_1_19 : Cond.initialized RX10 ∈ wsL_law := kr_1 _ (List.mem_of_getElem? (i := 19) rfl)
theorem kw_1_2 : Cond.initialized RX11 ∈ wsL_law := kr_1 _ (List.mem_of_getElem? (i := 2) rfl)
theorem kw_1_20 : Cond.fieldLink RX11 19 "OffFirst" "draft" "LOffFirst$Told;" ∈ wsL_law := kr_1 _ (List.mem_of_getElem? (i := 20) rfl)
theorem kw_1_21 : Cond.fieldLink RX11 23 "OffFirst" "laid" "LOffFirst$Told;" ∈ wsL_law := kr_1 _ (List.mem_of_getElem? (i := 21) rfl)
theorem kw_1_5 : Cond.initialized RX12 ∈ wsL_law := kr_1 _ (List.mem_of_getElem? (i := 5) rfl)
theorem kw_20_0 : Cond.instanceMethod yX12_isFood ∈ wsL_law := kr_20 _ (List.mem_of_getElem? (i := 0) rfl)
theorem kw_20_1 : Cond.selects RX12 yX12_isFood yX12_isFood ∈ wsL_law := kr_20 _ (List.mem_of_getElem? (i := 1) rfl)
theorem kw_20_10 : Cond.code yX12_isOff cX12_isOff 2 (some .boolean) ∈ wsL_law := kr_20 _ (List.mem_of_getElem? (i := 10) rfl)
theorem kw_20_15 : Cond.constant RX11 158 (99999) ∈ wsL_law := kr_20 _ (List.mem_of_getElem? (i := 15) rfl)
theorem kw_20_16 : Cond.methodLink RX11 155 yX0_has ∈ wsL_law := kr_20 _ (List.mem_of_getElem? (i := 16) rfl)
theorem kw_20_17 : Cond.methodLink RX11 159 yX0_warmIn ∈ wsL_law := kr_20 _ (List.mem_of_getElem? (i := 17) rfl)
theorem kw_20_18 : Cond.instanceMethod yX0_warmIn ∈ wsL_law := kr_20 _ (List.mem_of_getElem? (i := 18) rfl)
theorem kw_20_19 : Cond.selects RX0 yX0_warmIn yX0_warmIn ∈ wsL_law := kr_20 _ (List.mem_of_getElem? (i := 19) rfl)
theorem kw_20_2 : Cond.code yX12_isFood cX12_isFood 2 (some .boolean) ∈ wsL_law := kr_20 _ (List.mem_of_getElem? (i := 2) rfl)
theorem kw_20_20 : Cond.code yX0_warmIn cX0_warmIn 3 (some .int) ∈ wsL_law := kr_20 _ (List.mem_of_getElem? (i := 20) rfl)
theorem kw_20_21 : Cond.methodLink RX0 36 yX0_isOpenedIn ∈ wsL_law := kr_20 _ (List.mem_of_getElem? (i := 21) rfl)
theorem kw_20_22 : Cond.instanceMethod yX0_isOpenedIn ∈ wsL_law := kr_20 _ (List.mem_of_getElem? (i := 22) rfl)
theorem kw_20_23 : Cond.selects RX0 yX0_isOpenedIn yX0_isOpenedIn ∈ wsL_law := kr_20 _ (List.mem_of_getElem? (i := 23) rfl)
theorem kw_20_3 : Cond.methodLink RX12 170 yX12_limitOf ∈ wsL_law := kr_20 _ (List.mem_of_getElem? (i := 3) rfl)
theorem kw_20_4 : Cond.instanceMethod yX12_limitOf ∈ wsL_law := kr_20 _ (List.mem_of_getElem? (i := 4) rfl)
theorem kw_20_5 : Cond.selects RX12 yX12_limitOf yX12_limitOf ∈ wsL_law := kr_20 _ (List.mem_of_getElem? (i := 5) rfl)
theorem kw_20_6 : Cond.code yX12_limitOf cX12_limitOf 2 (some .int) ∈ wsL_law := kr_20 _ (List.mem_of_getElem? (i := 6) rfl)
theorem kw_20_7 : Cond.methodLink RX12 180 yX12_isOff ∈ wsL_law := kr_20 _ (List.mem_of_getElem? (i := 7) rfl)
theorem kw_20_8 : Cond.instanceMethod yX12_isOff ∈ wsL_law := kr_20 _ (List.mem_of_getElem? (i := 8) rfl)
theorem kw_20_9 : Cond.selects RX12 yX12_isOff yX12_isOff ∈ wsL_law := kr_20 _ (List.mem_of_getElem? (i := 9) rfl)
theorem kw_21_0 : Cond.code yX0_isOpenedIn cX0_isOpenedIn 2 (some .boolean) ∈ wsL_law := kr_21 _ (List.mem_of_getElem? (i := 0) rfl)
theorem kw_21_10 : Cond.methodLink RX12 173 yX12_warmthOf ∈ wsL_law := kr_21 _ (List.mem_of_getElem? (i := 10) rfl)
theorem kw_21_11 : Cond.instanceMethod yX12_warmthOf ∈ wsL_law := kr_21 _ (List.mem_of_getElem? (i := 11) rfl)
theorem kw_21_12 : Cond.selects RX12 yX12_warmthOf yX12_warmthOf ∈ wsL_law := kr_21 _ (List.mem_of_getElem? (i := 12) rfl)
theorem kw_21_13 : Cond.code yX12_warmthOf cX12_warmthOf 3 (some .int) ∈ wsL_law := kr_21 _ (List.mem_of_getElem? (i := 13) rfl)
theorem kw_21_14 : Cond.methodLink RX12 166 yX12_has ∈ wsL_law := kr_21 _ (List.mem_of_getElem? (i := 14) rfl)
theorem kw_21_15 : Cond.static yX12_has ∈ wsL_law := kr_21 _ (List.mem_of_getElem? (i := 15) rfl)
theorem kw_21_16 : Cond.code yX12_has cX12_has 2 (some .boolean) ∈ wsL_law := kr_21 _ (List.mem_of_getElem? (i := 16) rfl)
theorem kw_21_21 : Cond.methodLink RX11 166 yX3_letHoursGoBy ∈ wsL_law := kr_21 _ (List.mem_of_getElem? (i := 21) rfl)
theorem kw_21_22 : Cond.instanceMethod yX3_letHoursGoBy ∈ wsL_law := kr_21 _ (List.mem_of_getElem? (i := 22) rfl)
theorem kw_21_23 : Cond.selects RX3 yX3_letHoursGoBy yX3_letHoursGoBy ∈ wsL_law := kr_21 _ (List.mem_of_getElem? (i := 23) rfl)
theorem kw_21_5 : Cond.constantLong RX12 191 (99999) ∈ wsL_law := kr_21 _ (List.mem_of_getElem? (i := 5) rfl)
theorem kw_21_6 : Cond.methodLink RX12 188 yX12_isCell ∈ wsL_law := kr_21 _ (List.mem_of_getElem? (i := 6) rfl)
theorem kw_21_7 : Cond.instanceMethod yX12_isCell ∈ wsL_law := kr_21 _ (List.mem_of_getElem? (i := 7) rfl)
theorem kw_21_8 : Cond.selects RX12 yX12_isCell yX12_isCell ∈ wsL_law := kr_21 _ (List.mem_of_getElem? (i := 8) rfl)
theorem kw_21_9 : Cond.code yX12_isCell cX12_isCell 2 (some .boolean) ∈ wsL_law := kr_21 _ (List.mem_of_getElem? (i := 9) rfl)
theorem kw_22_0 : Cond.code yX3_letHoursGoBy cX3_letHoursGoBy 3 none ∈ wsL_law := kr_22 _ (List.mem_of_getElem? (i := 0) rfl)
theorem kw_22_1 : Cond.methodLink RX3 47 yX8_isThere ∈ wsL_law := kr_22 _ (List.mem_of_getElem? (i := 1) rfl)
theorem kw_22_10 : Cond.methodLink RX3 57 yX3_ageAs ∈ wsL_law := kr_22 _ (List.mem_of_getElem? (i := 10) rfl)
theorem kw_22_11 : Cond.instanceMethod yX3_ageAs ∈ wsL_law := kr_22 _ (List.mem_of_getElem? (i := 11) rfl)
theorem kw_22_12 : Cond.selects RX3 yX3_ageAs yX3_ageAs ∈ wsL_law := kr_22 _ (List.mem_of_getElem? (i := 12) rfl)
theorem kw_22_13 : Cond.code yX3_ageAs cX3_ageAs 5 (some .int) ∈ wsL_law := kr_22 _ (List.mem_of_getElem? (i := 13) rfl)
theorem kw_22_14 : Cond.methodLink RX3 68 yX0_warmthOver ∈ wsL_law := kr_22 _ (List.mem_of_getElem? (i := 14) rfl)
theorem kw_22_15 : Cond.instanceMethod yX0_warmthOver ∈ wsL_law := kr_22 _ (List.mem_of_getElem? (i := 15) rfl)
theorem kw_22_16 : Cond.selects RX0 yX0_warmthOver yX0_warmthOver ∈ wsL_law := kr_22 _ (List.mem_of_getElem? (i := 16) rfl)
theorem kw_22_17 : Cond.code yX0_warmthOver cX0_warmthOver 6 (some .int) ∈ wsL_law := kr_22 _ (List.mem_of_getElem? (i := 17) rfl)
theorem kw_22_18 : Cond.methodLink RX0 40 yJ6_bitCount_0f7a4 ∈ wsL_law := kr_22 _ (List.mem_of_getElem? (i := 18) rfl)
theorem kw_22_19 : Cond.static yJ6_bitCount_0f7a4 ∈ wsL_law := kr_22 _ (List.mem_of_getElem? (i := 19) rfl)
theorem kw_22_2 : Cond.instanceMethod yX8_isThere ∈ wsL_law := kr_22 _ (List.mem_of_getElem? (i := 2) rfl)
theorem kw_22_20 : Cond.initialized RJ6 ∈ wsL_law := kr_22 _ (List.mem_of_getElem? (i := 20) rfl)
theorem kw_22_21 : Cond.code yJ6_bitCount_0f7a4 cJ6_bitCount_0f7a4 1 (some .int) ∈ wsL_law := kr_22 _ (List.mem_of_getElem? (i := 21) rfl)
theorem kw_22_22 : Cond.constant RJ6 265 (1431655765) ∈ wsL_law := kr_22 _ (List.mem_of_getElem? (i := 22) rfl)
theorem kw_22_23 : Cond.constant RJ6 266 (858993459) ∈ wsL_law := kr_22 _ (List.mem_of_getElem? (i := 23) rfl)
theorem kw_22_3 : Cond.selects RX8 yX8_isThere yX8_isThere ∈ wsL_law := kr_22 _ (List.mem_of_getElem? (i := 3) rfl)
theorem kw_22_4 : Cond.code yX8_isThere cX8_isThere 2 (some .boolean) ∈ wsL_law := kr_22 _ (List.mem_of_getElem? (i := 4) rfl)
theorem kw_22_5 : Cond.methodLink RX3 80 yX3_ageBehind ∈ wsL_law := kr_22 _ (List.mem_of_getElem? (i := 5) rfl)
theorem kw_22_6 : Cond.instanceMethod yX3_ageBehind ∈ wsL_law := kr_22 _ (List.mem_of_getElem? (i := 6) rfl)
theorem kw_22_7 : Cond.selects RX3 yX3_ageBehind yX3_ageBehind ∈ wsL_law := kr_22 _ (List.mem_of_getElem? (i := 7) rfl)
theorem kw_22_8 : Cond.code yX3_ageBehind cX3_ageBehind 3 (some .int) ∈ wsL_law := kr_22 _ (List.mem_of_getElem? (i := 8) rfl)
theorem kw_22_9 : Cond.methodLink RX3 54 yX8_cellOf ∈ wsL_law := kr_22 _ (List.mem_of_getElem? (i := 9) rfl)
theorem kw_23_0 : Cond.constant RJ6 267 (252645135) ∈ wsL_law := kr_23 _ (List.mem_of_getElem? (i := 0) rfl)
theorem kw_23_1 : Cond.static yX11_ageing ∈ wsL_law := kr_23 _ (List.mem_of_getElem? (i := 1) rfl)
theorem kw_23_10 : Cond.code yX3_offAndThere cX3_offAndThere 3 (some .int) ∈ wsL_law := kr_23 _ (List.mem_of_getElem? (i := 10) rfl)
theorem kw_23_11 : Cond.methodLink RX3 51 yX3_isOff ∈ wsL_law := kr_23 _ (List.mem_of_getElem? (i := 11) rfl)
theorem kw_23_12 : Cond.methodLink RX11 174 yJ6_bitCount_0f7a4 ∈ wsL_law := kr_23 _ (List.mem_of_getElem? (i := 12) rfl)
theorem kw_23_17 : Cond.constantLong RX12 193 (999) ∈ wsL_law := kr_23 _ (List.mem_of_getElem? (i := 17) rfl)
theorem kw_23_18 : Cond.constant RX12 195 (99999) ∈ wsL_law := kr_23 _ (List.mem_of_getElem? (i := 18) rfl)
theorem kw_23_19 : Cond.methodLink RX12 196 yX12_goHour ∈ wsL_law := kr_23 _ (List.mem_of_getElem? (i := 19) rfl)
theorem kw_23_2 : Cond.code yX11_ageing cX11_ageing 4 (some .int) ∈ wsL_law := kr_23 _ (List.mem_of_getElem? (i := 2) rfl)
theorem kw_23_20 : Cond.instanceMethod yX12_goHour ∈ wsL_law := kr_23 _ (List.mem_of_getElem? (i := 20) rfl)
theorem kw_23_21 : Cond.selects RX12 yX12_goHour yX12_goHour ∈ wsL_law := kr_23 _ (List.mem_of_getElem? (i := 21) rfl)
theorem kw_23_22 : Cond.code yX12_goHour cX12_goHour 4 none ∈ wsL_law := kr_23 _ (List.mem_of_getElem? (i := 22) rfl)
theorem kw_23_23 : Cond.methodLink RX12 177 yX12_agesBy ∈ wsL_law := kr_23 _ (List.mem_of_getElem? (i := 23) rfl)
theorem kw_23_3 : Cond.methodLink RX3 83 yX8_ageTo ∈ wsL_law := kr_23 _ (List.mem_of_getElem? (i := 3) rfl)
theorem kw_23_4 : Cond.instanceMethod yX8_ageTo ∈ wsL_law := kr_23 _ (List.mem_of_getElem? (i := 4) rfl)
theorem kw_23_5 : Cond.selects RX8 yX8_ageTo yX8_ageTo ∈ wsL_law := kr_23 _ (List.mem_of_getElem? (i := 5) rfl)
theorem kw_23_6 : Cond.code yX8_ageTo cX8_ageTo 3 none ∈ wsL_law := kr_23 _ (List.mem_of_getElem? (i := 6) rfl)
theorem kw_23_7 : Cond.methodLink RX11 170 yX3_offAndThere ∈ wsL_law := kr_23 _ (List.mem_of_getElem? (i := 7) rfl)
theorem kw_23_8 : Cond.instanceMethod yX3_offAndThere ∈ wsL_law := kr_23 _ (List.mem_of_getElem? (i := 8) rfl)
theorem kw_23_9 : Cond.selects RX3 yX3_offAndThere yX3_offAndThere ∈ wsL_law := kr_23 _ (List.mem_of_getElem? (i := 9) rfl)
theorem kw_24_0 : Cond.static yX12_agesBy ∈ wsL_law := kr_24 _ (List.mem_of_getElem? (i := 0) rfl)
theorem kw_24_1 : Cond.code yX12_agesBy cX12_agesBy 2 (some .int) ∈ wsL_law := kr_24 _ (List.mem_of_getElem? (i := 1) rfl)
theorem kw_24_10 : Cond.code yX8_numberIn cX8_numberIn 4 (some .int) ∈ wsL_law := kr_24 _ (List.mem_of_getElem? (i := 10) rfl)
theorem kw_24_11 : Cond.methodLink RX8 52 yX8_isThere ∈ wsL_law := kr_24 _ (List.mem_of_getElem? (i := 11) rfl)
theorem kw_24_12 : Cond.methodLink RX11 185 yX0_roomOf ∈ wsL_law := kr_24 _ (List.mem_of_getElem? (i := 12) rfl)
theorem kw_24_13 : Cond.methodLink RX11 188 yX8_putInto ∈ wsL_law := kr_24 _ (List.mem_of_getElem? (i := 13) rfl)
theorem kw_24_14 : Cond.instanceMethod yX8_putInto ∈ wsL_law := kr_24 _ (List.mem_of_getElem? (i := 14) rfl)
theorem kw_24_15 : Cond.selects RX8 yX8_putInto yX8_putInto ∈ wsL_law := kr_24 _ (List.mem_of_getElem? (i := 15) rfl)
theorem kw_24_16 : Cond.code yX8_putInto cX8_putInto 3 none ∈ wsL_law := kr_24 _ (List.mem_of_getElem? (i := 16) rfl)
theorem kw_24_21 : Cond.methodLink RX12 199 yX12_inCell ∈ wsL_law := kr_24 _ (List.mem_of_getElem? (i := 21) rfl)
theorem kw_24_22 : Cond.instanceMethod yX12_inCell ∈ wsL_law := kr_24 _ (List.mem_of_getElem? (i := 22) rfl)
theorem kw_24_23 : Cond.selects RX12 yX12_inCell yX12_inCell ∈ wsL_law := kr_24 _ (List.mem_of_getElem? (i := 23) rfl)
theorem kw_24_6 : Cond.methodLink RX11 179 yX8_isThere ∈ wsL_law := kr_24 _ (List.mem_of_getElem? (i := 6) rfl)
theorem kw_24_7 : Cond.methodLink RX11 182 yX8_numberIn ∈ wsL_law := kr_24 _ (List.mem_of_getElem? (i := 7) rfl)
theorem kw_24_8 : Cond.instanceMethod yX8_numberIn ∈ wsL_law := kr_24 _ (List.mem_of_getElem? (i := 8) rfl)
theorem kw_24_9 : Cond.selects RX8 yX8_numberIn yX8_numberIn ∈ wsL_law := kr_24 _ (List.mem_of_getElem? (i := 9) rfl)
theorem kw_25_0 : Cond.code yX12_inCell cX12_inCell 4 (some .int) ∈ wsL_law := kr_25 _ (List.mem_of_getElem? (i := 0) rfl)
theorem kw_25_10 : Cond.selects RX8 yX8_turnInto yX8_turnInto ∈ wsL_law := kr_25 _ (List.mem_of_getElem? (i := 10) rfl)
theorem kw_25_11 : Cond.code yX8_turnInto cX8_turnInto 3 none ∈ wsL_law := kr_25 _ (List.mem_of_getElem? (i := 11) rfl)
theorem kw_25_20 : Cond.methodLink RX11 199 yX11_takeAway ∈ wsL_law := kr_25 _ (List.mem_of_getElem? (i := 20) rfl)
theorem kw_25_21 : Cond.instanceMethod yX11_takeAway ∈ wsL_law := kr_25 _ (List.mem_of_getElem? (i := 21) rfl)
theorem kw_25_22 : Cond.selects RX11 yX11_takeAway yX11_takeAway ∈ wsL_law := kr_25 _ (List.mem_of_getElem? (i := 22) rfl)
theorem kw_25_23 : Cond.code yX11_takeAway cX11_takeAway 3 (some .int) ∈ wsL_law := kr_25 _ (List.mem_of_getElem? (i := 23) rfl)
theorem kw_25_5 : Cond.methodLink RX11 192 yX11_canBecome ∈ wsL_law := kr_25 _ (List.mem_of_getElem? (i := 5) rfl)
theorem kw_25_6 : Cond.static yX11_canBecome ∈ wsL_law := kr_25 _ (List.mem_of_getElem? (i := 6) rfl)
theorem kw_25_7 : Cond.code yX11_canBecome cX11_canBecome 2 (some .boolean) ∈ wsL_law := kr_25 _ (List.mem_of_getElem? (i := 7) rfl)
theorem kw_25_8 : Cond.methodLink RX11 196 yX8_turnInto ∈ wsL_law := kr_25 _ (List.mem_of_getElem? (i := 8) rfl)
theorem kw_25_9 : Cond.instanceMethod yX8_turnInto ∈ wsL_law := kr_25 _ (List.mem_of_getElem? (i := 9) rfl)
theorem kw_26_0 : Cond.methodLink RX11 291 yX8_takeOut ∈ wsL_law := kr_26 _ (List.mem_of_getElem? (i := 0) rfl)
theorem kw_26_1 : Cond.instanceMethod yX8_takeOut ∈ wsL_law := kr_26 _ (List.mem_of_getElem? (i := 1) rfl)
theorem kw_26_10 : Cond.selects RX12 yX12_take yX12_take ∈ wsL_law := kr_26 _ (List.mem_of_getElem? (i := 10) rfl)
theorem kw_26_11 : Cond.code yX12_take cX12_take 3 (some .int) ∈ wsL_law := kr_26 _ (List.mem_of_getElem? (i := 11) rfl)
theorem kw_26_2 : Cond.selects RX8 yX8_takeOut yX8_takeOut ∈ wsL_law := kr_26 _ (List.mem_of_getElem? (i := 2) rfl)
theorem kw_26_3 : Cond.code yX8_takeOut cX8_takeOut 3 none ∈ wsL_law := kr_26 _ (List.mem_of_getElem? (i := 3) rfl)
theorem kw_26_8 : Cond.methodLink RX12 202 yX12_take ∈ wsL_law := kr_26 _ (List.mem_of_getElem? (i := 8) rfl)
theorem kw_26_9 : Cond.instanceMethod yX12_take ∈ wsL_law := kr_26 _ (List.mem_of_getElem? (i := 9) rfl)
theorem kw_27_0 : Cond.methodLink RX11 202 yX3_hoursTillOff ∈ wsL_law := kr_27 _ (List.mem_of_getElem? (i := 0) rfl)
theorem kw_27_1 : Cond.instanceMethod yX3_hoursTillOff ∈ wsL_law := kr_27 _ (List.mem_of_getElem? (i := 1) rfl)
theorem kw_27_13 : Cond.methodLink RX11 205 yX3_lostBehind ∈ wsL_law := kr_27 _ (List.mem_of_getElem? (i := 13) rfl)
theorem kw_27_14 : Cond.instanceMethod yX3_lostBehind ∈ wsL_law := kr_27 _ (List.mem_of_getElem? (i := 14) rfl)
theorem kw_27_15 : Cond.selects RX3 yX3_lostBehind yX3_lostBehind ∈ wsL_law := kr_27 _ (List.mem_of_getElem? (i := 15) rfl)
theorem kw_27_16 : Cond.code yX3_lostBehind cX3_lostBehind 4 (some .int) ∈ wsL_law := kr_27 _ (List.mem_of_getElem? (i := 16) rfl)
theorem kw_27_17 : Cond.methodLink RX3 90 yX3_coinLostAs ∈ wsL_law := kr_27 _ (List.mem_of_getElem? (i := 17) rfl)
theorem kw_27_18 : Cond.instanceMethod yX3_coinLostAs ∈ wsL_law := kr_27 _ (List.mem_of_getElem? (i := 18) rfl)
theorem kw_27_19 : Cond.selects RX3 yX3_coinLostAs yX3_coinLostAs ∈ wsL_law := kr_27 _ (List.mem_of_getElem? (i := 19) rfl)
theorem kw_27_2 : Cond.selects RX3 yX3_hoursTillOff yX3_hoursTillOff ∈ wsL_law := kr_27 _ (List.mem_of_getElem? (i := 2) rfl)
theorem kw_27_20 : Cond.code yX3_coinLostAs cX3_coinLostAs 5 (some .int) ∈ wsL_law := kr_27 _ (List.mem_of_getElem? (i := 20) rfl)
theorem kw_27_21 : Cond.methodLink RX3 77 yX2_coinOf ∈ wsL_law := kr_27 _ (List.mem_of_getElem? (i := 21) rfl)
theorem kw_27_22 : Cond.instanceMethod yX2_coinOf ∈ wsL_law := kr_27 _ (List.mem_of_getElem? (i := 22) rfl)
theorem kw_27_23 : Cond.selects RX2 yX2_coinOf yX2_coinOf ∈ wsL_law := kr_27 _ (List.mem_of_getElem? (i := 23) rfl)
theorem kw_27_3 : Cond.code yX3_hoursTillOff cX3_hoursTillOff 9 (some .int) ∈ wsL_law := kr_27 _ (List.mem_of_getElem? (i := 3) rfl)
theorem kw_27_4 : Cond.methodLink RX3 87 yX0_warmIn ∈ wsL_law := kr_27 _ (List.mem_of_getElem? (i := 4) rfl)
theorem kw_28_0 : Cond.code yX2_coinOf cX2_coinOf 2 (some .int) ∈ wsL_law := kr_28 _ (List.mem_of_getElem? (i := 0) rfl)
theorem kw_28_10 : Cond.instanceMethod yX12_copy ∈ wsL_law := kr_28 _ (List.mem_of_getElem? (i := 10) rfl)
theorem kw_28_11 : Cond.selects RX12 yX12_copy yX12_copy ∈ wsL_law := kr_28 _ (List.mem_of_getElem? (i := 11) rfl)
theorem kw_28_12 : Cond.code yX12_copy cX12_copy 4 none ∈ wsL_law := kr_28 _ (List.mem_of_getElem? (i := 12) rfl)
theorem kw_28_13 : Cond.methodLink RX12 217 yX12_lostOf ∈ wsL_law := kr_28 _ (List.mem_of_getElem? (i := 13) rfl)
theorem kw_28_14 : Cond.instanceMethod yX12_lostOf ∈ wsL_law := kr_28 _ (List.mem_of_getElem? (i := 14) rfl)
theorem kw_28_15 : Cond.selects RX12 yX12_lostOf yX12_lostOf ∈ wsL_law := kr_28 _ (List.mem_of_getElem? (i := 15) rfl)
theorem kw_28_16 : Cond.code yX12_lostOf cX12_lostOf 3 (some .int) ∈ wsL_law := kr_28 _ (List.mem_of_getElem? (i := 16) rfl)
theorem kw_28_17 : Cond.methodLink RX12 207 yX12_offCoin ∈ wsL_law := kr_28 _ (List.mem_of_getElem? (i := 17) rfl)
theorem kw_28_18 : Cond.instanceMethod yX12_offCoin ∈ wsL_law := kr_28 _ (List.mem_of_getElem? (i := 18) rfl)
theorem kw_28_19 : Cond.selects RX12 yX12_offCoin yX12_offCoin ∈ wsL_law := kr_28 _ (List.mem_of_getElem? (i := 19) rfl)
theorem kw_28_20 : Cond.code yX12_offCoin cX12_offCoin 4 (some .int) ∈ wsL_law := kr_28 _ (List.mem_of_getElem? (i := 20) rfl)
theorem kw_28_5 : Cond.methodLink RX12 210 yX12_isLater ∈ wsL_law := kr_28 _ (List.mem_of_getElem? (i := 5) rfl)
theorem kw_28_6 : Cond.static yX12_isLater ∈ wsL_law := kr_28 _ (List.mem_of_getElem? (i := 6) rfl)
theorem kw_28_7 : Cond.code yX12_isLater cX12_isLater 1 (some .boolean) ∈ wsL_law := kr_28 _ (List.mem_of_getElem? (i := 7) rfl)
theorem kw_28_8 : Cond.constantLong RX12 205 (500) ∈ wsL_law := kr_28 _ (List.mem_of_getElem? (i := 8) rfl)
theorem kw_28_9 : Cond.methodLink RX12 213 yX12_copy ∈ wsL_law := kr_28 _ (List.mem_of_getElem? (i := 9) rfl)
theorem kw_29_1 : Cond.methodLink RX11 208 yX6_findCheapest ∈ wsL_law := kr_29 _ (List.mem_of_getElem? (i := 1) rfl)
theorem kw_29_10 : Cond.selects RX1 yX1_lookAhead yX1_lookAhead ∈ wsL_law := kr_29 _ (List.mem_of_getElem? (i := 10) rfl)
theorem kw_29_11 : Cond.code yX1_lookAhead cX1_lookAhead 7 none ∈ wsL_law := kr_29 _ (List.mem_of_getElem? (i := 11) rfl)
theorem kw_29_12 : Cond.methodLink RX1 52 yX3_limitOf ∈ wsL_law := kr_29 _ (List.mem_of_getElem? (i := 12) rfl)
theorem kw_29_13 : Cond.methodLink RX1 60 yX3_ageBehind ∈ wsL_law := kr_29 _ (List.mem_of_getElem? (i := 13) rfl)
theorem kw_29_14 : Cond.methodLink RX6 46 yX8_bitsThere ∈ wsL_law := kr_29 _ (List.mem_of_getElem? (i := 14) rfl)
theorem kw_29_15 : Cond.instanceMethod yX8_bitsThere ∈ wsL_law := kr_29 _ (List.mem_of_getElem? (i := 15) rfl)
theorem kw_29_16 : Cond.selects RX8 yX8_bitsThere yX8_bitsThere ∈ wsL_law := kr_29 _ (List.mem_of_getElem? (i := 16) rfl)
theorem kw_29_17 : Cond.code yX8_bitsThere cX8_bitsThere 3 (some .int) ∈ wsL_law := kr_29 _ (List.mem_of_getElem? (i := 17) rfl)
theorem kw_29_18 : Cond.methodLink RX6 52 yX6_tryEvening ∈ wsL_law := kr_29 _ (List.mem_of_getElem? (i := 18) rfl)
theorem kw_29_19 : Cond.static yX6_tryEvening ∈ wsL_law := kr_29 _ (List.mem_of_getElem? (i := 19) rfl)
theorem kw_29_2 : Cond.instanceMethod yX6_findCheapest ∈ wsL_law := kr_29 _ (List.mem_of_getElem? (i := 2) rfl)
theorem kw_29_20 : Cond.code yX6_tryEvening cX6_tryEvening 7 none ∈ wsL_law := kr_29 _ (List.mem_of_getElem? (i := 20) rfl)
theorem kw_29_21 : Cond.methodLink RX6 60 yX6_coinLeft ∈ wsL_law := kr_29 _ (List.mem_of_getElem? (i := 21) rfl)
theorem kw_29_22 : Cond.instanceMethod yX6_coinLeft ∈ wsL_law := kr_29 _ (List.mem_of_getElem? (i := 22) rfl)
theorem kw_29_23 : Cond.selects RX6 yX6_coinLeft yX6_coinLeft ∈ wsL_law := kr_29 _ (List.mem_of_getElem? (i := 23) rfl)
theorem kw_29_3 : Cond.selects RX6 yX6_findCheapest yX6_findCheapest ∈ wsL_law := kr_29 _ (List.mem_of_getElem? (i := 3) rfl)
theorem kw_29_4 : Cond.code yX6_findCheapest cX6_findCheapest 2 none ∈ wsL_law := kr_29 _ (List.mem_of_getElem? (i := 4) rfl)
theorem kw_29_5 : Cond.fieldLink RX6 26 "OffFirst$Planner" "number" "I" ∈ wsL_law := kr_29 _ (List.mem_of_getElem? (i := 5) rfl)
theorem kw_29_6 : Cond.constant RX6 30 (1000000000) ∈ wsL_law := kr_29 _ (List.mem_of_getElem? (i := 6) rfl)
theorem kw_29_7 : Cond.fieldLink RX6 31 "OffFirst$Planner" "leastCost" "I" ∈ wsL_law := kr_29 _ (List.mem_of_getElem? (i := 7) rfl)
theorem kw_29_8 : Cond.methodLink RX6 34 yX1_lookAhead ∈ wsL_law := kr_29 _ (List.mem_of_getElem? (i := 8) rfl)
theorem kw_29_9 : Cond.instanceMethod yX1_lookAhead ∈ wsL_law := kr_29 _ (List.mem_of_getElem? (i := 9) rfl)
theorem kw_2_0 : Cond.initialized RX8 ∈ wsL_law := kr_2 _ (List.mem_of_getElem? (i := 0) rfl)
theorem kw_2_1 : Cond.fieldLink RX11 29 "OffFirst" "stock" "LOffFirst$Stock;" ∈ wsL_law := kr_2 _ (List.mem_of_getElem? (i := 1) rfl)
theorem kw_2_10 : Cond.initialized RX1 ∈ wsL_law := kr_2 _ (List.mem_of_getElem? (i := 10) rfl)
theorem kw_2_11 : Cond.fieldLink RX11 53 "OffFirst" "evenings" "LOffFirst$Evenings;" ∈ wsL_law := kr_2 _ (List.mem_of_getElem? (i := 11) rfl)
theorem kw_2_14 : Cond.initialized RX6 ∈ wsL_law := kr_2 _ (List.mem_of_getElem? (i := 14) rfl)
theorem kw_2_15 : Cond.fieldLink RX11 62 "OffFirst" "planner" "LOffFirst$Planner;" ∈ wsL_law := kr_2 _ (List.mem_of_getElem? (i := 15) rfl)
theorem kw_2_18 : Cond.initialized RX4 ∈ wsL_law := kr_2 _ (List.mem_of_getElem? (i := 18) rfl)
theorem kw_2_19 : Cond.fieldLink RX11 69 "OffFirst" "layer" "LOffFirst$Layer;" ∈ wsL_law := kr_2 _ (List.mem_of_getElem? (i := 19) rfl)
theorem kw_2_2 : Cond.fieldLink RX11 33 "OffFirst" "firstKept" "LOffFirst$Stock;" ∈ wsL_law := kr_2 _ (List.mem_of_getElem? (i := 2) rfl)
theorem kw_2_22 : Cond.initialized RX7 ∈ wsL_law := kr_2 _ (List.mem_of_getElem? (i := 22) rfl)
theorem kw_2_23 : Cond.fieldLink RX11 76 "OffFirst" "spans" "LOffFirst$Spans;" ∈ wsL_law := kr_2 _ (List.mem_of_getElem? (i := 23) rfl)
theorem kw_2_3 : Cond.fieldLink RX11 36 "OffFirst" "secondKept" "LOffFirst$Stock;" ∈ wsL_law := kr_2 _ (List.mem_of_getElem? (i := 3) rfl)
theorem kw_2_6 : Cond.initialized RX3 ∈ wsL_law := kr_2 _ (List.mem_of_getElem? (i := 6) rfl)
theorem kw_2_7 : Cond.fieldLink RX11 44 "OffFirst" "fridge" "LOffFirst$Fridge;" ∈ wsL_law := kr_2 _ (List.mem_of_getElem? (i := 7) rfl)
theorem kw_30_0 : Cond.code yX6_coinLeft cX6_coinLeft 2 (some .int) ∈ wsL_law := kr_30 _ (List.mem_of_getElem? (i := 0) rfl)
theorem kw_30_1 : Cond.methodLink RX6 97 yX1_offOn ∈ wsL_law := kr_30 _ (List.mem_of_getElem? (i := 1) rfl)
theorem kw_30_10 : Cond.code yX11_hasBit cX11_hasBit 2 (some .boolean) ∈ wsL_law := kr_30 _ (List.mem_of_getElem? (i := 10) rfl)
theorem kw_30_11 : Cond.methodLink RX6 64 yX6_settle ∈ wsL_law := kr_30 _ (List.mem_of_getElem? (i := 11) rfl)
theorem kw_30_12 : Cond.instanceMethod yX6_settle ∈ wsL_law := kr_30 _ (List.mem_of_getElem? (i := 12) rfl)
theorem kw_30_13 : Cond.selects RX6 yX6_settle yX6_settle ∈ wsL_law := kr_30 _ (List.mem_of_getElem? (i := 13) rfl)
theorem kw_30_14 : Cond.code yX6_settle cX6_settle 3 none ∈ wsL_law := kr_30 _ (List.mem_of_getElem? (i := 14) rfl)
theorem kw_30_15 : Cond.methodLink RX6 71 yX6_costOfHunger ∈ wsL_law := kr_30 _ (List.mem_of_getElem? (i := 15) rfl)
theorem kw_30_16 : Cond.instanceMethod yX6_costOfHunger ∈ wsL_law := kr_30 _ (List.mem_of_getElem? (i := 16) rfl)
theorem kw_30_17 : Cond.selects RX6 yX6_costOfHunger yX6_costOfHunger ∈ wsL_law := kr_30 _ (List.mem_of_getElem? (i := 17) rfl)
theorem kw_30_18 : Cond.code yX6_costOfHunger cX6_costOfHunger 2 (some .int) ∈ wsL_law := kr_30 _ (List.mem_of_getElem? (i := 18) rfl)
theorem kw_30_19 : Cond.methodLink RX6 90 yX10_hungryWith ∈ wsL_law := kr_30 _ (List.mem_of_getElem? (i := 19) rfl)
theorem kw_30_2 : Cond.instanceMethod yX1_offOn ∈ wsL_law := kr_30 _ (List.mem_of_getElem? (i := 2) rfl)
theorem kw_30_20 : Cond.instanceMethod yX10_hungryWith ∈ wsL_law := kr_30 _ (List.mem_of_getElem? (i := 20) rfl)
theorem kw_30_21 : Cond.selects RX10 yX10_hungryWith yX10_hungryWith ∈ wsL_law := kr_30 _ (List.mem_of_getElem? (i := 21) rfl)
theorem kw_30_22 : Cond.code yX10_hungryWith cX10_hungryWith 4 (some .int) ∈ wsL_law := kr_30 _ (List.mem_of_getElem? (i := 22) rfl)
theorem kw_30_23 : Cond.methodLink RX6 83 yX10_sortsOfDish ∈ wsL_law := kr_30 _ (List.mem_of_getElem? (i := 23) rfl)
theorem kw_30_3 : Cond.selects RX1 yX1_offOn yX1_offOn ∈ wsL_law := kr_30 _ (List.mem_of_getElem? (i := 3) rfl)
theorem kw_30_4 : Cond.code yX1_offOn cX1_offOn 2 (some .int) ∈ wsL_law := kr_30 _ (List.mem_of_getElem? (i := 4) rfl)
theorem kw_30_5 : Cond.methodLink RX6 100 yX2_coinOfAll ∈ wsL_law := kr_30 _ (List.mem_of_getElem? (i := 5) rfl)
theorem kw_30_6 : Cond.instanceMethod yX2_coinOfAll ∈ wsL_law := kr_30 _ (List.mem_of_getElem? (i := 6) rfl)
theorem kw_30_7 : Cond.selects RX2 yX2_coinOfAll yX2_coinOfAll ∈ wsL_law := kr_30 _ (List.mem_of_getElem? (i := 7) rfl)
theorem kw_30_8 : Cond.code yX2_coinOfAll cX2_coinOfAll 4 (some .int) ∈ wsL_law := kr_30 _ (List.mem_of_getElem? (i := 8) rfl)
theorem kw_30_9 : Cond.static yX11_hasBit ∈ wsL_law := kr_30 _ (List.mem_of_getElem? (i := 9) rfl)
theorem kw_31_0 : Cond.instanceMethod yX10_sortsOfDish ∈ wsL_law := kr_31 _ (List.mem_of_getElem? (i := 0) rfl)
theorem kw_31_1 : Cond.selects RX10 yX10_sortsOfDish yX10_sortsOfDish ∈ wsL_law := kr_31 _ (List.mem_of_getElem? (i := 1) rfl)
theorem kw_31_10 : Cond.code yX2_bitsOfSort cX2_bitsOfSort 2 (some .int) ∈ wsL_law := kr_31 _ (List.mem_of_getElem? (i := 10) rfl)
theorem kw_31_11 : Cond.methodLink RX6 112 yX1_oldestOn ∈ wsL_law := kr_31 _ (List.mem_of_getElem? (i := 11) rfl)
theorem kw_31_12 : Cond.instanceMethod yX1_oldestOn ∈ wsL_law := kr_31 _ (List.mem_of_getElem? (i := 12) rfl)
theorem kw_31_13 : Cond.selects RX1 yX1_oldestOn yX1_oldestOn ∈ wsL_law := kr_31 _ (List.mem_of_getElem? (i := 13) rfl)
theorem kw_31_14 : Cond.code yX1_oldestOn cX1_oldestOn 5 (some .int) ∈ wsL_law := kr_31 _ (List.mem_of_getElem? (i := 14) rfl)
theorem kw_31_15 : Cond.methodLink RX1 72 yX1_isOlderOn ∈ wsL_law := kr_31 _ (List.mem_of_getElem? (i := 15) rfl)
theorem kw_31_16 : Cond.instanceMethod yX1_isOlderOn ∈ wsL_law := kr_31 _ (List.mem_of_getElem? (i := 16) rfl)
theorem kw_31_17 : Cond.selects RX1 yX1_isOlderOn yX1_isOlderOn ∈ wsL_law := kr_31 _ (List.mem_of_getElem? (i := 17) rfl)
theorem kw_31_18 : Cond.code yX1_isOlderOn cX1_isOlderOn 8 (some .boolean) ∈ wsL_law := kr_31 _ (List.mem_of_getElem? (i := 18) rfl)
theorem kw_31_19 : Cond.methodLink RX11 214 yX6_dishOn ∈ wsL_law := kr_31 _ (List.mem_of_getElem? (i := 19) rfl)
theorem kw_31_2 : Cond.code yX10_sortsOfDish cX10_sortsOfDish 2 (some .int) ∈ wsL_law := kr_31 _ (List.mem_of_getElem? (i := 2) rfl)
theorem kw_31_20 : Cond.instanceMethod yX6_dishOn ∈ wsL_law := kr_31 _ (List.mem_of_getElem? (i := 20) rfl)
theorem kw_31_21 : Cond.selects RX6 yX6_dishOn yX6_dishOn ∈ wsL_law := kr_31 _ (List.mem_of_getElem? (i := 21) rfl)
theorem kw_31_22 : Cond.code yX6_dishOn cX6_dishOn 2 (some .int) ∈ wsL_law := kr_31 _ (List.mem_of_getElem? (i := 22) rfl)
theorem kw_31_3 : Cond.methodLink RX6 86 yX6_eatenOn ∈ wsL_law := kr_31 _ (List.mem_of_getElem? (i := 3) rfl)
theorem kw_31_4 : Cond.instanceMethod yX6_eatenOn ∈ wsL_law := kr_31 _ (List.mem_of_getElem? (i := 4) rfl)
theorem kw_31_5 : Cond.selects RX6 yX6_eatenOn yX6_eatenOn ∈ wsL_law := kr_31 _ (List.mem_of_getElem? (i := 5) rfl)
theorem kw_31_6 : Cond.code yX6_eatenOn cX6_eatenOn 8 (some .int) ∈ wsL_law := kr_31 _ (List.mem_of_getElem? (i := 6) rfl)
theorem kw_31_7 : Cond.methodLink RX6 109 yX2_bitsOfSort ∈ wsL_law := kr_31 _ (List.mem_of_getElem? (i := 7) rfl)
theorem kw_31_8 : Cond.instanceMethod yX2_bitsOfSort ∈ wsL_law := kr_31 _ (List.mem_of_getElem? (i := 8) rfl)
theorem kw_31_9 : Cond.selects RX2 yX2_bitsOfSort yX2_bitsOfSort ∈ wsL_law := kr_31 _ (List.mem_of_getElem? (i := 9) rfl)
theorem kw_32_10 : Cond.instanceMethod yX12_goToEvening ∈ wsL_law := kr_32 _ (List.mem_of_getElem? (i := 10) rfl)
theorem kw_32_11 : Cond.selects RX12 yX12_goToEvening yX12_goToEvening ∈ wsL_law := kr_32 _ (List.mem_of_getElem? (i := 11) rfl)
theorem kw_32_12 : Cond.code yX12_goToEvening cX12_goToEvening 1 none ∈ wsL_law := kr_32 _ (List.mem_of_getElem? (i := 12) rfl)
theorem kw_32_13 : Cond.methodLink RX12 229 yX12_figure ∈ wsL_law := kr_32 _ (List.mem_of_getElem? (i := 13) rfl)
theorem kw_32_14 : Cond.instanceMethod yX12_figure ∈ wsL_law := kr_32 _ (List.mem_of_getElem? (i := 14) rfl)
theorem kw_32_15 : Cond.selects RX12 yX12_figure yX12_figure ∈ wsL_law := kr_32 _ (List.mem_of_getElem? (i := 15) rfl)
theorem kw_32_16 : Cond.code yX12_figure cX12_figure 7 (some .int) ∈ wsL_law := kr_32 _ (List.mem_of_getElem? (i := 16) rfl)
theorem kw_32_17 : Cond.methodLink RX12 233 yX12_eatDish ∈ wsL_law := kr_32 _ (List.mem_of_getElem? (i := 17) rfl)
theorem kw_32_18 : Cond.instanceMethod yX12_eatDish ∈ wsL_law := kr_32 _ (List.mem_of_getElem? (i := 18) rfl)
theorem kw_32_19 : Cond.selects RX12 yX12_eatDish yX12_eatDish ∈ wsL_law := kr_32 _ (List.mem_of_getElem? (i := 19) rfl)
theorem kw_32_20 : Cond.code yX12_eatDish cX12_eatDish 4 (some .boolean) ∈ wsL_law := kr_32 _ (List.mem_of_getElem? (i := 20) rfl)
theorem kw_32_21 : Cond.methodLink RX12 223 yX12_oldestOf ∈ wsL_law := kr_32 _ (List.mem_of_getElem? (i := 21) rfl)
theorem kw_32_22 : Cond.instanceMethod yX12_oldestOf ∈ wsL_law := kr_32 _ (List.mem_of_getElem? (i := 22) rfl)
theorem kw_32_23 : Cond.selects RX12 yX12_oldestOf yX12_oldestOf ∈ wsL_law := kr_32 _ (List.mem_of_getElem? (i := 23) rfl)
theorem kw_32_3 : Cond.constantLong RX12 239 (4) ∈ wsL_law := kr_32 _ (List.mem_of_getElem? (i := 3) rfl)
theorem kw_32_4 : Cond.constantLong RX12 241 (-1) ∈ wsL_law := kr_32 _ (List.mem_of_getElem? (i := 4) rfl)
theorem kw_32_5 : Cond.methodLink RX12 243 yX12_costOf ∈ wsL_law := kr_32 _ (List.mem_of_getElem? (i := 5) rfl)
theorem kw_32_6 : Cond.instanceMethod yX12_costOf ∈ wsL_law := kr_32 _ (List.mem_of_getElem? (i := 6) rfl)
theorem kw_32_7 : Cond.selects RX12 yX12_costOf yX12_costOf ∈ wsL_law := kr_32 _ (List.mem_of_getElem? (i := 7) rfl)
theorem kw_32_8 : Cond.code yX12_costOf cX12_costOf 7 (some .int) ∈ wsL_law := kr_32 _ (List.mem_of_getElem? (i := 8) rfl)
theorem kw_32_9 : Cond.methodLink RX12 226 yX12_goToEvening ∈ wsL_law := kr_32 _ (List.mem_of_getElem? (i := 9) rfl)
theorem kw_33_0 : Cond.code yX12_oldestOf cX12_oldestOf 5 (some .int) ∈ wsL_law := kr_33 _ (List.mem_of_getElem? (i := 0) rfl)
theorem kw_33_1 : Cond.methodLink RX12 220 yX12_isOlder ∈ wsL_law := kr_33 _ (List.mem_of_getElem? (i := 1) rfl)
theorem kw_33_13 : Cond.methodLink RX11 217 yX3_bestToFreeze ∈ wsL_law := kr_33 _ (List.mem_of_getElem? (i := 13) rfl)
theorem kw_33_14 : Cond.instanceMethod yX3_bestToFreeze ∈ wsL_law := kr_33 _ (List.mem_of_getElem? (i := 14) rfl)
theorem kw_33_15 : Cond.selects RX3 yX3_bestToFreeze yX3_bestToFreeze ∈ wsL_law := kr_33 _ (List.mem_of_getElem? (i := 15) rfl)
theorem kw_33_16 : Cond.code yX3_bestToFreeze cX3_bestToFreeze 7 (some .int) ∈ wsL_law := kr_33 _ (List.mem_of_getElem? (i := 16) rfl)
theorem kw_33_17 : Cond.methodLink RX3 93 yX3_lostBehind ∈ wsL_law := kr_33 _ (List.mem_of_getElem? (i := 17) rfl)
theorem kw_33_18 : Cond.methodLink RX3 96 yX3_lostIfFrozen ∈ wsL_law := kr_33 _ (List.mem_of_getElem? (i := 18) rfl)
theorem kw_33_19 : Cond.instanceMethod yX3_lostIfFrozen ∈ wsL_law := kr_33 _ (List.mem_of_getElem? (i := 19) rfl)
theorem kw_33_2 : Cond.instanceMethod yX12_isOlder ∈ wsL_law := kr_33 _ (List.mem_of_getElem? (i := 2) rfl)
theorem kw_33_20 : Cond.selects RX3 yX3_lostIfFrozen yX3_lostIfFrozen ∈ wsL_law := kr_33 _ (List.mem_of_getElem? (i := 20) rfl)
theorem kw_33_21 : Cond.code yX3_lostIfFrozen cX3_lostIfFrozen 6 (some .int) ∈ wsL_law := kr_33 _ (List.mem_of_getElem? (i := 21) rfl)
theorem kw_33_22 : Cond.methodLink RX11 220 yX3_lostIfFrozen ∈ wsL_law := kr_33 _ (List.mem_of_getElem? (i := 22) rfl)
theorem kw_33_3 : Cond.selects RX12 yX12_isOlder yX12_isOlder ∈ wsL_law := kr_33 _ (List.mem_of_getElem? (i := 3) rfl)
theorem kw_33_4 : Cond.code yX12_isOlder cX12_isOlder 3 (some .boolean) ∈ wsL_law := kr_33 _ (List.mem_of_getElem? (i := 4) rfl)
theorem kw_33_5 : Cond.methodLink RX12 236 yX12_hungryOf ∈ wsL_law := kr_33 _ (List.mem_of_getElem? (i := 5) rfl)
theorem kw_33_6 : Cond.instanceMethod yX12_hungryOf ∈ wsL_law := kr_33 _ (List.mem_of_getElem? (i := 6) rfl)
theorem kw_33_7 : Cond.selects RX12 yX12_hungryOf yX12_hungryOf ∈ wsL_law := kr_33 _ (List.mem_of_getElem? (i := 7) rfl)
theorem kw_33_8 : Cond.code yX12_hungryOf cX12_hungryOf 4 (some .int) ∈ wsL_law := kr_33 _ (List.mem_of_getElem? (i := 8) rfl)
theorem kw_34_10 : Cond.code yX8_numberThere cX8_numberThere 1 (some .int) ∈ wsL_law := kr_34 _ (List.mem_of_getElem? (i := 10) rfl)
theorem kw_34_11 : Cond.methodLink RX8 56 yX8_bitsThere ∈ wsL_law := kr_34 _ (List.mem_of_getElem? (i := 11) rfl)
theorem kw_34_12 : Cond.methodLink RX8 60 yJ6_bitCount_0f7a4 ∈ wsL_law := kr_34 _ (List.mem_of_getElem? (i := 12) rfl)
theorem kw_34_13 : Cond.methodLink RX11 227 yX4_findBest ∈ wsL_law := kr_34 _ (List.mem_of_getElem? (i := 13) rfl)
theorem kw_34_14 : Cond.instanceMethod yX4_findBest ∈ wsL_law := kr_34 _ (List.mem_of_getElem? (i := 14) rfl)
theorem kw_34_15 : Cond.selects RX4 yX4_findBest yX4_findBest ∈ wsL_law := kr_34 _ (List.mem_of_getElem? (i := 15) rfl)
theorem kw_34_16 : Cond.code yX4_findBest cX4_findBest 4 none ∈ wsL_law := kr_34 _ (List.mem_of_getElem? (i := 16) rfl)
theorem kw_34_17 : Cond.fieldLink RX4 28 "OffFirst$Layer" "number" "I" ∈ wsL_law := kr_34 _ (List.mem_of_getElem? (i := 17) rfl)
theorem kw_34_18 : Cond.constant RX4 32 (1000000000) ∈ wsL_law := kr_34 _ (List.mem_of_getElem? (i := 18) rfl)
theorem kw_34_19 : Cond.fieldLink RX4 33 "OffFirst$Layer" "leastLost" "I" ∈ wsL_law := kr_34 _ (List.mem_of_getElem? (i := 19) rfl)
theorem kw_34_20 : Cond.methodLink RX4 51 yX0_roomOf ∈ wsL_law := kr_34 _ (List.mem_of_getElem? (i := 20) rfl)
theorem kw_34_21 : Cond.methodLink RX4 59 yX8_numberIn ∈ wsL_law := kr_34 _ (List.mem_of_getElem? (i := 21) rfl)
theorem kw_34_22 : Cond.methodLink RX4 68 yX4_lookAtFoods ∈ wsL_law := kr_34 _ (List.mem_of_getElem? (i := 22) rfl)
theorem kw_34_23 : Cond.instanceMethod yX4_lookAtFoods ∈ wsL_law := kr_34 _ (List.mem_of_getElem? (i := 23) rfl)
theorem kw_34_7 : Cond.methodLink RX11 224 yX8_numberThere ∈ wsL_law := kr_34 _ (List.mem_of_getElem? (i := 7) rfl)
theorem kw_34_8 : Cond.instanceMethod yX8_numberThere ∈ wsL_law := kr_34 _ (List.mem_of_getElem? (i := 8) rfl)
theorem kw_34_9 : Cond.selects RX8 yX8_numberThere yX8_numberThere ∈ wsL_law := kr_34 _ (List.mem_of_getElem? (i := 9) rfl)
theorem kw_35_0 : Cond.selects RX4 yX4_lookAtFoods yX4_lookAtFoods ∈ wsL_law := kr_35 _ (List.mem_of_getElem? (i := 0) rfl)
theorem kw_35_1 : Cond.code yX4_lookAtFoods cX4_lookAtFoods 8 (some .int) ∈ wsL_law := kr_35 _ (List.mem_of_getElem? (i := 1) rfl)
theorem kw_35_10 : Cond.instanceMethod yX4_settle ∈ wsL_law := kr_35 _ (List.mem_of_getElem? (i := 10) rfl)
theorem kw_35_11 : Cond.selects RX4 yX4_settle yX4_settle ∈ wsL_law := kr_35 _ (List.mem_of_getElem? (i := 11) rfl)
theorem kw_35_12 : Cond.code yX4_settle cX4_settle 3 none ∈ wsL_law := kr_35 _ (List.mem_of_getElem? (i := 12) rfl)
theorem kw_35_13 : Cond.methodLink RX11 233 yX4_cellFor ∈ wsL_law := kr_35 _ (List.mem_of_getElem? (i := 13) rfl)
theorem kw_35_14 : Cond.instanceMethod yX4_cellFor ∈ wsL_law := kr_35 _ (List.mem_of_getElem? (i := 14) rfl)
theorem kw_35_15 : Cond.selects RX4 yX4_cellFor yX4_cellFor ∈ wsL_law := kr_35 _ (List.mem_of_getElem? (i := 15) rfl)
theorem kw_35_16 : Cond.code yX4_cellFor cX4_cellFor 2 (some .int) ∈ wsL_law := kr_35 _ (List.mem_of_getElem? (i := 16) rfl)
theorem kw_35_2 : Cond.methodLink RX4 82 yX8_isThere ∈ wsL_law := kr_35 _ (List.mem_of_getElem? (i := 2) rfl)
theorem kw_35_21 : Cond.methodLink RX12 246 yX12_thereMany ∈ wsL_law := kr_35 _ (List.mem_of_getElem? (i := 21) rfl)
theorem kw_35_22 : Cond.instanceMethod yX12_thereMany ∈ wsL_law := kr_35 _ (List.mem_of_getElem? (i := 22) rfl)
theorem kw_35_23 : Cond.selects RX12 yX12_thereMany yX12_thereMany ∈ wsL_law := kr_35 _ (List.mem_of_getElem? (i := 23) rfl)
theorem kw_35_3 : Cond.methodLink RX4 86 yX8_kindOf ∈ wsL_law := kr_35 _ (List.mem_of_getElem? (i := 3) rfl)
theorem kw_35_4 : Cond.methodLink RX4 89 yX8_cellOf ∈ wsL_law := kr_35 _ (List.mem_of_getElem? (i := 4) rfl)
theorem kw_35_5 : Cond.methodLink RX4 92 yX3_coinLostAs ∈ wsL_law := kr_35 _ (List.mem_of_getElem? (i := 5) rfl)
theorem kw_35_6 : Cond.methodLink RX4 71 yX4_tryFood ∈ wsL_law := kr_35 _ (List.mem_of_getElem? (i := 6) rfl)
theorem kw_35_7 : Cond.static yX4_tryFood ∈ wsL_law := kr_35 _ (List.mem_of_getElem? (i := 7) rfl)
theorem kw_35_8 : Cond.code yX4_tryFood cX4_tryFood 5 none ∈ wsL_law := kr_35 _ (List.mem_of_getElem? (i := 8) rfl)
theorem kw_35_9 : Cond.methodLink RX4 100 yX4_settle ∈ wsL_law := kr_35 _ (List.mem_of_getElem? (i := 9) rfl)
theorem kw_36_0 : Cond.code yX12_thereMany cX12_thereMany 3 (some .int) ∈ wsL_law := kr_36 _ (List.mem_of_getElem? (i := 0) rfl)
theorem kw_36_1 : Cond.methodLink RX12 249 yX12_layAs ∈ wsL_law := kr_36 _ (List.mem_of_getElem? (i := 1) rfl)
theorem kw_36_10 : Cond.instanceMethod yX5_expectOf ∈ wsL_law := kr_36 _ (List.mem_of_getElem? (i := 10) rfl)
theorem kw_36_11 : Cond.selects RX5 yX5_expectOf yX5_expectOf ∈ wsL_law := kr_36 _ (List.mem_of_getElem? (i := 11) rfl)
theorem kw_36_12 : Cond.code yX5_expectOf cX5_expectOf 6 (some .int) ∈ wsL_law := kr_36 _ (List.mem_of_getElem? (i := 12) rfl)
theorem kw_36_13 : Cond.methodLink RX5 32 Lib.Math.min.name ∈ wsL_law := kr_36 _ (List.mem_of_getElem? (i := 13) rfl)
theorem kw_36_14 : Cond.static Lib.Math.min.name ∈ wsL_law := kr_36 _ (List.mem_of_getElem? (i := 14) rfl)
theorem kw_36_15 : Cond.initialized "java/lang/Math" ∈ wsL_law := kr_36 _ (List.mem_of_getElem? (i := 15) rfl)
theorem kw_36_16 : Cond.code Lib.Math.min.name Lib.Math.min.code 2 (some .int) ∈ wsL_law := kr_36 _ (List.mem_of_getElem? (i := 16) rfl)
theorem kw_36_17 : Cond.methodLink RX5 42 Lib.Math.max.name ∈ wsL_law := kr_36 _ (List.mem_of_getElem? (i := 17) rfl)
theorem kw_36_18 : Cond.static Lib.Math.max.name ∈ wsL_law := kr_36 _ (List.mem_of_getElem? (i := 18) rfl)
theorem kw_36_19 : Cond.code Lib.Math.max.name Lib.Math.max.code 2 (some .int) ∈ wsL_law := kr_36 _ (List.mem_of_getElem? (i := 19) rfl)
theorem kw_36_2 : Cond.instanceMethod yX12_layAs ∈ wsL_law := kr_36 _ (List.mem_of_getElem? (i := 2) rfl)
theorem kw_36_3 : Cond.selects RX12 yX12_layAs yX12_layAs ∈ wsL_law := kr_36 _ (List.mem_of_getElem? (i := 3) rfl)
theorem kw_36_4 : Cond.code yX12_layAs cX12_layAs 8 (some .boolean) ∈ wsL_law := kr_36 _ (List.mem_of_getElem? (i := 4) rfl)
theorem kw_36_9 : Cond.methodLink RX11 243 yX5_expectOf ∈ wsL_law := kr_36 _ (List.mem_of_getElem? (i := 9) rfl)
theorem kw_37_0 : Cond.constantLong RX12 252 (9) ∈ wsL_law := kr_37 _ (List.mem_of_getElem? (i := 0) rfl)
theorem kw_37_1 : Cond.methodLink RX12 254 yX12_expectOf ∈ wsL_law := kr_37 _ (List.mem_of_getElem? (i := 1) rfl)
theorem kw_37_10 : Cond.instanceMethod yX5_bestPacks ∈ wsL_law := kr_37 _ (List.mem_of_getElem? (i := 10) rfl)
theorem kw_37_11 : Cond.selects RX5 yX5_bestPacks yX5_bestPacks ∈ wsL_law := kr_37 _ (List.mem_of_getElem? (i := 11) rfl)
theorem kw_37_12 : Cond.code yX5_bestPacks cX5_bestPacks 3 (some .int) ∈ wsL_law := kr_37 _ (List.mem_of_getElem? (i := 12) rfl)
theorem kw_37_13 : Cond.methodLink RX5 45 yX5_expectOf ∈ wsL_law := kr_37 _ (List.mem_of_getElem? (i := 13) rfl)
theorem kw_37_2 : Cond.instanceMethod yX12_expectOf ∈ wsL_law := kr_37 _ (List.mem_of_getElem? (i := 2) rfl)
theorem kw_37_22 : Cond.methodLink RX11 249 yX3_errorsByPrint ∈ wsL_law := kr_37 _ (List.mem_of_getElem? (i := 22) rfl)
theorem kw_37_23 : Cond.instanceMethod yX3_errorsByPrint ∈ wsL_law := kr_37 _ (List.mem_of_getElem? (i := 23) rfl)
theorem kw_37_3 : Cond.selects RX12 yX12_expectOf yX12_expectOf ∈ wsL_law := kr_37 _ (List.mem_of_getElem? (i := 3) rfl)
theorem kw_37_4 : Cond.code yX12_expectOf cX12_expectOf 8 (some .int) ∈ wsL_law := kr_37 _ (List.mem_of_getElem? (i := 4) rfl)
theorem kw_37_9 : Cond.methodLink RX11 246 yX5_bestPacks ∈ wsL_law := kr_37 _ (List.mem_of_getElem? (i := 9) rfl)
theorem kw_38_0 : Cond.selects RX3 yX3_errorsByPrint yX3_errorsByPrint ∈ wsL_law := kr_38 _ (List.mem_of_getElem? (i := 0) rfl)
theorem kw_38_1 : Cond.code yX3_errorsByPrint cX3_errorsByPrint 6 (some .int) ∈ wsL_law := kr_38 _ (List.mem_of_getElem? (i := 1) rfl)
theorem kw_38_14 : Cond.methodLink RX11 253 yX3_errorsBySmell ∈ wsL_law := kr_38 _ (List.mem_of_getElem? (i := 14) rfl)
theorem kw_38_15 : Cond.instanceMethod yX3_errorsBySmell ∈ wsL_law := kr_38 _ (List.mem_of_getElem? (i := 15) rfl)
theorem kw_38_16 : Cond.selects RX3 yX3_errorsBySmell yX3_errorsBySmell ∈ wsL_law := kr_38 _ (List.mem_of_getElem? (i := 16) rfl)
theorem kw_38_17 : Cond.code yX3_errorsBySmell cX3_errorsBySmell 5 (some .int) ∈ wsL_law := kr_38 _ (List.mem_of_getElem? (i := 17) rfl)
theorem kw_38_2 : Cond.methodLink RX3 99 yX2_printedOf ∈ wsL_law := kr_38 _ (List.mem_of_getElem? (i := 2) rfl)
theorem kw_38_22 : Cond.constantLong RX12 257 (20) ∈ wsL_law := kr_38 _ (List.mem_of_getElem? (i := 22) rfl)
theorem kw_38_23 : Cond.methodLink RX12 259 yX12_errorsAt ∈ wsL_law := kr_38 _ (List.mem_of_getElem? (i := 23) rfl)
theorem kw_38_3 : Cond.instanceMethod yX2_printedOf ∈ wsL_law := kr_38 _ (List.mem_of_getElem? (i := 3) rfl)
theorem kw_38_4 : Cond.selects RX2 yX2_printedOf yX2_printedOf ∈ wsL_law := kr_38 _ (List.mem_of_getElem? (i := 4) rfl)
theorem kw_38_5 : Cond.code yX2_printedOf cX2_printedOf 2 (some .int) ∈ wsL_law := kr_38 _ (List.mem_of_getElem? (i := 5) rfl)
theorem kw_39_0 : Cond.instanceMethod yX12_errorsAt ∈ wsL_law := kr_39 _ (List.mem_of_getElem? (i := 0) rfl)
theorem kw_39_1 : Cond.selects RX12 yX12_errorsAt yX12_errorsAt ∈ wsL_law := kr_39 _ (List.mem_of_getElem? (i := 1) rfl)
theorem kw_39_10 : Cond.code yX3_bestLine cX3_bestLine 3 (some .int) ∈ wsL_law := kr_39 _ (List.mem_of_getElem? (i := 10) rfl)
theorem kw_39_11 : Cond.methodLink RX3 105 yX3_errorsBySmell ∈ wsL_law := kr_39 _ (List.mem_of_getElem? (i := 11) rfl)
theorem kw_39_2 : Cond.code yX12_errorsAt cX12_errorsAt 5 (some .int) ∈ wsL_law := kr_39 _ (List.mem_of_getElem? (i := 2) rfl)
theorem kw_39_20 : Cond.methodLink RX11 259 yX3_offBehindCut ∈ wsL_law := kr_39 _ (List.mem_of_getElem? (i := 20) rfl)
theorem kw_39_21 : Cond.instanceMethod yX3_offBehindCut ∈ wsL_law := kr_39 _ (List.mem_of_getElem? (i := 21) rfl)
theorem kw_39_22 : Cond.selects RX3 yX3_offBehindCut yX3_offBehindCut ∈ wsL_law := kr_39 _ (List.mem_of_getElem? (i := 22) rfl)
theorem kw_39_23 : Cond.code yX3_offBehindCut cX3_offBehindCut 7 (some .int) ∈ wsL_law := kr_39 _ (List.mem_of_getElem? (i := 23) rfl)
theorem kw_39_7 : Cond.methodLink RX11 256 yX3_bestLine ∈ wsL_law := kr_39 _ (List.mem_of_getElem? (i := 7) rfl)
theorem kw_39_8 : Cond.instanceMethod yX3_bestLine ∈ wsL_law := kr_39 _ (List.mem_of_getElem? (i := 8) rfl)
theorem kw_39_9 : Cond.selects RX3 yX3_bestLine yX3_bestLine ∈ wsL_law := kr_39 _ (List.mem_of_getElem? (i := 9) rfl)
theorem kw_3_11 : Cond.initialized RX0 ∈ wsL_law := kr_3 _ (List.mem_of_getElem? (i := 11) rfl)
theorem kw_3_12 : Cond.fieldLink RX10 12 "OffFirst$Told" "cells" "LOffFirst$Cells;" ∈ wsL_law := kr_3 _ (List.mem_of_getElem? (i := 12) rfl)
theorem kw_3_15 : Cond.initialized RX2 ∈ wsL_law := kr_3 _ (List.mem_of_getElem? (i := 15) rfl)
theorem kw_3_16 : Cond.fieldLink RX10 21 "OffFirst$Told" "foods" "LOffFirst$Foods;" ∈ wsL_law := kr_3 _ (List.mem_of_getElem? (i := 16) rfl)
theorem kw_3_17 : Cond.fieldLink RX10 25 "OffFirst$Told" "dishes" "[I" ∈ wsL_law := kr_3 _ (List.mem_of_getElem? (i := 17) rfl)
theorem kw_3_18 : Cond.fieldLink RX10 29 "OffFirst$Told" "eaters" "[I" ∈ wsL_law := kr_3 _ (List.mem_of_getElem? (i := 18) rfl)
theorem kw_3_21 : Cond.initialized RX5 ∈ wsL_law := kr_3 _ (List.mem_of_getElem? (i := 21) rfl)
theorem kw_3_22 : Cond.fieldLink RX10 35 "OffFirst$Told" "party" "LOffFirst$Party;" ∈ wsL_law := kr_3 _ (List.mem_of_getElem? (i := 22) rfl)
theorem kw_3_23 : Cond.fieldLink RX10 39 "OffFirst$Told" "slip" "I" ∈ wsL_law := kr_3 _ (List.mem_of_getElem? (i := 23) rfl)
theorem kw_3_4 : Cond.fieldLink RX9 9 "OffFirst$Text" "bytes" "[I" ∈ wsL_law := kr_3 _ (List.mem_of_getElem? (i := 4) rfl)
theorem kw_3_5 : Cond.fieldLink RX9 15 "OffFirst$Text" "numbers" "[I" ∈ wsL_law := kr_3 _ (List.mem_of_getElem? (i := 5) rfl)
theorem kw_40_0 : Cond.methodLink RX3 108 yX0_warmthOverCut ∈ wsL_law := kr_40 _ (List.mem_of_getElem? (i := 0) rfl)
theorem kw_40_1 : Cond.instanceMethod yX0_warmthOverCut ∈ wsL_law := kr_40 _ (List.mem_of_getElem? (i := 1) rfl)
theorem kw_40_12 : Cond.methodLink RX11 263 yX3_weightOfIll ∈ wsL_law := kr_40 _ (List.mem_of_getElem? (i := 12) rfl)
theorem kw_40_13 : Cond.instanceMethod yX3_weightOfIll ∈ wsL_law := kr_40 _ (List.mem_of_getElem? (i := 13) rfl)
theorem kw_40_14 : Cond.selects RX3 yX3_weightOfIll yX3_weightOfIll ∈ wsL_law := kr_40 _ (List.mem_of_getElem? (i := 14) rfl)
theorem kw_40_15 : Cond.code yX3_weightOfIll cX3_weightOfIll 5 (some .int) ∈ wsL_law := kr_40 _ (List.mem_of_getElem? (i := 15) rfl)
theorem kw_40_16 : Cond.methodLink RX3 112 yX8_hoursSinceLeft ∈ wsL_law := kr_40 _ (List.mem_of_getElem? (i := 16) rfl)
theorem kw_40_17 : Cond.instanceMethod yX8_hoursSinceLeft ∈ wsL_law := kr_40 _ (List.mem_of_getElem? (i := 17) rfl)
theorem kw_40_18 : Cond.selects RX8 yX8_hoursSinceLeft yX8_hoursSinceLeft ∈ wsL_law := kr_40 _ (List.mem_of_getElem? (i := 18) rfl)
theorem kw_40_19 : Cond.code yX8_hoursSinceLeft cX8_hoursSinceLeft 2 (some .int) ∈ wsL_law := kr_40 _ (List.mem_of_getElem? (i := 19) rfl)
theorem kw_40_2 : Cond.selects RX0 yX0_warmthOverCut yX0_warmthOverCut ∈ wsL_law := kr_40 _ (List.mem_of_getElem? (i := 2) rfl)
theorem kw_40_20 : Cond.methodLink RX3 115 yX8_fateOf ∈ wsL_law := kr_40 _ (List.mem_of_getElem? (i := 20) rfl)
theorem kw_40_21 : Cond.methodLink RX11 266 yX11_greatestDivisor ∈ wsL_law := kr_40 _ (List.mem_of_getElem? (i := 21) rfl)
theorem kw_40_22 : Cond.static yX11_greatestDivisor ∈ wsL_law := kr_40 _ (List.mem_of_getElem? (i := 22) rfl)
theorem kw_40_23 : Cond.code yX11_greatestDivisor cX11_greatestDivisor 6 (some .int) ∈ wsL_law := kr_40 _ (List.mem_of_getElem? (i := 23) rfl)
theorem kw_40_3 : Cond.code yX0_warmthOverCut cX0_warmthOverCut 5 (some .int) ∈ wsL_law := kr_40 _ (List.mem_of_getElem? (i := 3) rfl)
theorem kw_41_13 : Cond.methodLink RX11 269 yX7_add ∈ wsL_law := kr_41 _ (List.mem_of_getElem? (i := 13) rfl)
theorem kw_41_14 : Cond.instanceMethod yX7_add ∈ wsL_law := kr_41 _ (List.mem_of_getElem? (i := 14) rfl)
theorem kw_41_15 : Cond.selects RX7 yX7_add yX7_add ∈ wsL_law := kr_41 _ (List.mem_of_getElem? (i := 15) rfl)
theorem kw_41_16 : Cond.code yX7_add cX7_add 3 (some .boolean) ∈ wsL_law := kr_41 _ (List.mem_of_getElem? (i := 16) rfl)
theorem kw_41_17 : Cond.fieldLink RX7 18 "OffFirst$Spans" "number" "I" ∈ wsL_law := kr_41 _ (List.mem_of_getElem? (i := 17) rfl)
theorem kw_41_22 : Cond.constantLong RX12 267 (300) ∈ wsL_law := kr_41 _ (List.mem_of_getElem? (i := 22) rfl)
theorem kw_41_4 : Cond.methodLink RX12 264 yX12_illOf ∈ wsL_law := kr_41 _ (List.mem_of_getElem? (i := 4) rfl)
theorem kw_41_5 : Cond.instanceMethod yX12_illOf ∈ wsL_law := kr_41 _ (List.mem_of_getElem? (i := 5) rfl)
theorem kw_41_6 : Cond.selects RX12 yX12_illOf yX12_illOf ∈ wsL_law := kr_41 _ (List.mem_of_getElem? (i := 6) rfl)
theorem kw_41_7 : Cond.code yX12_illOf cX12_illOf 4 (some .int) ∈ wsL_law := kr_41 _ (List.mem_of_getElem? (i := 7) rfl)
theorem kw_41_8 : Cond.constantLong RX12 262 (72) ∈ wsL_law := kr_41 _ (List.mem_of_getElem? (i := 8) rfl)
theorem kw_42_11 : Cond.methodLink RX11 271 yX7_bestLaw ∈ wsL_law := kr_42 _ (List.mem_of_getElem? (i := 11) rfl)
theorem kw_42_12 : Cond.instanceMethod yX7_bestLaw ∈ wsL_law := kr_42 _ (List.mem_of_getElem? (i := 12) rfl)
theorem kw_42_13 : Cond.selects RX7 yX7_bestLaw yX7_bestLaw ∈ wsL_law := kr_42 _ (List.mem_of_getElem? (i := 13) rfl)
theorem kw_42_14 : Cond.code yX7_bestLaw cX7_bestLaw 3 (some .int) ∈ wsL_law := kr_42 _ (List.mem_of_getElem? (i := 14) rfl)
theorem kw_42_15 : Cond.methodLink RX7 30 yX7_fittedBy ∈ wsL_law := kr_42 _ (List.mem_of_getElem? (i := 15) rfl)
theorem kw_42_16 : Cond.instanceMethod yX7_fittedBy ∈ wsL_law := kr_42 _ (List.mem_of_getElem? (i := 16) rfl)
theorem kw_42_17 : Cond.selects RX7 yX7_fittedBy yX7_fittedBy ∈ wsL_law := kr_42 _ (List.mem_of_getElem? (i := 17) rfl)
theorem kw_42_18 : Cond.code yX7_fittedBy cX7_fittedBy 6 (some .int) ∈ wsL_law := kr_42 _ (List.mem_of_getElem? (i := 18) rfl)
theorem kw_42_19 : Cond.methodLink RX11 274 yX7_fittedBy ∈ wsL_law := kr_42 _ (List.mem_of_getElem? (i := 19) rfl)
theorem kw_43_0 : Cond.methodLink RX12 269 yX12_fitsOf ∈ wsL_law := kr_43 _ (List.mem_of_getElem? (i := 0) rfl)
theorem kw_43_1 : Cond.instanceMethod yX12_fitsOf ∈ wsL_law := kr_43 _ (List.mem_of_getElem? (i := 1) rfl)
theorem kw_43_10 : Cond.selects RX1 yX1_costOfHabit yX1_costOfHabit ∈ wsL_law := kr_43 _ (List.mem_of_getElem? (i := 10) rfl)
theorem kw_43_11 : Cond.code yX1_costOfHabit cX1_costOfHabit 8 (some .int) ∈ wsL_law := kr_43 _ (List.mem_of_getElem? (i := 11) rfl)
theorem kw_43_12 : Cond.methodLink RX1 76 yX1_lookAhead ∈ wsL_law := kr_43 _ (List.mem_of_getElem? (i := 12) rfl)
theorem kw_43_13 : Cond.methodLink RX1 80 yX8_bitsThere ∈ wsL_law := kr_43 _ (List.mem_of_getElem? (i := 13) rfl)
theorem kw_43_14 : Cond.methodLink RX1 84 yX1_isOneTaken ∈ wsL_law := kr_43 _ (List.mem_of_getElem? (i := 14) rfl)
theorem kw_43_15 : Cond.static yX1_isOneTaken ∈ wsL_law := kr_43 _ (List.mem_of_getElem? (i := 15) rfl)
theorem kw_43_16 : Cond.code yX1_isOneTaken cX1_isOneTaken 4 (some .boolean) ∈ wsL_law := kr_43 _ (List.mem_of_getElem? (i := 16) rfl)
theorem kw_43_17 : Cond.constantLong RX1 99 (7919) ∈ wsL_law := kr_43 _ (List.mem_of_getElem? (i := 17) rfl)
theorem kw_43_18 : Cond.constantLong RX1 101 (6151) ∈ wsL_law := kr_43 _ (List.mem_of_getElem? (i := 18) rfl)
theorem kw_43_19 : Cond.constantLong RX1 103 (65521) ∈ wsL_law := kr_43 _ (List.mem_of_getElem? (i := 19) rfl)
theorem kw_43_2 : Cond.selects RX12 yX12_fitsOf yX12_fitsOf ∈ wsL_law := kr_43 _ (List.mem_of_getElem? (i := 2) rfl)
theorem kw_43_20 : Cond.constantLong RX1 105 (3) ∈ wsL_law := kr_43 _ (List.mem_of_getElem? (i := 20) rfl)
theorem kw_43_21 : Cond.methodLink RX1 87 yX1_highestOf ∈ wsL_law := kr_43 _ (List.mem_of_getElem? (i := 21) rfl)
theorem kw_43_22 : Cond.static yX1_highestOf ∈ wsL_law := kr_43 _ (List.mem_of_getElem? (i := 22) rfl)
theorem kw_43_23 : Cond.code yX1_highestOf cX1_highestOf 2 (some .int) ∈ wsL_law := kr_43 _ (List.mem_of_getElem? (i := 23) rfl)
theorem kw_43_3 : Cond.code yX12_fitsOf cX12_fitsOf 6 (some .int) ∈ wsL_law := kr_43 _ (List.mem_of_getElem? (i := 3) rfl)
theorem kw_43_8 : Cond.methodLink RX11 277 yX1_costOfHabit ∈ wsL_law := kr_43 _ (List.mem_of_getElem? (i := 8) rfl)
theorem kw_43_9 : Cond.instanceMethod yX1_costOfHabit ∈ wsL_law := kr_43 _ (List.mem_of_getElem? (i := 9) rfl)
theorem kw_44_0 : Cond.methodLink RX1 90 yX1_oldestOn ∈ wsL_law := kr_44 _ (List.mem_of_getElem? (i := 0) rfl)
theorem kw_44_1 : Cond.methodLink RX1 93 yX1_offOn ∈ wsL_law := kr_44 _ (List.mem_of_getElem? (i := 1) rfl)
theorem kw_44_10 : Cond.constantLong RX12 278 (65521) ∈ wsL_law := kr_44 _ (List.mem_of_getElem? (i := 10) rfl)
theorem kw_44_11 : Cond.methodLink RX12 280 yX12_takenBy ∈ wsL_law := kr_44 _ (List.mem_of_getElem? (i := 11) rfl)
theorem kw_44_12 : Cond.instanceMethod yX12_takenBy ∈ wsL_law := kr_44 _ (List.mem_of_getElem? (i := 12) rfl)
theorem kw_44_13 : Cond.selects RX12 yX12_takenBy yX12_takenBy ∈ wsL_law := kr_44 _ (List.mem_of_getElem? (i := 13) rfl)
theorem kw_44_14 : Cond.code yX12_takenBy cX12_takenBy 4 (some .int) ∈ wsL_law := kr_44 _ (List.mem_of_getElem? (i := 14) rfl)
theorem kw_44_19 : Cond.methodLink RX11 280 yX8_copyFrom ∈ wsL_law := kr_44 _ (List.mem_of_getElem? (i := 19) rfl)
theorem kw_44_2 : Cond.methodLink RX1 96 yX2_coinOfAll ∈ wsL_law := kr_44 _ (List.mem_of_getElem? (i := 2) rfl)
theorem kw_44_20 : Cond.instanceMethod yX8_copyFrom ∈ wsL_law := kr_44 _ (List.mem_of_getElem? (i := 20) rfl)
theorem kw_44_21 : Cond.selects RX8 yX8_copyFrom yX8_copyFrom ∈ wsL_law := kr_44 _ (List.mem_of_getElem? (i := 21) rfl)
theorem kw_44_22 : Cond.code yX8_copyFrom cX8_copyFrom 3 none ∈ wsL_law := kr_44 _ (List.mem_of_getElem? (i := 22) rfl)
theorem kw_44_7 : Cond.constantLong RX12 272 (9999) ∈ wsL_law := kr_44 _ (List.mem_of_getElem? (i := 7) rfl)
theorem kw_44_8 : Cond.constantLong RX12 274 (7919) ∈ wsL_law := kr_44 _ (List.mem_of_getElem? (i := 8) rfl)
theorem kw_44_9 : Cond.constantLong RX12 276 (6151) ∈ wsL_law := kr_44 _ (List.mem_of_getElem? (i := 9) rfl)
theorem kw_4_10 : Cond.fieldLink RX2 15 "OffFirst$Foods" "cell" "[I" ∈ wsL_law := kr_4 _ (List.mem_of_getElem? (i := 10) rfl)
theorem kw_4_11 : Cond.fieldLink RX2 18 "OffFirst$Foods" "coin" "[I" ∈ wsL_law := kr_4 _ (List.mem_of_getElem? (i := 11) rfl)
theorem kw_4_12 : Cond.fieldLink RX2 21 "OffFirst$Foods" "life" "[I" ∈ wsL_law := kr_4 _ (List.mem_of_getElem? (i := 12) rfl)
theorem kw_4_13 : Cond.fieldLink RX2 24 "OffFirst$Foods" "printed" "[I" ∈ wsL_law := kr_4 _ (List.mem_of_getElem? (i := 13) rfl)
theorem kw_4_14 : Cond.fieldLink RX2 27 "OffFirst$Foods" "sort" "[I" ∈ wsL_law := kr_4 _ (List.mem_of_getElem? (i := 14) rfl)
theorem kw_4_15 : Cond.fieldLink RX2 30 "OffFirst$Foods" "ofSort" "[I" ∈ wsL_law := kr_4 _ (List.mem_of_getElem? (i := 15) rfl)
theorem kw_4_19 : Cond.fieldLink RX5 9 "OffFirst$Party" "guests" "[I" ∈ wsL_law := kr_4 _ (List.mem_of_getElem? (i := 19) rfl)
theorem kw_4_20 : Cond.fieldLink RX5 15 "OffFirst$Party" "weight" "[I" ∈ wsL_law := kr_4 _ (List.mem_of_getElem? (i := 20) rfl)
theorem kw_4_21 : Cond.fieldLink RX5 18 "OffFirst$Party" "single" "I" ∈ wsL_law := kr_4 _ (List.mem_of_getElem? (i := 21) rfl)
theorem kw_4_22 : Cond.fieldLink RX5 22 "OffFirst$Party" "pair" "I" ∈ wsL_law := kr_4 _ (List.mem_of_getElem? (i := 22) rfl)
theorem kw_4_3 : Cond.fieldLink RX0 9 "OffFirst$Cells" "warm" "[I" ∈ wsL_law := kr_4 _ (List.mem_of_getElem? (i := 3) rfl)
theorem kw_4_4 : Cond.fieldLink RX0 15 "OffFirst$Cells" "more" "[I" ∈ wsL_law := kr_4 _ (List.mem_of_getElem? (i := 4) rfl)
theorem kw_4_5 : Cond.fieldLink RX0 18 "OffFirst$Cells" "room" "[I" ∈ wsL_law := kr_4 _ (List.mem_of_getElem? (i := 5) rfl)
theorem kw_4_9 : Cond.fieldLink RX2 9 "OffFirst$Foods" "kind" "[I" ∈ wsL_law := kr_4 _ (List.mem_of_getElem? (i := 9) rfl)
theorem kw_5_11 : Cond.fieldLink RX3 9 "OffFirst$Fridge" "laid" "LOffFirst$Told;" ∈ wsL_law := kr_5 _ (List.mem_of_getElem? (i := 11) rfl)
theorem kw_5_12 : Cond.fieldLink RX3 15 "OffFirst$Fridge" "stock" "LOffFirst$Stock;" ∈ wsL_law := kr_5 _ (List.mem_of_getElem? (i := 12) rfl)
theorem kw_5_17 : Cond.fieldLink RX1 9 "OffFirst$Evenings" "ages" "[I" ∈ wsL_law := kr_5 _ (List.mem_of_getElem? (i := 17) rfl)
theorem kw_5_18 : Cond.fieldLink RX1 15 "OffFirst$Evenings" "limits" "[I" ∈ wsL_law := kr_5 _ (List.mem_of_getElem? (i := 18) rfl)
theorem kw_5_19 : Cond.fieldLink RX1 18 "OffFirst$Evenings" "offs" "[I" ∈ wsL_law := kr_5 _ (List.mem_of_getElem? (i := 19) rfl)
theorem kw_5_2 : Cond.fieldLink RX8 9 "OffFirst$Stock" "kind" "[I" ∈ wsL_law := kr_5 _ (List.mem_of_getElem? (i := 2) rfl)
theorem kw_5_20 : Cond.fieldLink RX1 21 "OffFirst$Evenings" "fridge" "LOffFirst$Fridge;" ∈ wsL_law := kr_5 _ (List.mem_of_getElem? (i := 20) rfl)
theorem kw_5_3 : Cond.fieldLink RX8 15 "OffFirst$Stock" "cell" "[I" ∈ wsL_law := kr_5 _ (List.mem_of_getElem? (i := 3) rfl)
theorem kw_5_4 : Cond.fieldLink RX8 18 "OffFirst$Stock" "age" "[I" ∈ wsL_law := kr_5 _ (List.mem_of_getElem? (i := 4) rfl)
theorem kw_5_5 : Cond.fieldLink RX8 21 "OffFirst$Stock" "fate" "[I" ∈ wsL_law := kr_5 _ (List.mem_of_getElem? (i := 5) rfl)
theorem kw_5_6 : Cond.fieldLink RX8 24 "OffFirst$Stock" "leftIn" "[I" ∈ wsL_law := kr_5 _ (List.mem_of_getElem? (i := 6) rfl)
theorem kw_6_1 : Cond.fieldLink RX6 9 "OffFirst$Planner" "row" "[I" ∈ wsL_law := kr_6 _ (List.mem_of_getElem? (i := 1) rfl)
theorem kw_6_10 : Cond.fieldLink RX4 15 "OffFirst$Layer" "free" "[I" ∈ wsL_law := kr_6 _ (List.mem_of_getElem? (i := 10) rfl)
theorem kw_6_11 : Cond.fieldLink RX4 18 "OffFirst$Layer" "way" "[I" ∈ wsL_law := kr_6 _ (List.mem_of_getElem? (i := 11) rfl)
theorem kw_6_12 : Cond.fieldLink RX4 21 "OffFirst$Layer" "best" "[I" ∈ wsL_law := kr_6 _ (List.mem_of_getElem? (i := 12) rfl)
theorem kw_6_13 : Cond.fieldLink RX4 24 "OffFirst$Layer" "fridge" "LOffFirst$Fridge;" ∈ wsL_law := kr_6 _ (List.mem_of_getElem? (i := 13) rfl)
theorem kw_6_17 : Cond.fieldLink RX7 9 "OffFirst$Spans" "warm" "[I" ∈ wsL_law := kr_6 _ (List.mem_of_getElem? (i := 17) rfl)
theorem kw_6_18 : Cond.fieldLink RX7 15 "OffFirst$Spans" "hours" "[I" ∈ wsL_law := kr_6 _ (List.mem_of_getElem? (i := 18) rfl)
theorem kw_6_2 : Cond.fieldLink RX6 15 "OffFirst$Planner" "best" "[I" ∈ wsL_law := kr_6 _ (List.mem_of_getElem? (i := 2) rfl)
theorem kw_6_20 : Cond.instanceMethod yX0_add ∈ wsL_law := kr_6 _ (List.mem_of_getElem? (i := 20) rfl)
theorem kw_6_21 : Cond.selects RX0 yX0_add yX0_add ∈ wsL_law := kr_6 _ (List.mem_of_getElem? (i := 21) rfl)
theorem kw_6_22 : Cond.code yX0_add cX0_add 4 (some .boolean) ∈ wsL_law := kr_6 _ (List.mem_of_getElem? (i := 22) rfl)
theorem kw_6_23 : Cond.fieldLink RX0 21 "OffFirst$Cells" "number" "I" ∈ wsL_law := kr_6 _ (List.mem_of_getElem? (i := 23) rfl)
theorem kw_6_3 : Cond.fieldLink RX6 18 "OffFirst$Planner" "fridge" "LOffFirst$Fridge;" ∈ wsL_law := kr_6 _ (List.mem_of_getElem? (i := 3) rfl)
theorem kw_6_4 : Cond.fieldLink RX6 22 "OffFirst$Planner" "evenings" "LOffFirst$Evenings;" ∈ wsL_law := kr_6 _ (List.mem_of_getElem? (i := 4) rfl)
theorem kw_6_9 : Cond.fieldLink RX4 9 "OffFirst$Layer" "lostIn" "[I" ∈ wsL_law := kr_6 _ (List.mem_of_getElem? (i := 9) rfl)
theorem kw_7_0 : Cond.static yX11_put ∈ wsL_law := kr_7 _ (List.mem_of_getElem? (i := 0) rfl)
theorem kw_7_1 : Cond.code yX11_put cX11_put 3 none ∈ wsL_law := kr_7 _ (List.mem_of_getElem? (i := 1) rfl)
theorem kw_7_10 : Cond.instanceMethod yX8_start ∈ wsL_law := kr_7 _ (List.mem_of_getElem? (i := 10) rfl)
theorem kw_7_11 : Cond.selects RX8 yX8_start yX8_start ∈ wsL_law := kr_7 _ (List.mem_of_getElem? (i := 11) rfl)
theorem kw_7_12 : Cond.code yX8_start cX8_start 3 none ∈ wsL_law := kr_7 _ (List.mem_of_getElem? (i := 12) rfl)
theorem kw_7_13 : Cond.fieldLink RX8 33 "OffFirst$Stock" "number" "I" ∈ wsL_law := kr_7 _ (List.mem_of_getElem? (i := 13) rfl)
theorem kw_7_14 : Cond.fieldLink RX8 34 "OffFirst$Stock" "hour" "I" ∈ wsL_law := kr_7 _ (List.mem_of_getElem? (i := 14) rfl)
theorem kw_7_15 : Cond.methodLink RX8 37 yX2_kindOf ∈ wsL_law := kr_7 _ (List.mem_of_getElem? (i := 15) rfl)
theorem kw_7_16 : Cond.instanceMethod yX2_kindOf ∈ wsL_law := kr_7 _ (List.mem_of_getElem? (i := 16) rfl)
theorem kw_7_17 : Cond.selects RX2 yX2_kindOf yX2_kindOf ∈ wsL_law := kr_7 _ (List.mem_of_getElem? (i := 17) rfl)
theorem kw_7_18 : Cond.code yX2_kindOf cX2_kindOf 2 (some .int) ∈ wsL_law := kr_7 _ (List.mem_of_getElem? (i := 18) rfl)
theorem kw_7_19 : Cond.methodLink RX8 45 yX2_cellOf ∈ wsL_law := kr_7 _ (List.mem_of_getElem? (i := 19) rfl)
theorem kw_7_20 : Cond.instanceMethod yX2_cellOf ∈ wsL_law := kr_7 _ (List.mem_of_getElem? (i := 20) rfl)
theorem kw_7_21 : Cond.selects RX2 yX2_cellOf yX2_cellOf ∈ wsL_law := kr_7 _ (List.mem_of_getElem? (i := 21) rfl)
theorem kw_7_22 : Cond.code yX2_cellOf cX2_cellOf 2 (some .int) ∈ wsL_law := kr_7 _ (List.mem_of_getElem? (i := 22) rfl)
theorem kw_7_3 : Cond.instanceMethod yX2_add ∈ wsL_law := kr_7 _ (List.mem_of_getElem? (i := 3) rfl)
theorem kw_7_4 : Cond.selects RX2 yX2_add yX2_add ∈ wsL_law := kr_7 _ (List.mem_of_getElem? (i := 4) rfl)
theorem kw_7_5 : Cond.code yX2_add cX2_add 7 (some .boolean) ∈ wsL_law := kr_7 _ (List.mem_of_getElem? (i := 5) rfl)
theorem kw_7_6 : Cond.fieldLink RX2 33 "OffFirst$Foods" "number" "I" ∈ wsL_law := kr_7 _ (List.mem_of_getElem? (i := 6) rfl)
theorem kw_7_7 : Cond.static yX11_at ∈ wsL_law := kr_7 _ (List.mem_of_getElem? (i := 7) rfl)
theorem kw_7_8 : Cond.code yX11_at cX11_at 2 (some .int) ∈ wsL_law := kr_7 _ (List.mem_of_getElem? (i := 8) rfl)
theorem kw_7_9 : Cond.methodLink RX11 99 yX8_start ∈ wsL_law := kr_7 _ (List.mem_of_getElem? (i := 9) rfl)
theorem kw_8_10 : Cond.fieldLink RX12 31 "OffFirstModel" "toldKind" "[I" ∈ wsL_law := kr_8 _ (List.mem_of_getElem? (i := 10) rfl)
theorem kw_8_11 : Cond.fieldLink RX12 34 "OffFirstModel" "toldCell" "[I" ∈ wsL_law := kr_8 _ (List.mem_of_getElem? (i := 11) rfl)
theorem kw_8_12 : Cond.fieldLink RX12 37 "OffFirstModel" "worths" "[I" ∈ wsL_law := kr_8 _ (List.mem_of_getElem? (i := 12) rfl)
theorem kw_8_13 : Cond.fieldLink RX12 40 "OffFirstModel" "lives" "[I" ∈ wsL_law := kr_8 _ (List.mem_of_getElem? (i := 13) rfl)
theorem kw_8_14 : Cond.fieldLink RX12 43 "OffFirstModel" "prints" "[I" ∈ wsL_law := kr_8 _ (List.mem_of_getElem? (i := 14) rfl)
theorem kw_8_15 : Cond.fieldLink RX12 46 "OffFirstModel" "sorts" "[I" ∈ wsL_law := kr_8 _ (List.mem_of_getElem? (i := 15) rfl)
theorem kw_8_16 : Cond.fieldLink RX12 49 "OffFirstModel" "dishMany" "[I" ∈ wsL_law := kr_8 _ (List.mem_of_getElem? (i := 16) rfl)
theorem kw_8_17 : Cond.fieldLink RX12 52 "OffFirstModel" "dishes" "[I" ∈ wsL_law := kr_8 _ (List.mem_of_getElem? (i := 17) rfl)
theorem kw_8_18 : Cond.fieldLink RX12 55 "OffFirstModel" "eaterMany" "[I" ∈ wsL_law := kr_8 _ (List.mem_of_getElem? (i := 18) rfl)
theorem kw_8_19 : Cond.fieldLink RX12 58 "OffFirstModel" "eaters" "[I" ∈ wsL_law := kr_8 _ (List.mem_of_getElem? (i := 19) rfl)
theorem kw_8_20 : Cond.fieldLink RX12 61 "OffFirstModel" "guestMany" "[I" ∈ wsL_law := kr_8 _ (List.mem_of_getElem? (i := 20) rfl)
theorem kw_8_21 : Cond.fieldLink RX12 64 "OffFirstModel" "guests" "[I" ∈ wsL_law := kr_8 _ (List.mem_of_getElem? (i := 21) rfl)
theorem kw_8_22 : Cond.fieldLink RX12 67 "OffFirstModel" "chances" "[I" ∈ wsL_law := kr_8 _ (List.mem_of_getElem? (i := 22) rfl)
theorem kw_8_23 : Cond.fieldLink RX12 70 "OffFirstModel" "prices" "[I" ∈ wsL_law := kr_8 _ (List.mem_of_getElem? (i := 23) rfl)
theorem kw_8_3 : Cond.fieldLink RX12 7 "OffFirstModel" "text" "[I" ∈ wsL_law := kr_8 _ (List.mem_of_getElem? (i := 3) rfl)
theorem kw_8_4 : Cond.fieldLink RX12 13 "OffFirstModel" "cellMany" "[I" ∈ wsL_law := kr_8 _ (List.mem_of_getElem? (i := 4) rfl)
theorem kw_8_5 : Cond.fieldLink RX12 16 "OffFirstModel" "warm" "[I" ∈ wsL_law := kr_8 _ (List.mem_of_getElem? (i := 5) rfl)
theorem kw_8_6 : Cond.fieldLink RX12 19 "OffFirstModel" "more" "[I" ∈ wsL_law := kr_8 _ (List.mem_of_getElem? (i := 6) rfl)
theorem kw_8_7 : Cond.fieldLink RX12 22 "OffFirstModel" "room" "[I" ∈ wsL_law := kr_8 _ (List.mem_of_getElem? (i := 7) rfl)
theorem kw_8_8 : Cond.fieldLink RX12 25 "OffFirstModel" "opens" "[I" ∈ wsL_law := kr_8 _ (List.mem_of_getElem? (i := 8) rfl)
theorem kw_8_9 : Cond.fieldLink RX12 28 "OffFirstModel" "foodMany" "[I" ∈ wsL_law := kr_8 _ (List.mem_of_getElem? (i := 9) rfl)
theorem kw_9_0 : Cond.fieldLink RX12 73 "OffFirstModel" "kinds" "[I" ∈ wsL_law := kr_9 _ (List.mem_of_getElem? (i := 0) rfl)
theorem kw_9_1 : Cond.fieldLink RX12 76 "OffFirstModel" "cells" "[I" ∈ wsL_law := kr_9 _ (List.mem_of_getElem? (i := 1) rfl)
theorem kw_9_10 : Cond.selects RX12 yX12_noFridge yX12_noFridge ∈ wsL_law := kr_9 _ (List.mem_of_getElem? (i := 10) rfl)
theorem kw_9_11 : Cond.code yX12_noFridge cX12_noFridge 2 none ∈ wsL_law := kr_9 _ (List.mem_of_getElem? (i := 11) rfl)
theorem kw_9_12 : Cond.methodLink RX12 101 yX12_layFridge ∈ wsL_law := kr_9 _ (List.mem_of_getElem? (i := 12) rfl)
theorem kw_9_13 : Cond.instanceMethod yX12_layFridge ∈ wsL_law := kr_9 _ (List.mem_of_getElem? (i := 13) rfl)
theorem kw_9_14 : Cond.selects RX12 yX12_layFridge yX12_layFridge ∈ wsL_law := kr_9 _ (List.mem_of_getElem? (i := 14) rfl)
theorem kw_9_15 : Cond.code yX12_layFridge cX12_layFridge 2 none ∈ wsL_law := kr_9 _ (List.mem_of_getElem? (i := 15) rfl)
theorem kw_9_16 : Cond.fieldLink RX12 157 "OffFirstModel" "keptMany" "I" ∈ wsL_law := kr_9 _ (List.mem_of_getElem? (i := 16) rfl)
theorem kw_9_17 : Cond.fieldLink RX12 160 "OffFirstModel" "spanMany" "I" ∈ wsL_law := kr_9 _ (List.mem_of_getElem? (i := 17) rfl)
theorem kw_9_2 : Cond.fieldLink RX12 79 "OffFirstModel" "ages" "[I" ∈ wsL_law := kr_9 _ (List.mem_of_getElem? (i := 2) rfl)
theorem kw_9_22 : Cond.methodLink RX11 103 yX11_isWithin ∈ wsL_law := kr_9 _ (List.mem_of_getElem? (i := 22) rfl)
theorem kw_9_23 : Cond.static yX11_isWithin ∈ wsL_law := kr_9 _ (List.mem_of_getElem? (i := 23) rfl)
theorem kw_9_3 : Cond.fieldLink RX12 82 "OffFirstModel" "states" "[I" ∈ wsL_law := kr_9 _ (List.mem_of_getElem? (i := 3) rfl)
theorem kw_9_4 : Cond.fieldLink RX12 85 "OffFirstModel" "whens" "[I" ∈ wsL_law := kr_9 _ (List.mem_of_getElem? (i := 4) rfl)
theorem kw_9_5 : Cond.fieldLink RX12 88 "OffFirstModel" "hour" "[I" ∈ wsL_law := kr_9 _ (List.mem_of_getElem? (i := 5) rfl)
theorem kw_9_6 : Cond.fieldLink RX12 91 "OffFirstModel" "spans" "[I" ∈ wsL_law := kr_9 _ (List.mem_of_getElem? (i := 6) rfl)
theorem kw_9_7 : Cond.fieldLink RX12 94 "OffFirstModel" "told" "[I" ∈ wsL_law := kr_9 _ (List.mem_of_getElem? (i := 7) rfl)
theorem kw_9_8 : Cond.methodLink RX12 97 yX12_noFridge ∈ wsL_law := kr_9 _ (List.mem_of_getElem? (i := 8) rfl)
theorem kw_9_9 : Cond.instanceMethod yX12_noFridge ∈ wsL_law := kr_9 _ (List.mem_of_getElem? (i := 9) rfl)
theorem md_J6_bitCount_0f7a4 : yJ6_bitCount_0f7a4.cls ≠ "java/lang/invoke/MethodHandle" ∧ yJ6_bitCount_0f7a4.cls ≠ "java/lang/invoke/VarHandle" ∧ (parseMethodDescriptor yJ6_bitCount_0f7a4.desc).map (fun d => d.parameters.length) = some 1 := by decide +kernel
theorem md_X0_add : yX0_add.cls ≠ "java/lang/invoke/MethodHandle" ∧ yX0_add.cls ≠ "java/lang/invoke/VarHandle" ∧ (parseMethodDescriptor yX0_add.desc).map (fun d => d.parameters.length) = some 3 := by decide +kernel
theorem md_X0_clear : yX0_clear.cls ≠ "java/lang/invoke/MethodHandle" ∧ yX0_clear.cls ≠ "java/lang/invoke/VarHandle" ∧ (parseMethodDescriptor yX0_clear.desc).map (fun d => d.parameters.length) = some 0 := by decide +kernel
theorem md_X0_has : yX0_has.cls ≠ "java/lang/invoke/MethodHandle" ∧ yX0_has.cls ≠ "java/lang/invoke/VarHandle" ∧ (parseMethodDescriptor yX0_has.desc).map (fun d => d.parameters.length) = some 1 := by decide +kernel
theorem md_X0_isOpenedIn : yX0_isOpenedIn.cls ≠ "java/lang/invoke/MethodHandle" ∧ yX0_isOpenedIn.cls ≠ "java/lang/invoke/VarHandle" ∧ (parseMethodDescriptor yX0_isOpenedIn.desc).map (fun d => d.parameters.length) = some 1 := by decide +kernel
theorem md_X0_openIn : yX0_openIn.cls ≠ "java/lang/invoke/MethodHandle" ∧ yX0_openIn.cls ≠ "java/lang/invoke/VarHandle" ∧ (parseMethodDescriptor yX0_openIn.desc).map (fun d => d.parameters.length) = some 1 := by decide +kernel
theorem md_X0_roomOf : yX0_roomOf.cls ≠ "java/lang/invoke/MethodHandle" ∧ yX0_roomOf.cls ≠ "java/lang/invoke/VarHandle" ∧ (parseMethodDescriptor yX0_roomOf.desc).map (fun d => d.parameters.length) = some 1 := by decide +kernel
theorem md_X0_warmIn : yX0_warmIn.cls ≠ "java/lang/invoke/MethodHandle" ∧ yX0_warmIn.cls ≠ "java/lang/invoke/VarHandle" ∧ (parseMethodDescriptor yX0_warmIn.desc).map (fun d => d.parameters.length) = some 2 := by decide +kernel
theorem md_X0_warmthOver : yX0_warmthOver.cls ≠ "java/lang/invoke/MethodHandle" ∧ yX0_warmthOver.cls ≠ "java/lang/invoke/VarHandle" ∧ (parseMethodDescriptor yX0_warmthOver.desc).map (fun d => d.parameters.length) = some 3 := by decide +kernel
theorem md_X0_warmthOverCut : yX0_warmthOverCut.cls ≠ "java/lang/invoke/MethodHandle" ∧ yX0_warmthOverCut.cls ≠ "java/lang/invoke/VarHandle" ∧ (parseMethodDescriptor yX0_warmthOverCut.desc).map (fun d => d.parameters.length) = some 3 := by decide +kernel
theorem md_X10_canBeLaid : yX10_canBeLaid.cls ≠ "java/lang/invoke/MethodHandle" ∧ yX10_canBeLaid.cls ≠ "java/lang/invoke/VarHandle" ∧ (parseMethodDescriptor yX10_canBeLaid.desc).map (fun d => d.parameters.length) = some 0 := by decide +kernel
theorem md_X10_clear : yX10_clear.cls ≠ "java/lang/invoke/MethodHandle" ∧ yX10_clear.cls ≠ "java/lang/invoke/VarHandle" ∧ (parseMethodDescriptor yX10_clear.desc).map (fun d => d.parameters.length) = some 0 := by decide +kernel
theorem md_X10_hungryWith : yX10_hungryWith.cls ≠ "java/lang/invoke/MethodHandle" ∧ yX10_hungryWith.cls ≠ "java/lang/invoke/VarHandle" ∧ (parseMethodDescriptor yX10_hungryWith.desc).map (fun d => d.parameters.length) = some 1 := by decide +kernel
theorem md_X10_read : yX10_read.cls ≠ "java/lang/invoke/MethodHandle" ∧ yX10_read.cls ≠ "java/lang/invoke/VarHandle" ∧ (parseMethodDescriptor yX10_read.desc).map (fun d => d.parameters.length) = some 1 := by decide +kernel
theorem md_X10_sortsOfDish : yX10_sortsOfDish.cls ≠ "java/lang/invoke/MethodHandle" ∧ yX10_sortsOfDish.cls ≠ "java/lang/invoke/VarHandle" ∧ (parseMethodDescriptor yX10_sortsOfDish.desc).map (fun d => d.parameters.length) = some 1 := by decide +kernel
theorem md_X10_takeCell : yX10_takeCell.cls ≠ "java/lang/invoke/MethodHandle" ∧ yX10_takeCell.cls ≠ "java/lang/invoke/VarHandle" ∧ (parseMethodDescriptor yX10_takeCell.desc).map (fun d => d.parameters.length) = some 1 := by decide +kernel
theorem md_X10_takeDish : yX10_takeDish.cls ≠ "java/lang/invoke/MethodHandle" ∧ yX10_takeDish.cls ≠ "java/lang/invoke/VarHandle" ∧ (parseMethodDescriptor yX10_takeDish.desc).map (fun d => d.parameters.length) = some 1 := by decide +kernel
theorem md_X10_takeEater : yX10_takeEater.cls ≠ "java/lang/invoke/MethodHandle" ∧ yX10_takeEater.cls ≠ "java/lang/invoke/VarHandle" ∧ (parseMethodDescriptor yX10_takeEater.desc).map (fun d => d.parameters.length) = some 1 := by decide +kernel
theorem md_X10_takeFood : yX10_takeFood.cls ≠ "java/lang/invoke/MethodHandle" ∧ yX10_takeFood.cls ≠ "java/lang/invoke/VarHandle" ∧ (parseMethodDescriptor yX10_takeFood.desc).map (fun d => d.parameters.length) = some 1 := by decide +kernel
theorem md_X10_takeGuests : yX10_takeGuests.cls ≠ "java/lang/invoke/MethodHandle" ∧ yX10_takeGuests.cls ≠ "java/lang/invoke/VarHandle" ∧ (parseMethodDescriptor yX10_takeGuests.desc).map (fun d => d.parameters.length) = some 1 := by decide +kernel
theorem md_X10_takeItem : yX10_takeItem.cls ≠ "java/lang/invoke/MethodHandle" ∧ yX10_takeItem.cls ≠ "java/lang/invoke/VarHandle" ∧ (parseMethodDescriptor yX10_takeItem.desc).map (fun d => d.parameters.length) = some 1 := by decide +kernel
theorem md_X10_takeOpenedHour : yX10_takeOpenedHour.cls ≠ "java/lang/invoke/MethodHandle" ∧ yX10_takeOpenedHour.cls ≠ "java/lang/invoke/VarHandle" ∧ (parseMethodDescriptor yX10_takeOpenedHour.desc).map (fun d => d.parameters.length) = some 1 := by decide +kernel
theorem md_X10_takePacks : yX10_takePacks.cls ≠ "java/lang/invoke/MethodHandle" ∧ yX10_takePacks.cls ≠ "java/lang/invoke/VarHandle" ∧ (parseMethodDescriptor yX10_takePacks.desc).map (fun d => d.parameters.length) = some 1 := by decide +kernel
theorem md_X10_takeSlip : yX10_takeSlip.cls ≠ "java/lang/invoke/MethodHandle" ∧ yX10_takeSlip.cls ≠ "java/lang/invoke/VarHandle" ∧ (parseMethodDescriptor yX10_takeSlip.desc).map (fun d => d.parameters.length) = some 1 := by decide +kernel
theorem md_X11_ageing : yX11_ageing.cls ≠ "java/lang/invoke/MethodHandle" ∧ yX11_ageing.cls ≠ "java/lang/invoke/VarHandle" ∧ (parseMethodDescriptor yX11_ageing.desc).map (fun d => d.parameters.length) = some 3 := by decide +kernel
theorem md_X11_at : yX11_at.cls ≠ "java/lang/invoke/MethodHandle" ∧ yX11_at.cls ≠ "java/lang/invoke/VarHandle" ∧ (parseMethodDescriptor yX11_at.desc).map (fun d => d.parameters.length) = some 2 := by decide +kernel
theorem md_X11_back : yX11_back.cls ≠ "java/lang/invoke/MethodHandle" ∧ yX11_back.cls ≠ "java/lang/invoke/VarHandle" ∧ (parseMethodDescriptor yX11_back.desc).map (fun d => d.parameters.length) = some 0 := by decide +kernel
theorem md_X11_buy : yX11_buy.cls ≠ "java/lang/invoke/MethodHandle" ∧ yX11_buy.cls ≠ "java/lang/invoke/VarHandle" ∧ (parseMethodDescriptor yX11_buy.desc).map (fun d => d.parameters.length) = some 0 := by decide +kernel
theorem md_X11_canBecome : yX11_canBecome.cls ≠ "java/lang/invoke/MethodHandle" ∧ yX11_canBecome.cls ≠ "java/lang/invoke/VarHandle" ∧ (parseMethodDescriptor yX11_canBecome.desc).map (fun d => d.parameters.length) = some 2 := by decide +kernel
theorem md_X11_count : yX11_count.cls ≠ "java/lang/invoke/MethodHandle" ∧ yX11_count.cls ≠ "java/lang/invoke/VarHandle" ∧ (parseMethodDescriptor yX11_count.desc).map (fun d => d.parameters.length) = some 1 := by decide +kernel
theorem md_X11_cut : yX11_cut.cls ≠ "java/lang/invoke/MethodHandle" ∧ yX11_cut.cls ≠ "java/lang/invoke/VarHandle" ∧ (parseMethodDescriptor yX11_cut.desc).map (fun d => d.parameters.length) = some 2 := by decide +kernel
theorem md_X11_eat : yX11_eat.cls ≠ "java/lang/invoke/MethodHandle" ∧ yX11_eat.cls ≠ "java/lang/invoke/VarHandle" ∧ (parseMethodDescriptor yX11_eat.desc).map (fun d => d.parameters.length) = some 1 := by decide +kernel
theorem md_X11_expect : yX11_expect.cls ≠ "java/lang/invoke/MethodHandle" ∧ yX11_expect.cls ≠ "java/lang/invoke/VarHandle" ∧ (parseMethodDescriptor yX11_expect.desc).map (fun d => d.parameters.length) = some 1 := by decide +kernel
theorem md_X11_fault : yX11_fault.cls ≠ "java/lang/invoke/MethodHandle" ∧ yX11_fault.cls ≠ "java/lang/invoke/VarHandle" ∧ (parseMethodDescriptor yX11_fault.desc).map (fun d => d.parameters.length) = some 0 := by decide +kernel
theorem md_X11_food : yX11_food.cls ≠ "java/lang/invoke/MethodHandle" ∧ yX11_food.cls ≠ "java/lang/invoke/VarHandle" ∧ (parseMethodDescriptor yX11_food.desc).map (fun d => d.parameters.length) = some 2 := by decide +kernel
theorem md_X11_freeze : yX11_freeze.cls ≠ "java/lang/invoke/MethodHandle" ∧ yX11_freeze.cls ≠ "java/lang/invoke/VarHandle" ∧ (parseMethodDescriptor yX11_freeze.desc).map (fun d => d.parameters.length) = some 2 := by decide +kernel
theorem md_X11_greatestDivisor : yX11_greatestDivisor.cls ≠ "java/lang/invoke/MethodHandle" ∧ yX11_greatestDivisor.cls ≠ "java/lang/invoke/VarHandle" ∧ (parseMethodDescriptor yX11_greatestDivisor.desc).map (fun d => d.parameters.length) = some 2 := by decide +kernel
theorem md_X11_habit : yX11_habit.cls ≠ "java/lang/invoke/MethodHandle" ∧ yX11_habit.cls ≠ "java/lang/invoke/VarHandle" ∧ (parseMethodDescriptor yX11_habit.desc).map (fun d => d.parameters.length) = some 3 := by decide +kernel
theorem md_X11_hasBit : yX11_hasBit.cls ≠ "java/lang/invoke/MethodHandle" ∧ yX11_hasBit.cls ≠ "java/lang/invoke/VarHandle" ∧ (parseMethodDescriptor yX11_hasBit.desc).map (fun d => d.parameters.length) = some 2 := by decide +kernel
theorem md_X11_hours : yX11_hours.cls ≠ "java/lang/invoke/MethodHandle" ∧ yX11_hours.cls ≠ "java/lang/invoke/VarHandle" ∧ (parseMethodDescriptor yX11_hours.desc).map (fun d => d.parameters.length) = some 1 := by decide +kernel
theorem md_X11_ill : yX11_ill.cls ≠ "java/lang/invoke/MethodHandle" ∧ yX11_ill.cls ≠ "java/lang/invoke/VarHandle" ∧ (parseMethodDescriptor yX11_ill.desc).map (fun d => d.parameters.length) = some 2 := by decide +kernel
theorem md_X11_isWithin : yX11_isWithin.cls ≠ "java/lang/invoke/MethodHandle" ∧ yX11_isWithin.cls ≠ "java/lang/invoke/VarHandle" ∧ (parseMethodDescriptor yX11_isWithin.desc).map (fun d => d.parameters.length) = some 3 := by decide +kernel
theorem md_X11_keep : yX11_keep.cls ≠ "java/lang/invoke/MethodHandle" ∧ yX11_keep.cls ≠ "java/lang/invoke/VarHandle" ∧ (parseMethodDescriptor yX11_keep.desc).map (fun d => d.parameters.length) = some 0 := by decide +kernel
theorem md_X11_law : yX11_law.cls ≠ "java/lang/invoke/MethodHandle" ∧ yX11_law.cls ≠ "java/lang/invoke/VarHandle" ∧ (parseMethodDescriptor yX11_law.desc).map (fun d => d.parameters.length) = some 1 := by decide +kernel
theorem md_X11_lay : yX11_lay.cls ≠ "java/lang/invoke/MethodHandle" ∧ yX11_lay.cls ≠ "java/lang/invoke/VarHandle" ∧ (parseMethodDescriptor yX11_lay.desc).map (fun d => d.parameters.length) = some 0 := by decide +kernel
theorem md_X11_lie : yX11_lie.cls ≠ "java/lang/invoke/MethodHandle" ∧ yX11_lie.cls ≠ "java/lang/invoke/VarHandle" ∧ (parseMethodDescriptor yX11_lie.desc).map (fun d => d.parameters.length) = some 3 := by decide +kernel
theorem md_X11_line : yX11_line.cls ≠ "java/lang/invoke/MethodHandle" ∧ yX11_line.cls ≠ "java/lang/invoke/VarHandle" ∧ (parseMethodDescriptor yX11_line.desc).map (fun d => d.parameters.length) = some 0 := by decide +kernel
theorem md_X11_lost : yX11_lost.cls ≠ "java/lang/invoke/MethodHandle" ∧ yX11_lost.cls ≠ "java/lang/invoke/VarHandle" ∧ (parseMethodDescriptor yX11_lost.desc).map (fun d => d.parameters.length) = some 1 := by decide +kernel
theorem md_X11_make : yX11_make.cls ≠ "java/lang/invoke/MethodHandle" ∧ yX11_make.cls ≠ "java/lang/invoke/VarHandle" ∧ (parseMethodDescriptor yX11_make.desc).map (fun d => d.parameters.length) = some 2 := by decide +kernel
theorem md_X11_move : yX11_move.cls ≠ "java/lang/invoke/MethodHandle" ∧ yX11_move.cls ≠ "java/lang/invoke/VarHandle" ∧ (parseMethodDescriptor yX11_move.desc).map (fun d => d.parameters.length) = some 2 := by decide +kernel
theorem md_X11_noSpans : yX11_noSpans.cls ≠ "java/lang/invoke/MethodHandle" ∧ yX11_noSpans.cls ≠ "java/lang/invoke/VarHandle" ∧ (parseMethodDescriptor yX11_noSpans.desc).map (fun d => d.parameters.length) = some 0 := by decide +kernel
theorem md_X11_offIn : yX11_offIn.cls ≠ "java/lang/invoke/MethodHandle" ∧ yX11_offIn.cls ≠ "java/lang/invoke/VarHandle" ∧ (parseMethodDescriptor yX11_offIn.desc).map (fun d => d.parameters.length) = some 2 := by decide +kernel
theorem md_X11_plan : yX11_plan.cls ≠ "java/lang/invoke/MethodHandle" ∧ yX11_plan.cls ≠ "java/lang/invoke/VarHandle" ∧ (parseMethodDescriptor yX11_plan.desc).map (fun d => d.parameters.length) = some 2 := by decide +kernel
theorem md_X11_print : yX11_print.cls ≠ "java/lang/invoke/MethodHandle" ∧ yX11_print.cls ≠ "java/lang/invoke/VarHandle" ∧ (parseMethodDescriptor yX11_print.desc).map (fun d => d.parameters.length) = some 1 := by decide +kernel
theorem md_X11_put : yX11_put.cls ≠ "java/lang/invoke/MethodHandle" ∧ yX11_put.cls ≠ "java/lang/invoke/VarHandle" ∧ (parseMethodDescriptor yX11_put.desc).map (fun d => d.parameters.length) = some 3 := by decide +kernel
theorem md_X11_smell : yX11_smell.cls ≠ "java/lang/invoke/MethodHandle" ∧ yX11_smell.cls ≠ "java/lang/invoke/VarHandle" ∧ (parseMethodDescriptor yX11_smell.desc).map (fun d => d.parameters.length) = some 1 := by decide +kernel
theorem md_X11_span : yX11_span.cls ≠ "java/lang/invoke/MethodHandle" ∧ yX11_span.cls ≠ "java/lang/invoke/VarHandle" ∧ (parseMethodDescriptor yX11_span.desc).map (fun d => d.parameters.length) = some 2 := by decide +kernel
theorem md_X11_takeAway : yX11_takeAway.cls ≠ "java/lang/invoke/MethodHandle" ∧ yX11_takeAway.cls ≠ "java/lang/invoke/VarHandle" ∧ (parseMethodDescriptor yX11_takeAway.desc).map (fun d => d.parameters.length) = some 2 := by decide +kernel
theorem md_X11_throwOut : yX11_throwOut.cls ≠ "java/lang/invoke/MethodHandle" ∧ yX11_throwOut.cls ≠ "java/lang/invoke/VarHandle" ∧ (parseMethodDescriptor yX11_throwOut.desc).map (fun d => d.parameters.length) = some 1 := by decide +kernel
theorem md_X11_warmth : yX11_warmth.cls ≠ "java/lang/invoke/MethodHandle" ∧ yX11_warmth.cls ≠ "java/lang/invoke/VarHandle" ∧ (parseMethodDescriptor yX11_warmth.desc).map (fun d => d.parameters.length) = some 2 := by decide +kernel
theorem md_X11_wipe : yX11_wipe.cls ≠ "java/lang/invoke/MethodHandle" ∧ yX11_wipe.cls ≠ "java/lang/invoke/VarHandle" ∧ (parseMethodDescriptor yX11_wipe.desc).map (fun d => d.parameters.length) = some 0 := by decide +kernel
theorem md_X11_write : yX11_write.cls ≠ "java/lang/invoke/MethodHandle" ∧ yX11_write.cls ≠ "java/lang/invoke/VarHandle" ∧ (parseMethodDescriptor yX11_write.desc).map (fun d => d.parameters.length) = some 2 := by decide +kernel
theorem md_X12_agesBy : yX12_agesBy.cls ≠ "java/lang/invoke/MethodHandle" ∧ yX12_agesBy.cls ≠ "java/lang/invoke/VarHandle" ∧ (parseMethodDescriptor yX12_agesBy.desc).map (fun d => d.parameters.length) = some 2 := by decide +kernel
theorem md_X12_back : yX12_back.cls ≠ "java/lang/invoke/MethodHandle" ∧ yX12_back.cls ≠ "java/lang/invoke/VarHandle" ∧ (parseMethodDescriptor yX12_back.desc).map (fun d => d.parameters.length) = some 0 := by decide +kernel
theorem md_X12_buy : yX12_buy.cls ≠ "java/lang/invoke/MethodHandle" ∧ yX12_buy.cls ≠ "java/lang/invoke/VarHandle" ∧ (parseMethodDescriptor yX12_buy.desc).map (fun d => d.parameters.length) = some 0 := by decide +kernel
theorem md_X12_byteAt : yX12_byteAt.cls ≠ "java/lang/invoke/MethodHandle" ∧ yX12_byteAt.cls ≠ "java/lang/invoke/VarHandle" ∧ (parseMethodDescriptor yX12_byteAt.desc).map (fun d => d.parameters.length) = some 1 := by decide +kernel
theorem md_X12_cellItem : yX12_cellItem.cls ≠ "java/lang/invoke/MethodHandle" ∧ yX12_cellItem.cls ≠ "java/lang/invoke/VarHandle" ∧ (parseMethodDescriptor yX12_cellItem.desc).map (fun d => d.parameters.length) = some 0 := by decide +kernel
theorem md_X12_copy : yX12_copy.cls ≠ "java/lang/invoke/MethodHandle" ∧ yX12_copy.cls ≠ "java/lang/invoke/VarHandle" ∧ (parseMethodDescriptor yX12_copy.desc).map (fun d => d.parameters.length) = some 2 := by decide +kernel
theorem md_X12_costOf : yX12_costOf.cls ≠ "java/lang/invoke/MethodHandle" ∧ yX12_costOf.cls ≠ "java/lang/invoke/VarHandle" ∧ (parseMethodDescriptor yX12_costOf.desc).map (fun d => d.parameters.length) = some 2 := by decide +kernel
theorem md_X12_count : yX12_count.cls ≠ "java/lang/invoke/MethodHandle" ∧ yX12_count.cls ≠ "java/lang/invoke/VarHandle" ∧ (parseMethodDescriptor yX12_count.desc).map (fun d => d.parameters.length) = some 1 := by decide +kernel
theorem md_X12_cut : yX12_cut.cls ≠ "java/lang/invoke/MethodHandle" ∧ yX12_cut.cls ≠ "java/lang/invoke/VarHandle" ∧ (parseMethodDescriptor yX12_cut.desc).map (fun d => d.parameters.length) = some 2 := by decide +kernel
theorem md_X12_eat : yX12_eat.cls ≠ "java/lang/invoke/MethodHandle" ∧ yX12_eat.cls ≠ "java/lang/invoke/VarHandle" ∧ (parseMethodDescriptor yX12_eat.desc).map (fun d => d.parameters.length) = some 1 := by decide +kernel
theorem md_X12_eatDish : yX12_eatDish.cls ≠ "java/lang/invoke/MethodHandle" ∧ yX12_eatDish.cls ≠ "java/lang/invoke/VarHandle" ∧ (parseMethodDescriptor yX12_eatDish.desc).map (fun d => d.parameters.length) = some 1 := by decide +kernel
theorem md_X12_errorsAt : yX12_errorsAt.cls ≠ "java/lang/invoke/MethodHandle" ∧ yX12_errorsAt.cls ≠ "java/lang/invoke/VarHandle" ∧ (parseMethodDescriptor yX12_errorsAt.desc).map (fun d => d.parameters.length) = some 1 := by decide +kernel
theorem md_X12_expect : yX12_expect.cls ≠ "java/lang/invoke/MethodHandle" ∧ yX12_expect.cls ≠ "java/lang/invoke/VarHandle" ∧ (parseMethodDescriptor yX12_expect.desc).map (fun d => d.parameters.length) = some 1 := by decide +kernel
theorem md_X12_expectOf : yX12_expectOf.cls ≠ "java/lang/invoke/MethodHandle" ∧ yX12_expectOf.cls ≠ "java/lang/invoke/VarHandle" ∧ (parseMethodDescriptor yX12_expectOf.desc).map (fun d => d.parameters.length) = some 1 := by decide +kernel
theorem md_X12_fault : yX12_fault.cls ≠ "java/lang/invoke/MethodHandle" ∧ yX12_fault.cls ≠ "java/lang/invoke/VarHandle" ∧ (parseMethodDescriptor yX12_fault.desc).map (fun d => d.parameters.length) = some 0 := by decide +kernel
theorem md_X12_figure : yX12_figure.cls ≠ "java/lang/invoke/MethodHandle" ∧ yX12_figure.cls ≠ "java/lang/invoke/VarHandle" ∧ (parseMethodDescriptor yX12_figure.desc).map (fun d => d.parameters.length) = some 4 := by decide +kernel
theorem md_X12_figures : yX12_figures.cls ≠ "java/lang/invoke/MethodHandle" ∧ yX12_figures.cls ≠ "java/lang/invoke/VarHandle" ∧ (parseMethodDescriptor yX12_figures.desc).map (fun d => d.parameters.length) = some 1 := by decide +kernel
theorem md_X12_fitsOf : yX12_fitsOf.cls ≠ "java/lang/invoke/MethodHandle" ∧ yX12_fitsOf.cls ≠ "java/lang/invoke/VarHandle" ∧ (parseMethodDescriptor yX12_fitsOf.desc).map (fun d => d.parameters.length) = some 1 := by decide +kernel
theorem md_X12_food : yX12_food.cls ≠ "java/lang/invoke/MethodHandle" ∧ yX12_food.cls ≠ "java/lang/invoke/VarHandle" ∧ (parseMethodDescriptor yX12_food.desc).map (fun d => d.parameters.length) = some 2 := by decide +kernel
theorem md_X12_foodItem : yX12_foodItem.cls ≠ "java/lang/invoke/MethodHandle" ∧ yX12_foodItem.cls ≠ "java/lang/invoke/VarHandle" ∧ (parseMethodDescriptor yX12_foodItem.desc).map (fun d => d.parameters.length) = some 0 := by decide +kernel
theorem md_X12_freeze : yX12_freeze.cls ≠ "java/lang/invoke/MethodHandle" ∧ yX12_freeze.cls ≠ "java/lang/invoke/VarHandle" ∧ (parseMethodDescriptor yX12_freeze.desc).map (fun d => d.parameters.length) = some 2 := by decide +kernel
theorem md_X12_goHour : yX12_goHour.cls ≠ "java/lang/invoke/MethodHandle" ∧ yX12_goHour.cls ≠ "java/lang/invoke/VarHandle" ∧ (parseMethodDescriptor yX12_goHour.desc).map (fun d => d.parameters.length) = some 1 := by decide +kernel
theorem md_X12_goToEvening : yX12_goToEvening.cls ≠ "java/lang/invoke/MethodHandle" ∧ yX12_goToEvening.cls ≠ "java/lang/invoke/VarHandle" ∧ (parseMethodDescriptor yX12_goToEvening.desc).map (fun d => d.parameters.length) = some 0 := by decide +kernel
theorem md_X12_habit : yX12_habit.cls ≠ "java/lang/invoke/MethodHandle" ∧ yX12_habit.cls ≠ "java/lang/invoke/VarHandle" ∧ (parseMethodDescriptor yX12_habit.desc).map (fun d => d.parameters.length) = some 3 := by decide +kernel
theorem md_X12_has : yX12_has.cls ≠ "java/lang/invoke/MethodHandle" ∧ yX12_has.cls ≠ "java/lang/invoke/VarHandle" ∧ (parseMethodDescriptor yX12_has.desc).map (fun d => d.parameters.length) = some 2 := by decide +kernel
theorem md_X12_hours : yX12_hours.cls ≠ "java/lang/invoke/MethodHandle" ∧ yX12_hours.cls ≠ "java/lang/invoke/VarHandle" ∧ (parseMethodDescriptor yX12_hours.desc).map (fun d => d.parameters.length) = some 1 := by decide +kernel
theorem md_X12_hungryOf : yX12_hungryOf.cls ≠ "java/lang/invoke/MethodHandle" ∧ yX12_hungryOf.cls ≠ "java/lang/invoke/VarHandle" ∧ (parseMethodDescriptor yX12_hungryOf.desc).map (fun d => d.parameters.length) = some 1 := by decide +kernel
theorem md_X12_ill : yX12_ill.cls ≠ "java/lang/invoke/MethodHandle" ∧ yX12_ill.cls ≠ "java/lang/invoke/VarHandle" ∧ (parseMethodDescriptor yX12_ill.desc).map (fun d => d.parameters.length) = some 2 := by decide +kernel
theorem md_X12_illOf : yX12_illOf.cls ≠ "java/lang/invoke/MethodHandle" ∧ yX12_illOf.cls ≠ "java/lang/invoke/VarHandle" ∧ (parseMethodDescriptor yX12_illOf.desc).map (fun d => d.parameters.length) = some 1 := by decide +kernel
theorem md_X12_in : yX12_in.cls ≠ "java/lang/invoke/MethodHandle" ∧ yX12_in.cls ≠ "java/lang/invoke/VarHandle" ∧ (parseMethodDescriptor yX12_in.desc).map (fun d => d.parameters.length) = some 3 := by decide +kernel
theorem md_X12_inCell : yX12_inCell.cls ≠ "java/lang/invoke/MethodHandle" ∧ yX12_inCell.cls ≠ "java/lang/invoke/VarHandle" ∧ (parseMethodDescriptor yX12_inCell.desc).map (fun d => d.parameters.length) = some 1 := by decide +kernel
theorem md_X12_isCell : yX12_isCell.cls ≠ "java/lang/invoke/MethodHandle" ∧ yX12_isCell.cls ≠ "java/lang/invoke/VarHandle" ∧ (parseMethodDescriptor yX12_isCell.desc).map (fun d => d.parameters.length) = some 1 := by decide +kernel
theorem md_X12_isFood : yX12_isFood.cls ≠ "java/lang/invoke/MethodHandle" ∧ yX12_isFood.cls ≠ "java/lang/invoke/VarHandle" ∧ (parseMethodDescriptor yX12_isFood.desc).map (fun d => d.parameters.length) = some 1 := by decide +kernel
theorem md_X12_isLater : yX12_isLater.cls ≠ "java/lang/invoke/MethodHandle" ∧ yX12_isLater.cls ≠ "java/lang/invoke/VarHandle" ∧ (parseMethodDescriptor yX12_isLater.desc).map (fun d => d.parameters.length) = some 1 := by decide +kernel
theorem md_X12_isOff : yX12_isOff.cls ≠ "java/lang/invoke/MethodHandle" ∧ yX12_isOff.cls ≠ "java/lang/invoke/VarHandle" ∧ (parseMethodDescriptor yX12_isOff.desc).map (fun d => d.parameters.length) = some 1 := by decide +kernel
theorem md_X12_isOlder : yX12_isOlder.cls ≠ "java/lang/invoke/MethodHandle" ∧ yX12_isOlder.cls ≠ "java/lang/invoke/VarHandle" ∧ (parseMethodDescriptor yX12_isOlder.desc).map (fun d => d.parameters.length) = some 2 := by decide +kernel
theorem md_X12_isRoomy : yX12_isRoomy.cls ≠ "java/lang/invoke/MethodHandle" ∧ yX12_isRoomy.cls ≠ "java/lang/invoke/VarHandle" ∧ (parseMethodDescriptor yX12_isRoomy.desc).map (fun d => d.parameters.length) = some 0 := by decide +kernel
theorem md_X12_item : yX12_item.cls ≠ "java/lang/invoke/MethodHandle" ∧ yX12_item.cls ≠ "java/lang/invoke/VarHandle" ∧ (parseMethodDescriptor yX12_item.desc).map (fun d => d.parameters.length) = some 0 := by decide +kernel
theorem md_X12_keep : yX12_keep.cls ≠ "java/lang/invoke/MethodHandle" ∧ yX12_keep.cls ≠ "java/lang/invoke/VarHandle" ∧ (parseMethodDescriptor yX12_keep.desc).map (fun d => d.parameters.length) = some 0 := by decide +kernel
theorem md_X12_law : yX12_law.cls ≠ "java/lang/invoke/MethodHandle" ∧ yX12_law.cls ≠ "java/lang/invoke/VarHandle" ∧ (parseMethodDescriptor yX12_law.desc).map (fun d => d.parameters.length) = some 1 := by decide +kernel
theorem md_X12_lay : yX12_lay.cls ≠ "java/lang/invoke/MethodHandle" ∧ yX12_lay.cls ≠ "java/lang/invoke/VarHandle" ∧ (parseMethodDescriptor yX12_lay.desc).map (fun d => d.parameters.length) = some 0 := by decide +kernel
theorem md_X12_layAs : yX12_layAs.cls ≠ "java/lang/invoke/MethodHandle" ∧ yX12_layAs.cls ≠ "java/lang/invoke/VarHandle" ∧ (parseMethodDescriptor yX12_layAs.desc).map (fun d => d.parameters.length) = some 2 := by decide +kernel
theorem md_X12_layFridge : yX12_layFridge.cls ≠ "java/lang/invoke/MethodHandle" ∧ yX12_layFridge.cls ≠ "java/lang/invoke/VarHandle" ∧ (parseMethodDescriptor yX12_layFridge.desc).map (fun d => d.parameters.length) = some 0 := by decide +kernel
theorem md_X12_lie : yX12_lie.cls ≠ "java/lang/invoke/MethodHandle" ∧ yX12_lie.cls ≠ "java/lang/invoke/VarHandle" ∧ (parseMethodDescriptor yX12_lie.desc).map (fun d => d.parameters.length) = some 3 := by decide +kernel
theorem md_X12_limitOf : yX12_limitOf.cls ≠ "java/lang/invoke/MethodHandle" ∧ yX12_limitOf.cls ≠ "java/lang/invoke/VarHandle" ∧ (parseMethodDescriptor yX12_limitOf.desc).map (fun d => d.parameters.length) = some 1 := by decide +kernel
theorem md_X12_line : yX12_line.cls ≠ "java/lang/invoke/MethodHandle" ∧ yX12_line.cls ≠ "java/lang/invoke/VarHandle" ∧ (parseMethodDescriptor yX12_line.desc).map (fun d => d.parameters.length) = some 0 := by decide +kernel
theorem md_X12_lost : yX12_lost.cls ≠ "java/lang/invoke/MethodHandle" ∧ yX12_lost.cls ≠ "java/lang/invoke/VarHandle" ∧ (parseMethodDescriptor yX12_lost.desc).map (fun d => d.parameters.length) = some 1 := by decide +kernel
theorem md_X12_lostOf : yX12_lostOf.cls ≠ "java/lang/invoke/MethodHandle" ∧ yX12_lostOf.cls ≠ "java/lang/invoke/VarHandle" ∧ (parseMethodDescriptor yX12_lostOf.desc).map (fun d => d.parameters.length) = some 1 := by decide +kernel
theorem md_X12_make : yX12_make.cls ≠ "java/lang/invoke/MethodHandle" ∧ yX12_make.cls ≠ "java/lang/invoke/VarHandle" ∧ (parseMethodDescriptor yX12_make.desc).map (fun d => d.parameters.length) = some 2 := by decide +kernel
theorem md_X12_move : yX12_move.cls ≠ "java/lang/invoke/MethodHandle" ∧ yX12_move.cls ≠ "java/lang/invoke/VarHandle" ∧ (parseMethodDescriptor yX12_move.desc).map (fun d => d.parameters.length) = some 2 := by decide +kernel
theorem md_X12_noFridge : yX12_noFridge.cls ≠ "java/lang/invoke/MethodHandle" ∧ yX12_noFridge.cls ≠ "java/lang/invoke/VarHandle" ∧ (parseMethodDescriptor yX12_noFridge.desc).map (fun d => d.parameters.length) = some 1 := by decide +kernel
theorem md_X12_noSpans : yX12_noSpans.cls ≠ "java/lang/invoke/MethodHandle" ∧ yX12_noSpans.cls ≠ "java/lang/invoke/VarHandle" ∧ (parseMethodDescriptor yX12_noSpans.desc).map (fun d => d.parameters.length) = some 0 := by decide +kernel
theorem md_X12_offCoin : yX12_offCoin.cls ≠ "java/lang/invoke/MethodHandle" ∧ yX12_offCoin.cls ≠ "java/lang/invoke/VarHandle" ∧ (parseMethodDescriptor yX12_offCoin.desc).map (fun d => d.parameters.length) = some 1 := by decide +kernel
theorem md_X12_offIn : yX12_offIn.cls ≠ "java/lang/invoke/MethodHandle" ∧ yX12_offIn.cls ≠ "java/lang/invoke/VarHandle" ∧ (parseMethodDescriptor yX12_offIn.desc).map (fun d => d.parameters.length) = some 2 := by decide +kernel
theorem md_X12_oldestOf : yX12_oldestOf.cls ≠ "java/lang/invoke/MethodHandle" ∧ yX12_oldestOf.cls ≠ "java/lang/invoke/VarHandle" ∧ (parseMethodDescriptor yX12_oldestOf.desc).map (fun d => d.parameters.length) = some 1 := by decide +kernel
theorem md_X12_plan : yX12_plan.cls ≠ "java/lang/invoke/MethodHandle" ∧ yX12_plan.cls ≠ "java/lang/invoke/VarHandle" ∧ (parseMethodDescriptor yX12_plan.desc).map (fun d => d.parameters.length) = some 2 := by decide +kernel
theorem md_X12_print : yX12_print.cls ≠ "java/lang/invoke/MethodHandle" ∧ yX12_print.cls ≠ "java/lang/invoke/VarHandle" ∧ (parseMethodDescriptor yX12_print.desc).map (fun d => d.parameters.length) = some 1 := by decide +kernel
theorem md_X12_readAll : yX12_readAll.cls ≠ "java/lang/invoke/MethodHandle" ∧ yX12_readAll.cls ≠ "java/lang/invoke/VarHandle" ∧ (parseMethodDescriptor yX12_readAll.desc).map (fun d => d.parameters.length) = some 0 := by decide +kernel
theorem md_X12_smell : yX12_smell.cls ≠ "java/lang/invoke/MethodHandle" ∧ yX12_smell.cls ≠ "java/lang/invoke/VarHandle" ∧ (parseMethodDescriptor yX12_smell.desc).map (fun d => d.parameters.length) = some 1 := by decide +kernel
theorem md_X12_span : yX12_span.cls ≠ "java/lang/invoke/MethodHandle" ∧ yX12_span.cls ≠ "java/lang/invoke/VarHandle" ∧ (parseMethodDescriptor yX12_span.desc).map (fun d => d.parameters.length) = some 2 := by decide +kernel
theorem md_X12_take : yX12_take.cls ≠ "java/lang/invoke/MethodHandle" ∧ yX12_take.cls ≠ "java/lang/invoke/VarHandle" ∧ (parseMethodDescriptor yX12_take.desc).map (fun d => d.parameters.length) = some 2 := by decide +kernel
theorem md_X12_takenBy : yX12_takenBy.cls ≠ "java/lang/invoke/MethodHandle" ∧ yX12_takenBy.cls ≠ "java/lang/invoke/VarHandle" ∧ (parseMethodDescriptor yX12_takenBy.desc).map (fun d => d.parameters.length) = some 1 := by decide +kernel
theorem md_X12_thereMany : yX12_thereMany.cls ≠ "java/lang/invoke/MethodHandle" ∧ yX12_thereMany.cls ≠ "java/lang/invoke/VarHandle" ∧ (parseMethodDescriptor yX12_thereMany.desc).map (fun d => d.parameters.length) = some 0 := by decide +kernel
theorem md_X12_throwOut : yX12_throwOut.cls ≠ "java/lang/invoke/MethodHandle" ∧ yX12_throwOut.cls ≠ "java/lang/invoke/VarHandle" ∧ (parseMethodDescriptor yX12_throwOut.desc).map (fun d => d.parameters.length) = some 1 := by decide +kernel
theorem md_X12_warmth : yX12_warmth.cls ≠ "java/lang/invoke/MethodHandle" ∧ yX12_warmth.cls ≠ "java/lang/invoke/VarHandle" ∧ (parseMethodDescriptor yX12_warmth.desc).map (fun d => d.parameters.length) = some 2 := by decide +kernel
theorem md_X12_warmthOf : yX12_warmthOf.cls ≠ "java/lang/invoke/MethodHandle" ∧ yX12_warmthOf.cls ≠ "java/lang/invoke/VarHandle" ∧ (parseMethodDescriptor yX12_warmthOf.desc).map (fun d => d.parameters.length) = some 2 := by decide +kernel
theorem md_X12_wipe : yX12_wipe.cls ≠ "java/lang/invoke/MethodHandle" ∧ yX12_wipe.cls ≠ "java/lang/invoke/VarHandle" ∧ (parseMethodDescriptor yX12_wipe.desc).map (fun d => d.parameters.length) = some 0 := by decide +kernel
theorem md_X12_write : yX12_write.cls ≠ "java/lang/invoke/MethodHandle" ∧ yX12_write.cls ≠ "java/lang/invoke/VarHandle" ∧ (parseMethodDescriptor yX12_write.desc).map (fun d => d.parameters.length) = some 2 := by decide +kernel
theorem md_X1_costOfHabit : yX1_costOfHabit.cls ≠ "java/lang/invoke/MethodHandle" ∧ yX1_costOfHabit.cls ≠ "java/lang/invoke/VarHandle" ∧ (parseMethodDescriptor yX1_costOfHabit.desc).map (fun d => d.parameters.length) = some 3 := by decide +kernel
theorem md_X1_highestOf : yX1_highestOf.cls ≠ "java/lang/invoke/MethodHandle" ∧ yX1_highestOf.cls ≠ "java/lang/invoke/VarHandle" ∧ (parseMethodDescriptor yX1_highestOf.desc).map (fun d => d.parameters.length) = some 1 := by decide +kernel
theorem md_X1_isOlderOn : yX1_isOlderOn.cls ≠ "java/lang/invoke/MethodHandle" ∧ yX1_isOlderOn.cls ≠ "java/lang/invoke/VarHandle" ∧ (parseMethodDescriptor yX1_isOlderOn.desc).map (fun d => d.parameters.length) = some 3 := by decide +kernel
theorem md_X1_isOneTaken : yX1_isOneTaken.cls ≠ "java/lang/invoke/MethodHandle" ∧ yX1_isOneTaken.cls ≠ "java/lang/invoke/VarHandle" ∧ (parseMethodDescriptor yX1_isOneTaken.desc).map (fun d => d.parameters.length) = some 2 := by decide +kernel
theorem md_X1_lookAhead : yX1_lookAhead.cls ≠ "java/lang/invoke/MethodHandle" ∧ yX1_lookAhead.cls ≠ "java/lang/invoke/VarHandle" ∧ (parseMethodDescriptor yX1_lookAhead.desc).map (fun d => d.parameters.length) = some 1 := by decide +kernel
theorem md_X1_offOn : yX1_offOn.cls ≠ "java/lang/invoke/MethodHandle" ∧ yX1_offOn.cls ≠ "java/lang/invoke/VarHandle" ∧ (parseMethodDescriptor yX1_offOn.desc).map (fun d => d.parameters.length) = some 1 := by decide +kernel
theorem md_X1_oldestOn : yX1_oldestOn.cls ≠ "java/lang/invoke/MethodHandle" ∧ yX1_oldestOn.cls ≠ "java/lang/invoke/VarHandle" ∧ (parseMethodDescriptor yX1_oldestOn.desc).map (fun d => d.parameters.length) = some 2 := by decide +kernel
theorem md_X2_add : yX2_add.cls ≠ "java/lang/invoke/MethodHandle" ∧ yX2_add.cls ≠ "java/lang/invoke/VarHandle" ∧ (parseMethodDescriptor yX2_add.desc).map (fun d => d.parameters.length) = some 6 := by decide +kernel
theorem md_X2_bitsOfSort : yX2_bitsOfSort.cls ≠ "java/lang/invoke/MethodHandle" ∧ yX2_bitsOfSort.cls ≠ "java/lang/invoke/VarHandle" ∧ (parseMethodDescriptor yX2_bitsOfSort.desc).map (fun d => d.parameters.length) = some 1 := by decide +kernel
theorem md_X2_cellOf : yX2_cellOf.cls ≠ "java/lang/invoke/MethodHandle" ∧ yX2_cellOf.cls ≠ "java/lang/invoke/VarHandle" ∧ (parseMethodDescriptor yX2_cellOf.desc).map (fun d => d.parameters.length) = some 1 := by decide +kernel
theorem md_X2_clear : yX2_clear.cls ≠ "java/lang/invoke/MethodHandle" ∧ yX2_clear.cls ≠ "java/lang/invoke/VarHandle" ∧ (parseMethodDescriptor yX2_clear.desc).map (fun d => d.parameters.length) = some 0 := by decide +kernel
theorem md_X2_coinOf : yX2_coinOf.cls ≠ "java/lang/invoke/MethodHandle" ∧ yX2_coinOf.cls ≠ "java/lang/invoke/VarHandle" ∧ (parseMethodDescriptor yX2_coinOf.desc).map (fun d => d.parameters.length) = some 1 := by decide +kernel
theorem md_X2_coinOfAll : yX2_coinOfAll.cls ≠ "java/lang/invoke/MethodHandle" ∧ yX2_coinOfAll.cls ≠ "java/lang/invoke/VarHandle" ∧ (parseMethodDescriptor yX2_coinOfAll.desc).map (fun d => d.parameters.length) = some 1 := by decide +kernel
theorem md_X2_kindOf : yX2_kindOf.cls ≠ "java/lang/invoke/MethodHandle" ∧ yX2_kindOf.cls ≠ "java/lang/invoke/VarHandle" ∧ (parseMethodDescriptor yX2_kindOf.desc).map (fun d => d.parameters.length) = some 1 := by decide +kernel
theorem md_X2_limitAs : yX2_limitAs.cls ≠ "java/lang/invoke/MethodHandle" ∧ yX2_limitAs.cls ≠ "java/lang/invoke/VarHandle" ∧ (parseMethodDescriptor yX2_limitAs.desc).map (fun d => d.parameters.length) = some 2 := by decide +kernel
theorem md_X2_numberIn : yX2_numberIn.cls ≠ "java/lang/invoke/MethodHandle" ∧ yX2_numberIn.cls ≠ "java/lang/invoke/VarHandle" ∧ (parseMethodDescriptor yX2_numberIn.desc).map (fun d => d.parameters.length) = some 1 := by decide +kernel
theorem md_X2_printedOf : yX2_printedOf.cls ≠ "java/lang/invoke/MethodHandle" ∧ yX2_printedOf.cls ≠ "java/lang/invoke/VarHandle" ∧ (parseMethodDescriptor yX2_printedOf.desc).map (fun d => d.parameters.length) = some 1 := by decide +kernel
theorem md_X2_sortOf : yX2_sortOf.cls ≠ "java/lang/invoke/MethodHandle" ∧ yX2_sortOf.cls ≠ "java/lang/invoke/VarHandle" ∧ (parseMethodDescriptor yX2_sortOf.desc).map (fun d => d.parameters.length) = some 1 := by decide +kernel
theorem md_X3_ageAs : yX3_ageAs.cls ≠ "java/lang/invoke/MethodHandle" ∧ yX3_ageAs.cls ≠ "java/lang/invoke/VarHandle" ∧ (parseMethodDescriptor yX3_ageAs.desc).map (fun d => d.parameters.length) = some 4 := by decide +kernel
theorem md_X3_ageBehind : yX3_ageBehind.cls ≠ "java/lang/invoke/MethodHandle" ∧ yX3_ageBehind.cls ≠ "java/lang/invoke/VarHandle" ∧ (parseMethodDescriptor yX3_ageBehind.desc).map (fun d => d.parameters.length) = some 2 := by decide +kernel
theorem md_X3_bestLine : yX3_bestLine.cls ≠ "java/lang/invoke/MethodHandle" ∧ yX3_bestLine.cls ≠ "java/lang/invoke/VarHandle" ∧ (parseMethodDescriptor yX3_bestLine.desc).map (fun d => d.parameters.length) = some 0 := by decide +kernel
theorem md_X3_bestToFreeze : yX3_bestToFreeze.cls ≠ "java/lang/invoke/MethodHandle" ∧ yX3_bestToFreeze.cls ≠ "java/lang/invoke/VarHandle" ∧ (parseMethodDescriptor yX3_bestToFreeze.desc).map (fun d => d.parameters.length) = some 1 := by decide +kernel
theorem md_X3_coinLostAs : yX3_coinLostAs.cls ≠ "java/lang/invoke/MethodHandle" ∧ yX3_coinLostAs.cls ≠ "java/lang/invoke/VarHandle" ∧ (parseMethodDescriptor yX3_coinLostAs.desc).map (fun d => d.parameters.length) = some 4 := by decide +kernel
theorem md_X3_errorsByPrint : yX3_errorsByPrint.cls ≠ "java/lang/invoke/MethodHandle" ∧ yX3_errorsByPrint.cls ≠ "java/lang/invoke/VarHandle" ∧ (parseMethodDescriptor yX3_errorsByPrint.desc).map (fun d => d.parameters.length) = some 1 := by decide +kernel
theorem md_X3_errorsBySmell : yX3_errorsBySmell.cls ≠ "java/lang/invoke/MethodHandle" ∧ yX3_errorsBySmell.cls ≠ "java/lang/invoke/VarHandle" ∧ (parseMethodDescriptor yX3_errorsBySmell.desc).map (fun d => d.parameters.length) = some 1 := by decide +kernel
theorem md_X3_hasFood : yX3_hasFood.cls ≠ "java/lang/invoke/MethodHandle" ∧ yX3_hasFood.cls ≠ "java/lang/invoke/VarHandle" ∧ (parseMethodDescriptor yX3_hasFood.desc).map (fun d => d.parameters.length) = some 1 := by decide +kernel
theorem md_X3_hoursTillOff : yX3_hoursTillOff.cls ≠ "java/lang/invoke/MethodHandle" ∧ yX3_hoursTillOff.cls ≠ "java/lang/invoke/VarHandle" ∧ (parseMethodDescriptor yX3_hoursTillOff.desc).map (fun d => d.parameters.length) = some 2 := by decide +kernel
theorem md_X3_isOff : yX3_isOff.cls ≠ "java/lang/invoke/MethodHandle" ∧ yX3_isOff.cls ≠ "java/lang/invoke/VarHandle" ∧ (parseMethodDescriptor yX3_isOff.desc).map (fun d => d.parameters.length) = some 1 := by decide +kernel
theorem md_X3_letHoursGoBy : yX3_letHoursGoBy.cls ≠ "java/lang/invoke/MethodHandle" ∧ yX3_letHoursGoBy.cls ≠ "java/lang/invoke/VarHandle" ∧ (parseMethodDescriptor yX3_letHoursGoBy.desc).map (fun d => d.parameters.length) = some 1 := by decide +kernel
theorem md_X3_limitOf : yX3_limitOf.cls ≠ "java/lang/invoke/MethodHandle" ∧ yX3_limitOf.cls ≠ "java/lang/invoke/VarHandle" ∧ (parseMethodDescriptor yX3_limitOf.desc).map (fun d => d.parameters.length) = some 1 := by decide +kernel
theorem md_X3_lostBehind : yX3_lostBehind.cls ≠ "java/lang/invoke/MethodHandle" ∧ yX3_lostBehind.cls ≠ "java/lang/invoke/VarHandle" ∧ (parseMethodDescriptor yX3_lostBehind.desc).map (fun d => d.parameters.length) = some 1 := by decide +kernel
theorem md_X3_lostIfFrozen : yX3_lostIfFrozen.cls ≠ "java/lang/invoke/MethodHandle" ∧ yX3_lostIfFrozen.cls ≠ "java/lang/invoke/VarHandle" ∧ (parseMethodDescriptor yX3_lostIfFrozen.desc).map (fun d => d.parameters.length) = some 3 := by decide +kernel
theorem md_X3_offAndThere : yX3_offAndThere.cls ≠ "java/lang/invoke/MethodHandle" ∧ yX3_offAndThere.cls ≠ "java/lang/invoke/VarHandle" ∧ (parseMethodDescriptor yX3_offAndThere.desc).map (fun d => d.parameters.length) = some 0 := by decide +kernel
theorem md_X3_offBehindCut : yX3_offBehindCut.cls ≠ "java/lang/invoke/MethodHandle" ∧ yX3_offBehindCut.cls ≠ "java/lang/invoke/VarHandle" ∧ (parseMethodDescriptor yX3_offBehindCut.desc).map (fun d => d.parameters.length) = some 2 := by decide +kernel
theorem md_X3_weightOfIll : yX3_weightOfIll.cls ≠ "java/lang/invoke/MethodHandle" ∧ yX3_weightOfIll.cls ≠ "java/lang/invoke/VarHandle" ∧ (parseMethodDescriptor yX3_weightOfIll.desc).map (fun d => d.parameters.length) = some 1 := by decide +kernel
theorem md_X4_cellFor : yX4_cellFor.cls ≠ "java/lang/invoke/MethodHandle" ∧ yX4_cellFor.cls ≠ "java/lang/invoke/VarHandle" ∧ (parseMethodDescriptor yX4_cellFor.desc).map (fun d => d.parameters.length) = some 1 := by decide +kernel
theorem md_X4_findBest : yX4_findBest.cls ≠ "java/lang/invoke/MethodHandle" ∧ yX4_findBest.cls ≠ "java/lang/invoke/VarHandle" ∧ (parseMethodDescriptor yX4_findBest.desc).map (fun d => d.parameters.length) = some 2 := by decide +kernel
theorem md_X4_lookAtFoods : yX4_lookAtFoods.cls ≠ "java/lang/invoke/MethodHandle" ∧ yX4_lookAtFoods.cls ≠ "java/lang/invoke/VarHandle" ∧ (parseMethodDescriptor yX4_lookAtFoods.desc).map (fun d => d.parameters.length) = some 1 := by decide +kernel
theorem md_X4_settle : yX4_settle.cls ≠ "java/lang/invoke/MethodHandle" ∧ yX4_settle.cls ≠ "java/lang/invoke/VarHandle" ∧ (parseMethodDescriptor yX4_settle.desc).map (fun d => d.parameters.length) = some 1 := by decide +kernel
theorem md_X4_tryFood : yX4_tryFood.cls ≠ "java/lang/invoke/MethodHandle" ∧ yX4_tryFood.cls ≠ "java/lang/invoke/VarHandle" ∧ (parseMethodDescriptor yX4_tryFood.desc).map (fun d => d.parameters.length) = some 3 := by decide +kernel
theorem md_X5_add : yX5_add.cls ≠ "java/lang/invoke/MethodHandle" ∧ yX5_add.cls ≠ "java/lang/invoke/VarHandle" ∧ (parseMethodDescriptor yX5_add.desc).map (fun d => d.parameters.length) = some 2 := by decide +kernel
theorem md_X5_bestPacks : yX5_bestPacks.cls ≠ "java/lang/invoke/MethodHandle" ∧ yX5_bestPacks.cls ≠ "java/lang/invoke/VarHandle" ∧ (parseMethodDescriptor yX5_bestPacks.desc).map (fun d => d.parameters.length) = some 0 := by decide +kernel
theorem md_X5_clear : yX5_clear.cls ≠ "java/lang/invoke/MethodHandle" ∧ yX5_clear.cls ≠ "java/lang/invoke/VarHandle" ∧ (parseMethodDescriptor yX5_clear.desc).map (fun d => d.parameters.length) = some 0 := by decide +kernel
theorem md_X5_expectOf : yX5_expectOf.cls ≠ "java/lang/invoke/MethodHandle" ∧ yX5_expectOf.cls ≠ "java/lang/invoke/VarHandle" ∧ (parseMethodDescriptor yX5_expectOf.desc).map (fun d => d.parameters.length) = some 1 := by decide +kernel
theorem md_X6_coinLeft : yX6_coinLeft.cls ≠ "java/lang/invoke/MethodHandle" ∧ yX6_coinLeft.cls ≠ "java/lang/invoke/VarHandle" ∧ (parseMethodDescriptor yX6_coinLeft.desc).map (fun d => d.parameters.length) = some 1 := by decide +kernel
theorem md_X6_costOfHunger : yX6_costOfHunger.cls ≠ "java/lang/invoke/MethodHandle" ∧ yX6_costOfHunger.cls ≠ "java/lang/invoke/VarHandle" ∧ (parseMethodDescriptor yX6_costOfHunger.desc).map (fun d => d.parameters.length) = some 1 := by decide +kernel
theorem md_X6_dishOn : yX6_dishOn.cls ≠ "java/lang/invoke/MethodHandle" ∧ yX6_dishOn.cls ≠ "java/lang/invoke/VarHandle" ∧ (parseMethodDescriptor yX6_dishOn.desc).map (fun d => d.parameters.length) = some 1 := by decide +kernel
theorem md_X6_eatenOn : yX6_eatenOn.cls ≠ "java/lang/invoke/MethodHandle" ∧ yX6_eatenOn.cls ≠ "java/lang/invoke/VarHandle" ∧ (parseMethodDescriptor yX6_eatenOn.desc).map (fun d => d.parameters.length) = some 3 := by decide +kernel
theorem md_X6_findCheapest : yX6_findCheapest.cls ≠ "java/lang/invoke/MethodHandle" ∧ yX6_findCheapest.cls ≠ "java/lang/invoke/VarHandle" ∧ (parseMethodDescriptor yX6_findCheapest.desc).map (fun d => d.parameters.length) = some 1 := by decide +kernel
theorem md_X6_settle : yX6_settle.cls ≠ "java/lang/invoke/MethodHandle" ∧ yX6_settle.cls ≠ "java/lang/invoke/VarHandle" ∧ (parseMethodDescriptor yX6_settle.desc).map (fun d => d.parameters.length) = some 1 := by decide +kernel
theorem md_X6_tryEvening : yX6_tryEvening.cls ≠ "java/lang/invoke/MethodHandle" ∧ yX6_tryEvening.cls ≠ "java/lang/invoke/VarHandle" ∧ (parseMethodDescriptor yX6_tryEvening.desc).map (fun d => d.parameters.length) = some 4 := by decide +kernel
theorem md_X7_add : yX7_add.cls ≠ "java/lang/invoke/MethodHandle" ∧ yX7_add.cls ≠ "java/lang/invoke/VarHandle" ∧ (parseMethodDescriptor yX7_add.desc).map (fun d => d.parameters.length) = some 2 := by decide +kernel
theorem md_X7_bestLaw : yX7_bestLaw.cls ≠ "java/lang/invoke/MethodHandle" ∧ yX7_bestLaw.cls ≠ "java/lang/invoke/VarHandle" ∧ (parseMethodDescriptor yX7_bestLaw.desc).map (fun d => d.parameters.length) = some 0 := by decide +kernel
theorem md_X7_fittedBy : yX7_fittedBy.cls ≠ "java/lang/invoke/MethodHandle" ∧ yX7_fittedBy.cls ≠ "java/lang/invoke/VarHandle" ∧ (parseMethodDescriptor yX7_fittedBy.desc).map (fun d => d.parameters.length) = some 1 := by decide +kernel
theorem md_X8_ageOf : yX8_ageOf.cls ≠ "java/lang/invoke/MethodHandle" ∧ yX8_ageOf.cls ≠ "java/lang/invoke/VarHandle" ∧ (parseMethodDescriptor yX8_ageOf.desc).map (fun d => d.parameters.length) = some 1 := by decide +kernel
theorem md_X8_ageTo : yX8_ageTo.cls ≠ "java/lang/invoke/MethodHandle" ∧ yX8_ageTo.cls ≠ "java/lang/invoke/VarHandle" ∧ (parseMethodDescriptor yX8_ageTo.desc).map (fun d => d.parameters.length) = some 2 := by decide +kernel
theorem md_X8_bitsThere : yX8_bitsThere.cls ≠ "java/lang/invoke/MethodHandle" ∧ yX8_bitsThere.cls ≠ "java/lang/invoke/VarHandle" ∧ (parseMethodDescriptor yX8_bitsThere.desc).map (fun d => d.parameters.length) = some 0 := by decide +kernel
theorem md_X8_cellOf : yX8_cellOf.cls ≠ "java/lang/invoke/MethodHandle" ∧ yX8_cellOf.cls ≠ "java/lang/invoke/VarHandle" ∧ (parseMethodDescriptor yX8_cellOf.desc).map (fun d => d.parameters.length) = some 1 := by decide +kernel
theorem md_X8_copyFrom : yX8_copyFrom.cls ≠ "java/lang/invoke/MethodHandle" ∧ yX8_copyFrom.cls ≠ "java/lang/invoke/VarHandle" ∧ (parseMethodDescriptor yX8_copyFrom.desc).map (fun d => d.parameters.length) = some 1 := by decide +kernel
theorem md_X8_fateOf : yX8_fateOf.cls ≠ "java/lang/invoke/MethodHandle" ∧ yX8_fateOf.cls ≠ "java/lang/invoke/VarHandle" ∧ (parseMethodDescriptor yX8_fateOf.desc).map (fun d => d.parameters.length) = some 1 := by decide +kernel
theorem md_X8_hoursSinceLeft : yX8_hoursSinceLeft.cls ≠ "java/lang/invoke/MethodHandle" ∧ yX8_hoursSinceLeft.cls ≠ "java/lang/invoke/VarHandle" ∧ (parseMethodDescriptor yX8_hoursSinceLeft.desc).map (fun d => d.parameters.length) = some 1 := by decide +kernel
theorem md_X8_isThere : yX8_isThere.cls ≠ "java/lang/invoke/MethodHandle" ∧ yX8_isThere.cls ≠ "java/lang/invoke/VarHandle" ∧ (parseMethodDescriptor yX8_isThere.desc).map (fun d => d.parameters.length) = some 1 := by decide +kernel
theorem md_X8_kindOf : yX8_kindOf.cls ≠ "java/lang/invoke/MethodHandle" ∧ yX8_kindOf.cls ≠ "java/lang/invoke/VarHandle" ∧ (parseMethodDescriptor yX8_kindOf.desc).map (fun d => d.parameters.length) = some 1 := by decide +kernel
theorem md_X8_numberIn : yX8_numberIn.cls ≠ "java/lang/invoke/MethodHandle" ∧ yX8_numberIn.cls ≠ "java/lang/invoke/VarHandle" ∧ (parseMethodDescriptor yX8_numberIn.desc).map (fun d => d.parameters.length) = some 1 := by decide +kernel
theorem md_X8_numberThere : yX8_numberThere.cls ≠ "java/lang/invoke/MethodHandle" ∧ yX8_numberThere.cls ≠ "java/lang/invoke/VarHandle" ∧ (parseMethodDescriptor yX8_numberThere.desc).map (fun d => d.parameters.length) = some 0 := by decide +kernel
theorem md_X8_putInto : yX8_putInto.cls ≠ "java/lang/invoke/MethodHandle" ∧ yX8_putInto.cls ≠ "java/lang/invoke/VarHandle" ∧ (parseMethodDescriptor yX8_putInto.desc).map (fun d => d.parameters.length) = some 2 := by decide +kernel
theorem md_X8_start : yX8_start.cls ≠ "java/lang/invoke/MethodHandle" ∧ yX8_start.cls ≠ "java/lang/invoke/VarHandle" ∧ (parseMethodDescriptor yX8_start.desc).map (fun d => d.parameters.length) = some 1 := by decide +kernel
theorem md_X8_takeOut : yX8_takeOut.cls ≠ "java/lang/invoke/MethodHandle" ∧ yX8_takeOut.cls ≠ "java/lang/invoke/VarHandle" ∧ (parseMethodDescriptor yX8_takeOut.desc).map (fun d => d.parameters.length) = some 2 := by decide +kernel
theorem md_X8_turnInto : yX8_turnInto.cls ≠ "java/lang/invoke/MethodHandle" ∧ yX8_turnInto.cls ≠ "java/lang/invoke/VarHandle" ∧ (parseMethodDescriptor yX8_turnInto.desc).map (fun d => d.parameters.length) = some 2 := by decide +kernel
theorem md_X9_append : yX9_append.cls ≠ "java/lang/invoke/MethodHandle" ∧ yX9_append.cls ≠ "java/lang/invoke/VarHandle" ∧ (parseMethodDescriptor yX9_append.desc).map (fun d => d.parameters.length) = some 2 := by decide +kernel
theorem md_X9_byteAt : yX9_byteAt.cls ≠ "java/lang/invoke/MethodHandle" ∧ yX9_byteAt.cls ≠ "java/lang/invoke/VarHandle" ∧ (parseMethodDescriptor yX9_byteAt.desc).map (fun d => d.parameters.length) = some 1 := by decide +kernel
theorem md_X9_isFigure : yX9_isFigure.cls ≠ "java/lang/invoke/MethodHandle" ∧ yX9_isFigure.cls ≠ "java/lang/invoke/VarHandle" ∧ (parseMethodDescriptor yX9_isFigure.desc).map (fun d => d.parameters.length) = some 1 := by decide +kernel
theorem md_X9_isNumberWithin : yX9_isNumberWithin.cls ≠ "java/lang/invoke/MethodHandle" ∧ yX9_isNumberWithin.cls ≠ "java/lang/invoke/VarHandle" ∧ (parseMethodDescriptor yX9_isNumberWithin.desc).map (fun d => d.parameters.length) = some 3 := by decide +kernel
theorem md_X9_number : yX9_number.cls ≠ "java/lang/invoke/MethodHandle" ∧ yX9_number.cls ≠ "java/lang/invoke/VarHandle" ∧ (parseMethodDescriptor yX9_number.desc).map (fun d => d.parameters.length) = some 1 := by decide +kernel
theorem md_X9_readItem : yX9_readItem.cls ≠ "java/lang/invoke/MethodHandle" ∧ yX9_readItem.cls ≠ "java/lang/invoke/VarHandle" ∧ (parseMethodDescriptor yX9_readItem.desc).map (fun d => d.parameters.length) = some 1 := by decide +kernel
theorem md_X9_readNumber : yX9_readNumber.cls ≠ "java/lang/invoke/MethodHandle" ∧ yX9_readNumber.cls ≠ "java/lang/invoke/VarHandle" ∧ (parseMethodDescriptor yX9_readNumber.desc).map (fun d => d.parameters.length) = some 1 := by decide +kernel

theorem itk_q {σ ρ : Type} {f : σ → Option (σ ⊕ ρ)} {n : Nat} {x r : ρ} (h : itk f n x (.inr r)) : r = x := h
def zck {α : Type} (v : Int32) (k : Option α) : Option α := if v = 0 ∨ v = 1 then k else none
theorem zck_e {α : Type} {v : Int32} {k : Option α} {r : α} (h : zck v k = some r) : nrw (some .boolean) v ∧ k = some r := by
  unfold zck at h
  by_cases c : v = 0 ∨ v = 1
  · rw [if_pos c] at h
    refine ⟨?_, h⟩
    rcases c with rfl | rfl <;> rfl
  · rw [if_neg c] at h; cases h
abbrev minI (x y : Int32) : Int32 := if y < x then y else x
abbrev maxI (x y : Int32) : Int32 := if x < y then y else x
section XT
variable {p : Program} {l : Launch} {e : Env} {R : Room} {s : State} {m : MethodId} {args : Array Value} {below : List Frame} {meth : Method} {c : Code} {H : Heap} {locs : List Loc} {Q : State → Prop} {cc : ByteArray} {pc : Nat} {ls : Array Slot} {rest : List Value}
/-- a switch whose value goes to the default, in or out of its range -/
theorem x_tabD (hx : p.tables.exec = Jvm.exec) (hb : c.code = cc) {dflt lo hi : Int} {offs : Array Int} {len : Nat} {x : Int32} {tgt : Nat} (hdg : decode cc pc = .ok (.tableswitch dflt lo hi offs, len)) (h : ¬ x.toInt < lo → ¬ hi < x.toInt → offs[(x.toInt - lo).toNat]? = some dflt) (ht : (pc : Int) + dflt = (tgt : Int))
    (k : W p l e R s m args below meth c H locs 0 0 Q (F0 m tgt ls rest)) : W p l e R s m args below meth c H locs 0 0 Q (F0 m pc ls (.int x :: rest)) := by
  by_cases h1 : x.toInt < lo
  · exact lv_tableOut hx hb hdg (Or.inl h1) ht k
  · by_cases h2 : hi < x.toInt
    · exact lv_tableOut hx hb hdg (Or.inr h2) ht k
    · exact lv_tableIn hx hb hdg h1 h2 (h h1 h2) ht k
end XT
theorem nI_clampge {n : Nat} (hn : n < 2 ^ 31) {i : Int32} (h0 : ¬ i < 0) : nI n ≤ i ↔ n ≤ i.toNatClampNeg := by
  rw [Int32.le_iff_toInt_le, nI_toInt hn]
  have h1 : 0 ≤ i.toInt := by
    rw [Int32.lt_iff_toInt_lt] at h0
    exact Int.not_lt.mp h0
  show (n : Int) ≤ i.toInt ↔ n ≤ i.toInt.toNat
  omega
set_option maxHeartbeats 4000000 in
set_option maxRecDepth 100000 in
/-- OffFirst.at -/
theorem c_at (l : Launch) (D : va_G) (cI : ClassId) (w : va_W) (q n a : Nat) (f : Nat → Int32) (he : w[q]? = some (a, .inl (cI, n, .inl f))) (hn : n < 2 ^ 31) (i : Int32) : CtI l yX11_at cX11_at 2 (some .int) 1 D cI w w [.ref a, .int i] (atf n f i) := by
  refine CtI_of (by decide +kernel) (Nat.le_of_ble_eq_true rfl) ⟨_, rfl⟩ ?_
  intro p e s m args below meth c A Q ls H locs C hw hl hret
  have hx := C.1
  have hb := C.2.1
  have hl : lv_has ls 2 [(0, .ref a), (1, .int i)] := hl
  refine lv_iload_n hx hb dX11_at_0 rfl (lv_at hl 1 rfl) ?_
  have out : (i < 0 ∨ n ≤ i.toNatClampNeg) → W p l e (RM 1) s m args below meth c H locs 0 0 Q (F0 m 16 ls []) := fun h => by
    have er : atf n f i = 0 := if_pos h
    rw [er] at hret
    refine lv_iconst (v := 0) hx hb dX11_at_16 (by decide) ?_
    exact hret _ _ _ _ dX11_at_17 rfl hw
  refine lv_if_lt (tgt := 16) hx hb dX11_at_1 (by decide) (fun c1 => out (Or.inl c1)) (fun c1 => ?_)
  refine lv_iload_n hx hb dX11_at_4 rfl (lv_at hl 1 rfl) ?_
  refine lv_aload_n hx hb dX11_at_5 rfl (lv_at hl 0 rfl) ?_
  refine x_alen C hw q he dX11_at_6 ?_
  refine lv_icmp_ge (tgt := 16) hx hb dX11_at_7 (by decide) (fun c2 => out (Or.inr ((nI_clampge hn c1).mp c2))) (fun c2 => ?_)
  have hin : vp_in i n := fun h => h.elim c1 (fun h => c2 ((nI_clampge hn c1).mpr h))
  refine lv_aload_n hx hb dX11_at_10 rfl (lv_at hl 0 rfl) ?_
  refine lv_iload_n hx hb dX11_at_11 rfl (lv_at hl 1 rfl) ?_
  refine x_iald C hw q he hin dX11_at_12 ?_
  refine lv_goto (tgt := 17) hx hb dX11_at_13 (by decide) ?_
  have er : atf n f i = f i.toNatClampNeg := if_neg hin
  rw [er] at hret
  exact hret _ _ _ _ dX11_at_17 rfl hw
set_option maxHeartbeats 4000000 in
set_option maxRecDepth 100000 in
/-- OffFirst.put -/
theorem c_put (l : Launch) (D : va_G) (cI : ClassId) (w : Mm → va_W) (M : Mm) (q n a : Nat) (he : (w M)[q]? = some (a, .inl (cI, n, .inl (M q)))) (hset : ∀ (j : Nat) (v : Int32), (w M).set q (a, .inl (cI, n, .inl (upd (M q) j v))) = w (mset M q j v)) (hn : n < 2 ^ 31) (i v : Int32) : CtV l yX11_put cX11_put 3 1 D cI (w M) (w (putf n M q i v)) [.ref a, .int i, .int v] := by
  refine CtV_of (by decide +kernel) (Nat.le_of_ble_eq_true rfl) ?_
  intro p e s m args below meth c A Q ls H locs C hw hl hret
  have hx := C.1
  have hb := C.2.1
  have hl : lv_has ls 3 [(0, .ref a), (1, .int i), (2, .int v)] := hl
  refine lv_iload_n hx hb dX11_put_0 rfl (lv_at hl 1 rfl) ?_
  have out : (i < 0 ∨ n ≤ i.toNatClampNeg) → W p l e (RM 1) s m args below meth c H locs 0 0 Q (F0 m 14 ls []) := fun h => by
    have er : putf n M q i v = M := if_pos h
    rw [er] at hret
    exact hret _ _ _ _ dX11_put_14 hw
  refine lv_if_lt (tgt := 14) hx hb dX11_put_1 (by decide) (fun c1 => out (Or.inl c1)) (fun c1 => ?_)
  refine lv_iload_n hx hb dX11_put_4 rfl (lv_at hl 1 rfl) ?_
  refine lv_aload_n hx hb dX11_put_5 rfl (lv_at hl 0 rfl) ?_
  refine x_alen C hw q he dX11_put_6 ?_
  refine lv_icmp_ge (tgt := 14) hx hb dX11_put_7 (by decide) (fun c2 => out (Or.inr ((nI_clampge hn c1).mp c2))) (fun c2 => ?_)
  have hin : vp_in i n := fun h => h.elim c1 (fun h => c2 ((nI_clampge hn c1).mpr h))
  refine lv_aload_n hx hb dX11_put_10 rfl (lv_at hl 0 rfl) ?_
  refine lv_iload_n hx hb dX11_put_11 rfl (lv_at hl 1 rfl) ?_
  refine lv_iload_n hx hb dX11_put_12 rfl (lv_at hl 2 rfl) ?_
  have er : putf n M q i v = mset M q i.toNatClampNeg v := if_neg hin
  rw [er] at hret
  refine x_iast C hw q he hin (hset _ _) dX11_put_13 (fun H locs hw => ?_)
  exact hret _ _ _ _ dX11_put_14 hw
