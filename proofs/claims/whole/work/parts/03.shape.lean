/-! THE SHAPE: the classes by number, the words that all methods share, the links by number, the cells by place -/
def RN (o : Nat) : String := match o with
  | 0 => RX0 | 1 => RX1 | 2 => RX2 | 3 => RX3 | 4 => RX4 | 5 => RX5 | 6 => RX6 | 7 => RX7 | 8 => RJ6 | 9 => RJ9 | _ => RL
def TC (o : Nat) : u_T := match o with
  | 0 => TX0 | 1 => TX1 | 2 => TX2 | 3 => TX3 | 4 => TX4 | 5 => TX5 | 6 => TX6 | _ => TX7
abbrev classes : List vw_C := [(RX0, TX0, 3), (RX1, TX1, 6), (RX2, TX2, 4), (RX3, TX3, 7), (RX4, TX4, 3), (RX5, TX5, 3), (RX6, TX6, 9), (RX7, TX7, 25)]
/-- the words that every method's contract carries -/
def tw : List Cond := lw_tbl.filter goodWord
theorem tw_of {w : Cond} (i : Nat) (h : lw_tbl[i]? = some w) (hg : goodWord w = true) : w ∈ tw := List.mem_filter.mpr ⟨List.mem_of_getElem? h, hg⟩
theorem tw_good : ∀ w ∈ tw, (w.onTables && w.keeps) = true ∨ ∃ ty, w = .arrayClass ty := fun w h => good_of_word (List.mem_filter.mp h).2
theorem tw_sub : ∀ w ∈ tw, w ∈ lw_tbl := fun w h => (List.mem_filter.mp h).1
/-- own class, index, the object's class, the field; where it stands in the tables -/
def FLp : List (Nat × Nat × Nat × Nat × Nat) := [(2, 9, 2, 0, 97), (2, 19, 2, 1, 98), (2, 37, 2, 2, 99), (2, 44, 2, 3, 100), (3, 9, 3, 0, 117), (5, 24, 3, 0, 118), (1, 73, 3, 0, 119), (6, 121, 3, 0, 120), (4, 85, 3, 0, 121), (3, 15, 3, 1, 122), (5, 27, 3, 1, 123), (1, 66, 3, 1, 124), (6, 101, 3, 1, 125), (4, 81, 3, 1, 126), (3, 19, 3, 2, 127), (6, 105, 3, 2, 128), (3, 22, 3, 3, 129), (6, 108, 3, 3, 130), (3, 25, 3, 4, 131), (6, 115, 3, 4, 132), (3, 32, 3, 5, 133), (5, 19, 3, 5, 134), (6, 86, 3, 5, 135), (1, 63, 3, 5, 136), (4, 75, 3, 5, 137), (3, 28, 3, 6, 138), (6, 118, 3, 6, 139), (5, 11, 5, 0, 162), (5, 15, 5, 1, 163), (5, 39, 5, 2, 164), (6, 135, 5, 2, 165), (1, 11, 1, 0, 179), (1, 15, 1, 1, 180), (1, 32, 1, 2, 181), (1, 18, 1, 3, 182), (6, 151, 1, 3, 183), (1, 21, 1, 4, 184), (6, 154, 1, 4, 185), (1, 28, 1, 5, 186), (6, 138, 1, 5, 187), (0, 7, 0, 0, 213), (4, 25, 0, 0, 214), (0, 13, 0, 1, 215), (4, 65, 0, 1, 216), (0, 17, 0, 2, 217), (4, 69, 0, 2, 218), (4, 12, 4, 0, 226), (4, 18, 4, 1, 227), (4, 29, 4, 2, 228), (6, 9, 6, 0, 236), (6, 16, 6, 1, 237), (6, 23, 6, 2, 238), (6, 30, 6, 3, 239), (6, 37, 6, 4, 240), (6, 44, 6, 5, 241), (6, 49, 6, 6, 242), (6, 80, 6, 7, 243), (6, 98, 6, 8, 244), (7, 55, 7, 0, 652), (7, 7, 7, 1, 653), (7, 98, 7, 2, 654), (7, 13, 7, 3, 655), (7, 16, 7, 4, 656), (7, 20, 7, 5, 657), (7, 23, 7, 6, 658), (7, 26, 7, 7, 659), (7, 29, 7, 8, 660), (7, 106, 7, 9, 661), (7, 113, 7, 10, 662), (7, 59, 7, 11, 663), (7, 33, 7, 12, 664), (7, 62, 7, 13, 665), (7, 65, 7, 14, 666), (7, 73, 7, 15, 667), (7, 160, 7, 16, 668), (7, 36, 7, 17, 669), (7, 40, 7, 18, 670), (7, 174, 7, 19, 671), (7, 43, 7, 20, 672), (7, 205, 7, 21, 673), (7, 208, 7, 22, 674), (7, 212, 7, 23, 675), (7, 273, 7, 24, 676)]
def CLp : List (Nat × Nat × Int32 × Nat) := [(6, 48, (-100000003), 268), (6, 53, (-100000005), 269), (6, 72, (-100000004), 344), (8, 265, 1431655765, 389), (8, 266, 858993459, 390), (8, 267, 252645135, 391), (6, 93, (-100000002), 432), (6, 124, (-100000001), 451), (4, 47, (-100000006), 545), (4, 48, (-100000001), 546), (7, 54, (-100000003), 738), (7, 58, (-100000005), 739), (7, 97, (-100000001), 782), (7, 105, (-100000004), 783), (7, 112, (-100000002), 792), (7, 233, (-100000006), 945)]
def CJp : List (Nat × Nat × Int64 × Nat) := [(6, 179, 1613, 629), (6, 181, 31, 630), (7, 46, 32, 733), (7, 48, 126, 734), (7, 76, 48, 756), (7, 78, 57, 757), (7, 116, 20, 797), (7, 122, 8, 806), (7, 127, (-200), 819), (7, 129, 200, 820), (7, 197, 3, 866), (7, 280, 1613, 1002), (7, 271, 31, 1007)]
def fl_w (e : Nat × Nat × Nat × Nat × Nat) : Cond := .fieldLink (RN e.1) e.2.1 (TC e.2.2.1 e.2.2.2.1).1 (TC e.2.2.1 e.2.2.2.1).2.1 (TC e.2.2.1 e.2.2.2.1).2.2.1
theorem fl_in : ∀ e ∈ FLp, lw_tbl[e.2.2.2.2]? = some (fl_w e) := by decide +kernel
theorem cl_in : ∀ e ∈ CLp, lw_tbl[e.2.2.2]? = some (.constant (RN e.1) e.2.1 e.2.2.1) := by decide +kernel
theorem cj_in : ∀ e ∈ CJp, lw_tbl[e.2.2.2]? = some (.constantLong (RN e.1) e.2.1 e.2.2.1) := by decide +kernel
theorem cl_i0 : ∀ w ∈ u_ws RX0 TX0 3, w ∈ lw_tbl := by decide +kernel
theorem cl_i1 : ∀ w ∈ u_ws RX1 TX1 6, w ∈ lw_tbl := by decide +kernel
theorem cl_i2 : ∀ w ∈ u_ws RX2 TX2 4, w ∈ lw_tbl := by decide +kernel
theorem cl_i3 : ∀ w ∈ u_ws RX3 TX3 7, w ∈ lw_tbl := by decide +kernel
theorem cl_i4 : ∀ w ∈ u_ws RX4 TX4 3, w ∈ lw_tbl := by decide +kernel
theorem cl_i5 : ∀ w ∈ u_ws RX5 TX5 3, w ∈ lw_tbl := by decide +kernel
theorem cl_i6 : ∀ w ∈ u_ws RX6 TX6 9, w ∈ lw_tbl := by decide +kernel
theorem cl_i7 : ∀ w ∈ u_ws RX7 TX7 25, w ∈ lw_tbl := by decide +kernel
