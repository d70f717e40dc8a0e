/-! WHAT THE STATEMENT GIVES AT THE START: the words of the tables and of the premise, by their places -/
def bg_fl : List Cond := flatC (Jvm.Cond.and given_1 narrow_1)
def bg_w (i : Nat) : String × Int64 × Int32 × Int32 × Int32 := pm_wd.getD i ("", 0, 0, 0, 0)
def bg_n (i : Nat) : String := (bg_w i).1
def bg_t (i : Nat) : Term := .static "RaisedQueue$Word" (bg_n i) "LRaisedQueue$Word;"
def bg_tw : Term := .static "RaisedQueue$Word" "WORDS" "[LRaisedQueue$Word;"
def bg_pl : List Nat := [168, 610, 653, 672, 682, 688, 704, 710, 866, 868, 870, 872, 1981, 1982, 1983, 1984, 743, 762, 764, 1985, 1986, 1987]
def bg_pe : List Nat := [4, 37, 44, 52, 61, 71, 82, 94, 152, 169, 187, 206, 228, 249, 271, 294, 107, 121, 136, 318, 343, 369]
def bg_pn : List (List Nat) := [[], [43], [50, 51], [58, 59, 60], [67, 68, 69, 70], [77, 78, 79, 80, 81], [88, 89, 90, 91, 92, 93], [100, 101, 102, 103, 104, 105, 106], [158, 159, 160, 161, 162, 163, 164, 165], [175, 176, 177, 178, 179, 180, 181, 182, 186], [193, 194, 195, 196, 197, 198, 199, 200, 204, 205], [212, 213, 214, 215, 216, 217, 218, 219, 223, 224, 225], [234, 235, 236, 237, 238, 239, 240, 241, 245, 246, 247, 248], [255, 256, 257, 258, 259, 260, 261, 262, 266, 267, 268, 269, 270], [277, 278, 279, 280, 281, 282, 283, 284, 288, 289, 290, 291, 292, 293], [300, 301, 302, 303, 304, 305, 306, 307, 311, 312, 313, 314, 315, 316, 317], [113, 114, 115, 116, 117, 118, 119, 120, 166, 183, 201, 220, 242, 263, 285, 308], [127, 128, 129, 130, 131, 132, 133, 134, 167, 184, 202, 221, 243, 264, 286, 309, 135], [142, 143, 144, 145, 146, 147, 148, 149, 168, 185, 203, 222, 244, 265, 287, 310, 150, 151], [324, 325, 326, 327, 328, 329, 330, 331, 335, 336, 337, 338, 339, 340, 341, 342, 332, 333, 334], [349, 350, 351, 352, 353, 354, 355, 356, 360, 361, 362, 363, 364, 365, 366, 367, 357, 358, 359, 368], [375, 376, 377, 378, 379, 380, 381, 382, 386, 387, 388, 389, 390, 391, 392, 393, 383, 384, 385, 394, 395]]
theorem bg_lays : ∀ i, i < 22 → lw_tbl[bg_pl.getD i 0]? = some (Cond.laysStatic "RaisedQueue$Word" (bg_n i) "LRaisedQueue$Word;") := by decide +kernel
theorem bg_ex : ∀ i, i < 22 → bg_fl[bg_pe.getD i 0]? = some (Cond.exactly (bg_t i) "RaisedQueue$Word") := by decide +kernel
theorem bg_le : ∀ i, i < 22 → bg_fl[bg_pe.getD i 0 + 2]? = some (Cond.eq (.field (bg_t i) "RaisedQueue$Word" "letters" "J") (.long (bg_w i).2.1)) := by decide +kernel
theorem bg_fr : ∀ i, i < 22 → bg_fl[bg_pe.getD i 0 + 3]? = some (Cond.eq (.field (bg_t i) "RaisedQueue$Word" "free" "Z") (.int (bg_w i).2.2.1)) := by decide +kernel
theorem bg_ki : ∀ i, i < 22 → bg_fl[bg_pe.getD i 0 + 4]? = some (Cond.eq (.field (bg_t i) "RaisedQueue$Word" "kind" "I") (.int (bg_w i).2.2.2.1)) := by decide +kernel
theorem bg_fa : ∀ i, i < 22 → bg_fl[bg_pe.getD i 0 + 5]? = some (Cond.eq (.field (bg_t i) "RaisedQueue$Word" "fact" "I") (.int (bg_w i).2.2.2.2)) := by decide +kernel
theorem bg_ne : ∀ i, i < 22 → ∀ j, j < i → (bg_fl[(bg_pn.getD i []).getD j 0]? = some (Cond.not (.eq (bg_t i) (bg_t j))) ∨ bg_fl[(bg_pn.getD i []).getD j 0]? = some (Cond.not (.eq (bg_t j) (bg_t i)))) := by decide +kernel
theorem bg_la : lw_tbl[596]? = some (Cond.laysStatic "RaisedQueue$Word" "WORDS" "[LRaisedQueue$Word;") := by decide +kernel
theorem bg_in : lw_tbl[136]? = some (Cond.initialized "RaisedQueue$Word") := by decide +kernel
theorem bg_ar : bg_fl[12]? = some (Cond.arrayOf bg_tw (.object "RaisedQueue$Word")) := by decide +kernel
theorem bg_ln : bg_fl[13]? = some (Cond.eq (.length bg_tw) (.int (Int32.ofNat 22))) := by decide +kernel
theorem bg_el : ∀ j, j < 22 → bg_fl[15 + j]? = some (Cond.eq (.elem bg_tw (.int (Int32.ofNat j))) (bg_t j)) := by decide +kernel
theorem bg_ti : lw_tbl[148]? = some (Cond.initialized "java/lang/Throwable") := by decide +kernel
theorem bg_tu : lw_tbl[1269]? = some (Cond.laysStatic "java/lang/Throwable" "UNASSIGNED_STACK" "[Ljava/lang/StackTraceElement;") := by decide +kernel
theorem bg_ts : lw_tbl[1271]? = some (Cond.laysStatic "java/lang/Throwable" "SUPPRESSED_SENTINEL" "Ljava/util/List;") := by decide +kernel
theorem bg_ru : bg_fl[226]? = some (Cond.isRef (.static "java/lang/Throwable" "UNASSIGNED_STACK" "[Ljava/lang/StackTraceElement;")) := by decide +kernel
theorem bg_rs : bg_fl[227]? = some (Cond.isRef (.static "java/lang/Throwable" "SUPPRESSED_SENTINEL" "Ljava/util/List;")) := by decide +kernel
theorem bg_s248 : lw_tbl[1281]? = some (Cond.stringRef "RaisedQueue" 248 "no such place in a heap") := by decide +kernel
theorem bg_x248 : bg_fl[409]? = some (Cond.exactly (.string "RaisedQueue" 248) "java/lang/String") := by decide +kernel
theorem bg_s256 : lw_tbl[1315]? = some (Cond.stringRef "RaisedQueue" 256 "no such item in a heap") := by decide +kernel
theorem bg_x256 : bg_fl[436]? = some (Cond.exactly (.string "RaisedQueue" 256) "java/lang/String") := by decide +kernel
theorem bg_a0 : lw_tbl[248]? = some (Cond.arrayClass .int) := by decide +kernel
theorem bg_a1 : lw_tbl[233]? = some (Cond.arrayClass .long) := by decide +kernel
theorem bg_a2 : lw_tbl[208]? = some (Cond.arrayClass .byte) := by decide +kernel
theorem bg_a3 : lw_tbl[268]? = some (Cond.arrayClass .float) := by decide +kernel
theorem bg_a4 : lw_tbl[1555]? = some (Cond.arrayClass .boolean) := by decide +kernel
theorem bg_a5 : lw_tbl[495]? = some (Cond.arrayOver (.object "RaisedQueue$Forest")) := by decide +kernel
theorem bg_i0 : lw_tbl[393]? = some (Cond.instantiable RX0 16) := by decide +kernel
theorem bg_i1 : lw_tbl[250]? = some (Cond.instantiable RX1 3) := by decide +kernel
theorem bg_i2 : lw_tbl[350]? = some (Cond.instantiable RX2 6) := by decide +kernel
theorem bg_i3 : lw_tbl[216]? = some (Cond.instantiable RX3 2) := by decide +kernel
theorem bg_i4 : lw_tbl[210]? = some (Cond.instantiable RX4 9) := by decide +kernel
theorem bg_i5 : lw_tbl[344]? = some (Cond.instantiable RX5 5) := by decide +kernel
theorem bg_i6 : lw_tbl[235]? = some (Cond.instantiable RX6 1) := by decide +kernel
theorem bg_i7 : lw_tbl[162]? = some (Cond.instantiable RX7 9) := by decide +kernel
theorem bg_i8 : lw_tbl[459]? = some (Cond.instantiable RX8 7) := by decide +kernel
theorem bg_i9 : lw_tbl[317]? = some (Cond.instantiable RX10 4) := by decide +kernel
theorem bg_i10 : lw_tbl[154]? = some (Cond.instantiable RX11 17) := by decide +kernel
theorem bg_i11 : lw_tbl[1327]? = some (Cond.instantiable RX12 25) := by decide +kernel
