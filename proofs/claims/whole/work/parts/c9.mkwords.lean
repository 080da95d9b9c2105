/-! MAKING THE FIRST WORLD: the words that constructors want of the tables. -/
def gWs0 : List Cond := [.methodLink (cN 6) 3 Lib.objectInit, .instanceMethod Lib.objectInit, .code Lib.objectInit ⟨#[0xb1]⟩ 1 none, .arrayClass (newarray.typeOf .int), fwC (6, 9, 6, 2), fwC (6, 15, 6, 3), fwC (6, 18, 6, 4), .methodLink (cN 3) 3 Lib.objectInit, fwC (3, 9, 3, 0), .arrayClass (newarray.typeOf .long), fwC (3, 15, 3, 1), .methodLink (cN 8) 3 Lib.objectInit, fwC (8, 9, 8, 6), fwC (8, 15, 8, 7), fwC (8, 18, 8, 8), fwC (8, 21, 8, 9), fwC (8, 24, 8, 10), fwC (8, 27, 8, 14), fwC (8, 30, 8, 15), fwC (8, 33, 8, 16)]
set_option maxRecDepth 100000 in
set_option maxHeartbeats 4000000 in
theorem ok_Ws0 : GoodIn lw_tbl gWs0 := goodIn_r _ [543, 155, 156, 285, 554, 561, 564, 586, 587, 474, 591, 168, 198, 200, 204, 207, 214, 232, 235, 238] rfl (by decide +kernel)
def gWs1 : List Cond := [fwC (8, 36, 8, 17), .methodLink (cN 2) 3 Lib.objectInit, fwC (2, 9, 2, 0), fwC (2, 15, 2, 2), .methodLink (cN 0) 3 Lib.objectInit, fwC (0, 9, 0, 1), fwC (0, 15, 0, 2), fwC (0, 18, 0, 3), fwC (0, 21, 0, 4), fwC (0, 24, 0, 5), fwC (0, 27, 0, 6), fwC (0, 30, 0, 11), .methodLink (cN 9) 3 Lib.objectInit, fwC (9, 9, 9, 0), .methodLink (cN 7) 3 Lib.objectInit, fwC (7, 11, 7, 0), fwC (7, 15, 7, 1), fwC (7, 18, 7, 2), fwC (7, 22, 7, 3), .methodLink (cN 5) 3 Lib.objectInit]
set_option maxRecDepth 100000 in
set_option maxHeartbeats 4000000 in
theorem ok_Ws1 : GoodIn lw_tbl gWs1 := goodIn_r _ [241, 338, 339, 343, 359, 362, 364, 366, 368, 370, 371, 376, 440, 441, 451, 452, 453, 454, 455, 480] rfl (by decide +kernel)
def gWs2 : List Cond := [fwC (5, 11, 5, 0), fwC (5, 15, 5, 1), fwC (5, 18, 5, 3), fwC (5, 21, 5, 4), fwC (5, 24, 5, 5), fwC (5, 27, 5, 6), .methodLink (cN 1) 3 Lib.objectInit, fwC (1, 9, 1, 1), fwC (1, 15, 1, 2), fwC (1, 18, 1, 3), fwC (1, 21, 1, 5), .methodLink (cN 10) 3 Lib.objectInit, fwC (10, 11, 10, 2), fwC (10, 15, 10, 3), fwC (10, 18, 10, 4), fwC (10, 21, 10, 5), .classLink (cN 10) 24 ("[" ++ (FieldType.array FieldType.int).toString), .arrayClass .int, fwC (10, 26, 10, 6), .methodLink (cN 4) 3 Lib.objectInit]
set_option maxRecDepth 100000 in
set_option maxHeartbeats 4000000 in
theorem ok_Ws2 : GoodIn lw_tbl gWs2 := goodIn_r _ [481, 483, 486, 487, 488, 489, 510, 513, 515, 517, 519, 407, 414, 416, 417, 418, 408, 285, 419, 162] rfl (by decide +kernel)
def gWs3 : List Cond := [.arrayClass (newarray.typeOf .byte), fwC (4, 9, 4, 0), fwC (4, 15, 4, 3), .classLink (cN 4) 19 (clC 8), .instantiable (clC 8) (clN 8), .initialized (cN 8), .instanceMethod (yI 8), .code (yI 8) (byI 8) 1 none, fwC (4, 22, 4, 4), fwC (4, 26, 4, 5), fwC (4, 30, 4, 6), fwC (4, 33, 4, 7), .methodLink (cN 12) 7 Lib.objectInit, fwC (12, 13, 12, 1), .arrayClass (newarray.typeOf .boolean), fwC (12, 17, 12, 2), fwC (12, 21, 12, 3), fwC (12, 24, 12, 4), fwC (12, 27, 12, 14), fwC (12, 30, 12, 15)]
set_option maxRecDepth 100000 in
set_option maxHeartbeats 4000000 in
theorem ok_Ws3 : GoodIn lw_tbl gWs3 := goodIn_r _ [284, 286, 291, 163, 164, 128, 166, 167, 293, 295, 296, 297, 1521, 1524, 1635, 1525, 1526, 1527, 1537, 1538] rfl (by decide +kernel)
def gWs4 : List Cond := [fwC (12, 33, 12, 16), fwC (12, 36, 12, 19), fwC (12, 39, 12, 20), fwC (12, 42, 12, 21), fwC (12, 45, 12, 22), .constant (cN 12) 48 41984, fwC (12, 49, 12, 23), fwC (12, 52, 12, 24), fwC (12, 55, 12, 25), fwC (12, 58, 12, 26), fwC (12, 61, 12, 27), fwC (12, 64, 12, 28), fwC (12, 67, 12, 29), fwC (12, 70, 12, 30), fwC (12, 73, 12, 31), fwC (12, 76, 12, 32), fwC (12, 79, 12, 34), fwC (12, 82, 12, 35), fwC (12, 85, 12, 36), .methodLink (cN 11) 3 Lib.objectInit]
set_option maxRecDepth 100000 in
set_option maxHeartbeats 4000000 in
theorem ok_Ws4 : GoodIn lw_tbl gWs4 := goodIn_r _ [1539, 1542, 1543, 1544, 1545, 1522, 1546, 1547, 1548, 1549, 1550, 1551, 1552, 1553, 1554, 1555, 1557, 1558, 1559, 154] rfl (by decide +kernel)
def gWs5 : List Cond := [.classLink (cN 11) 9 (clC 4), .instantiable (clC 4) (clN 4), .initialized (cN 4), .instanceMethod (yI 4), .code (yI 4) (byI 4) 1 none, fwC (11, 12, 11, 0), .classLink (cN 11) 16 (clC 2), .instantiable (clC 2) (clN 2), .initialized (cN 2), .instanceMethod (yI 2), .code (yI 2) (byI 2) 1 none, fwC (11, 19, 11, 1), .classLink (cN 11) 23 (clC 0), .instantiable (clC 0) (clN 0), .initialized (cN 0), .instanceMethod (yI 0), .code (yI 0) (byI 0) 1 none, fwC (11, 26, 11, 2), .classLink (cN 11) 30 (clC 10), .instantiable (clC 10) (clN 10)]
set_option maxRecDepth 100000 in
set_option maxHeartbeats 4000000 in
theorem ok_Ws5 : GoodIn lw_tbl gWs5 := goodIn_r _ [157, 158, 127, 160, 161, 603, 333, 334, 129, 336, 337, 604, 354, 355, 130, 357, 358, 605, 402, 403] rfl (by decide +kernel)
def gWs6 : List Cond := [.initialized (cN 10), .instanceMethod (yI 10), .code (yI 10) (byI 10) 1 none, fwC (11, 33, 11, 3), .classLink (cN 11) 37 (clC 9), .instantiable (clC 9) (clN 9), .initialized (cN 9), .instanceMethod (yI 9), .code (yI 9) (byI 9) 1 none, fwC (11, 40, 11, 4), .classLink (cN 11) 44 (clC 7), .instantiable (clC 7) (clN 7), .initialized (cN 7), .instanceMethod (yI 7), .code (yI 7) (byI 7) 1 none, fwC (11, 47, 11, 5), .classLink (cN 11) 51 (clC 5), .instantiable (clC 5) (clN 5), .initialized (cN 5), .instanceMethod (yI 5)]
set_option maxRecDepth 100000 in
set_option maxHeartbeats 4000000 in
theorem ok_Ws6 : GoodIn lw_tbl gWs6 := goodIn_r _ [131, 405, 406, 606, 435, 436, 132, 438, 439, 607, 446, 447, 133, 449, 450, 608, 475, 476, 134, 478] rfl (by decide +kernel)
def gWs7 : List Cond := [.code (yI 5) (byI 5) 1 none, fwC (11, 54, 11, 6), .classLink (cN 11) 58 (clC 1), .instantiable (clC 1) (clN 1), .initialized (cN 1), .instanceMethod (yI 1), .code (yI 1) (byI 1) 1 none, fwC (11, 61, 11, 7), .classLink (cN 11) 65 (clC 8), fwC (11, 68, 11, 8), .classLink (cN 11) 72 (clC 6), .instantiable (clC 6) (clN 6), .initialized (cN 6), .instanceMethod (yI 6), .code (yI 6) (byI 6) 1 none, fwC (11, 75, 11, 9), fwC (11, 79, 11, 10), fwC (11, 82, 11, 11), .classLink (cN 11) 86 (clC 3), fwC (11, 88, 11, 13)]
set_option maxRecDepth 100000 in
set_option maxHeartbeats 4000000 in
theorem ok_Ws7 : GoodIn lw_tbl gWs7 := goodIn_r _ [479, 609, 505, 506, 135, 508, 509, 610, 536, 611, 538, 539, 136, 541, 542, 612, 613, 614, 579, 616] rfl (by decide +kernel)
def gWs8 : List Cond := [fwC (11, 92, 11, 14), fwC (11, 96, 11, 15), .instantiable (clC 3) (clN 3), .initialized (cN 3), .instanceMethod (yI 3), .code (yI 3) (byI 3) 1 none, .instantiable (clC 11) (clN 11), .instantiable (clC 12) (clN 12), .classLink "StringHandsLaw" 7 (clC 11), .methodLink "StringHandsLaw" 9 (yI 11), .initialized (cN 11), .instanceMethod (yI 11), .code (yI 11) (byI 11) 2 none, .classLink "StringHandsLaw" 10 (clC 12), .methodLink "StringHandsLaw" 12 (yI 12), .initialized (cN 12), .instanceMethod (yI 12), .code (yI 12) (byI 12) 1 none]
set_option maxRecDepth 100000 in
set_option maxHeartbeats 4000000 in
theorem ok_Ws8 : GoodIn lw_tbl gWs8 := goodIn_r _ [617, 618, 582, 137, 584, 585, 150, 1517, 149, 151, 126, 152, 153, 1516, 1518, 138, 1519, 1520] rfl (by decide +kernel)
def gWs : List Cond := gWs0 ++ (gWs1 ++ (gWs2 ++ (gWs3 ++ (gWs4 ++ (gWs5 ++ (gWs6 ++ (gWs7 ++ (gWs8))))))))
theorem ok_Ws : GoodIn lw_tbl gWs := goodIn_app ok_Ws0 (goodIn_app ok_Ws1 (goodIn_app ok_Ws2 (goodIn_app ok_Ws3 (goodIn_app ok_Ws4 (goodIn_app ok_Ws5 (goodIn_app ok_Ws6 (goodIn_app ok_Ws7 (ok_Ws8))))))))
theorem gWs_in {w : Cond} (i : Nat) (h : gWs[i]? = some w) : w ∈ TBg := TBg_of ok_Ws w (List.mem_of_getElem? h)
theorem inst_all : ∀ c, c < 13 → Cond.instantiable (clC c) (clN c) ∈ TBg := fun c h => match c, h with
  | 0, _ => gWs_in 113 rfl
  | 1, _ => gWs_in 143 rfl
  | 2, _ => gWs_in 107 rfl
  | 3, _ => gWs_in 162 rfl
  | 4, _ => gWs_in 101 rfl
  | 5, _ => gWs_in 137 rfl
  | 6, _ => gWs_in 151 rfl
  | 7, _ => gWs_in 131 rfl
  | 8, _ => gWs_in 64 rfl
  | 9, _ => gWs_in 125 rfl
  | 10, _ => gWs_in 119 rfl
  | 11, _ => gWs_in 166 rfl
  | 12, _ => gWs_in 167 rfl
  | j + 13, h => absurd h (by omega)
theorem arr_w0 : Cond.arrayClass FieldType.int ∈ TBg := gWs_in 3 rfl
theorem arr_w1 : Cond.arrayClass FieldType.long ∈ TBg := gWs_in 9 rfl
theorem arr_w2 : Cond.arrayClass FieldType.byte ∈ TBg := gWs_in 60 rfl
theorem arr_w3 : Cond.arrayClass FieldType.boolean ∈ TBg := gWs_in 74 rfl
theorem lw_c11 : Cond.classLink "StringHandsLaw" 7 (clC 11) ∈ TBg := gWs_in 168 rfl
theorem lw_m11 : Cond.methodLink "StringHandsLaw" 9 (yI 11) ∈ TBg := gWs_in 169 rfl
theorem lw_i11 : Cond.initialized (cN 11) ∈ TBg := gWs_in 170 rfl
theorem lw_x11 : Cond.instanceMethod (yI 11) ∈ TBg := gWs_in 171 rfl
theorem lw_y11 : Cond.code (yI 11) (byI 11) 2 none ∈ TBg := gWs_in 172 rfl
theorem lw_c12 : Cond.classLink "StringHandsLaw" 10 (clC 12) ∈ TBg := gWs_in 173 rfl
theorem lw_m12 : Cond.methodLink "StringHandsLaw" 12 (yI 12) ∈ TBg := gWs_in 174 rfl
theorem lw_i12 : Cond.initialized (cN 12) ∈ TBg := gWs_in 175 rfl
theorem lw_x12 : Cond.instanceMethod (yI 12) ∈ TBg := gWs_in 176 rfl
theorem lw_y12 : Cond.code (yI 12) (byI 12) 1 none ∈ TBg := gWs_in 177 rfl
set_option maxRecDepth 100000 in
theorem ok_NI : ∀ w ∈ gNI.map niC, w ∈ lw_tbl := mem_r _ [165, 159, 335, 356, 404, 437, 448, 477, 507, 537, 540, 583] rfl
set_option maxRecDepth 100000 in
theorem ok_AO : ∀ w ∈ ([.arrayOver (.object RX6), .arrayOver (.object RX3), .arrayOver (.object RX8), .arrayOver (.array .int)] : List Cond), w ∈ lw_tbl := mem_r _ [578, 580, 581, 409] rfl
