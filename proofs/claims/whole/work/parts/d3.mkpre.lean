/-! MAKING THE FIRST WORLD: what the Statement gives of the start (positions printed by wip/whole/mk3.py). -/
abbrev gPre : List Cond := flatC (Cond.and given_1 narrow_1)
def tmS (i : Nat) : Term := .string (cN (if i = 2 then 12 else 4)) (if i = 0 then 79 else if i = 1 then 71 else 95)
def tvS (i : Nat) : Term := .field (tmS i) "java/lang/String" "value" "[B"
def lnF (i : Nat) : Nat := (gStr.getD i []).length
def elS (i j : Nat) : Cond := .eq (.elem (tvS i) (.int (Int32.ofNat j))) (.int (Int32.ofInt (sBy i (j : Int))))
def gPf : List Cond := [.exactly (tmS 0) "java/lang/String", .eq (.field (tmS 0) "java/lang/String" "coder" "B") (.int 0), .arrayOf (tvS 0) .byte, .eq (.length (tvS 0)) (.int (Int32.ofNat (lnF 0))), .exactly (tmS 1) "java/lang/String", .eq (.field (tmS 1) "java/lang/String" "coder" "B") (.int 0), .arrayOf (tvS 1) .byte, .eq (.length (tvS 1)) (.int (Int32.ofNat (lnF 1))), .exactly (tmS 2) "java/lang/String", .eq (.field (tmS 2) "java/lang/String" "coder" "B") (.int 0), .arrayOf (tvS 2) .byte, .eq (.length (tvS 2)) (.int (Int32.ofNat (lnF 2))), .not (.eq (tmS 0) (tmS 1)), .not (.eq (tmS 0) (tmS 2)), .not (.eq (tmS 1) (tmS 2)), .eq (tmS 1) (.string (cN 12) 133), .eq (.static "java/lang/String" "COMPACT_STRINGS" "Z") (.int 1), .isRef (.static "jdk/internal/util/Preconditions" "SIOOBE_FORMATTER" "Ljava/util/function/BiFunction;")]
set_option maxRecDepth 100000 in
set_option maxHeartbeats 4000000 in
theorem ok_Pf : ∀ w ∈ gPf, w ∈ gPre := mem_r _ [48, 49, 50, 51, 120, 121, 122, 123, 137, 138, 139, 140, 136, 210, 211, 229, 4, 5] (by decide +kernel)
theorem gPf_in {w : Cond} (i : Nat) (h : gPf[i]? = some w) : w ∈ gPre := ok_Pf w (List.mem_of_getElem? h)
set_option maxRecDepth 100000 in
set_option maxHeartbeats 4000000 in
theorem ok_Pe0 : ∀ w ∈ (List.range (lnF 0)).map (elS 0), w ∈ gPre := mem_r _ [52, 53, 54, 55, 56, 57, 58, 59, 60, 61, 62, 63, 64, 65, 66, 67, 68, 69, 70, 71, 72, 73, 74, 75, 76, 77, 78, 79, 80, 81, 82, 83, 84, 85, 86, 87, 88, 89, 90, 91, 92, 93, 94, 95, 96, 97, 98, 99, 100, 101, 102, 103, 104, 105, 106, 107, 108, 109, 110, 111, 112, 113, 114, 115, 116, 117, 118, 119] (by decide +kernel)
set_option maxRecDepth 100000 in
set_option maxHeartbeats 4000000 in
theorem ok_Pe1 : ∀ w ∈ (List.range (lnF 1)).map (elS 1), w ∈ gPre := mem_r _ [124, 125, 126, 127, 128, 129, 130, 131, 132, 133, 134, 135] (by decide +kernel)
set_option maxRecDepth 100000 in
set_option maxHeartbeats 4000000 in
theorem ok_Pe2 : ∀ w ∈ (List.range (lnF 2)).map (elS 2), w ∈ gPre := mem_r _ [141, 142, 143, 144, 145, 146, 147, 148, 149, 150, 151, 152, 153, 154, 155, 156, 157, 158, 159, 160, 161, 162, 163, 164, 165, 166, 167, 168, 169, 170, 171, 172, 173, 174, 175, 176, 177, 178, 179, 180, 181, 182, 183, 184, 185, 186, 187, 188, 189, 190, 191, 192, 193, 194, 195, 196, 197, 198, 199, 200, 201, 202, 203, 204, 205, 206, 207, 208, 209] (by decide +kernel)
set_option maxRecDepth 100000 in
theorem ok_St : ∀ w ∈ ([.laysStatic "java/lang/String" "COMPACT_STRINGS" "Z", .initialized "java/lang/String", .laysStatic "jdk/internal/util/Preconditions" "SIOOBE_FORMATTER" "Ljava/util/function/BiFunction;", .initialized "jdk/internal/util/Preconditions"] : List Cond), w ∈ lw_tbl := mem_r _ [698, 140, 714, 142] rfl
