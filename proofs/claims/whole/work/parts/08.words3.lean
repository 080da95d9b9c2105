/-! the fields' words -/
set_option maxRecDepth 100000 in
theorem ok_u0 : GoodIn lw_tbl (u_ws RX0 TX0 12) := goodIn_r _ [377, 379, 381, 383, 385, 387, 389, 391, 393, 395, 397, 399] rfl (by decide +kernel)
set_option maxRecDepth 100000 in
theorem ok_u1 : GoodIn lw_tbl (u_ws RX1 TX1 7) := goodIn_r _ [521, 523, 525, 527, 529, 531, 533] rfl (by decide +kernel)
set_option maxRecDepth 100000 in
theorem ok_u2 : GoodIn lw_tbl (u_ws RX2 TX2 4) := goodIn_r _ [345, 347, 349, 351] rfl (by decide +kernel)
set_option maxRecDepth 100000 in
theorem ok_u3 : GoodIn lw_tbl (u_ws RX3 TX3 3) := goodIn_r _ [596, 598, 600] rfl (by decide +kernel)
set_option maxRecDepth 100000 in
theorem ok_u4 : GoodIn lw_tbl (u_ws RX4 TX4 14) := goodIn_r _ [304, 306, 308, 310, 312, 314, 316, 318, 320, 322, 324, 326, 328, 330] rfl (by decide +kernel)
set_option maxRecDepth 100000 in
theorem ok_u5 : GoodIn lw_tbl (u_ws RX5 TX5 7) := goodIn_r _ [490, 492, 494, 496, 498, 500, 502] rfl (by decide +kernel)
set_option maxRecDepth 100000 in
theorem ok_u6 : GoodIn lw_tbl (u_ws RX6 TX6 5) := goodIn_r _ [567, 569, 571, 573, 575] rfl (by decide +kernel)
set_option maxRecDepth 100000 in
theorem ok_u7 : GoodIn lw_tbl (u_ws RX7 TX7 7) := goodIn_r _ [459, 461, 463, 465, 467, 469, 471] rfl (by decide +kernel)
set_option maxRecDepth 100000 in
theorem ok_u8 : GoodIn lw_tbl (u_ws RX8 TX8 19) := goodIn_r _ [245, 247, 249, 251, 253, 255, 257, 259, 261, 263, 265, 267, 269, 271, 273, 275, 277, 279, 281] rfl (by decide +kernel)
set_option maxRecDepth 100000 in
theorem ok_u9 : GoodIn lw_tbl (u_ws RX9 TX9 1) := goodIn_r _ [443] rfl (by decide +kernel)
set_option maxRecDepth 100000 in
theorem ok_u10 : GoodIn lw_tbl (u_ws RX10 TX10 7) := goodIn_r _ [420, 422, 424, 426, 428, 430, 432] rfl (by decide +kernel)
set_option maxRecDepth 100000 in
theorem ok_u11 : GoodIn lw_tbl (u_ws RX11 TX11 17) := goodIn_r _ [620, 622, 624, 626, 628, 630, 632, 634, 636, 638, 640, 642, 644, 646, 648, 650, 652] rfl (by decide +kernel)
set_option maxRecDepth 100000 in
theorem ok_u12 : GoodIn lw_tbl (u_ws RX12 TX12 37) := goodIn_r _ [1560, 1562, 1564, 1566, 1568, 1570, 1572, 1574, 1576, 1578, 1580, 1582, 1584, 1586, 1588, 1590, 1592, 1594, 1596, 1598, 1600, 1602, 1604, 1606, 1608, 1610, 1612, 1614, 1616, 1618, 1620, 1622, 1624, 1626, 1628, 1630, 1632] rfl (by decide +kernel)
