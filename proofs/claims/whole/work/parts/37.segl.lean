def pm_lcs : List (Nat × List Nat) := [(23, [0, 1, 2, 3, 4]), (224, [0, 1, 2, 3, 4]), (258, [0, 1, 2, 3, 4]), (292, [0, 1, 2, 3, 4]), (297, [0, 1, 2, 3, 4]), (308, [0, 1, 2, 3, 4]), (320, [0, 1, 2, 3, 4, 5]), (326, [0, 1, 2, 3, 4, 5, 6]), (353, [0, 1, 2, 3, 4]), (357, [0, 1, 2, 3, 4]), (361, [0, 1, 2, 3, 4]), (366, [0, 1, 2, 3, 4]), (377, [0, 1, 2, 3, 4]), (389, [0, 1, 2, 3, 4, 5]), (395, [0, 1, 2, 3, 4, 5, 6]), (422, [0, 1, 2, 3, 4]), (439, [0, 1, 2, 3, 4]), (457, [0, 1, 2, 3, 4, 5]), (463, [0, 1, 2, 3, 4, 5, 6]), (490, [0, 1, 2, 3, 4]), (501, [0, 1, 2, 3, 4]), (513, [0, 1, 2, 3, 4, 5]), (519, [0, 1, 2, 3, 4, 5, 6]), (546, [0, 1, 2, 3, 4]), (563, [0, 1, 2, 3, 4]), (581, [0, 1, 2, 3, 4, 5]), (587, [0, 1, 2, 3, 4, 5, 6]), (614, [0, 1, 2, 3, 4]), (631, [0, 1, 2, 3, 4]), (649, [0, 1, 2, 3, 4, 5]), (655, [0, 1, 2, 3, 4, 5, 6]), (682, [0, 1, 2, 3, 4]), (692, [0, 1, 2, 3, 4]), (702, [0, 1, 2, 3, 4]), (707, [0, 1, 2, 3, 4]), (724, [0, 1, 2, 3, 4]), (742, [0, 1, 2, 3, 4, 5]), (748, [0, 1, 2, 3, 4, 5, 6]), (775, [0, 1, 2, 3, 4]), (786, [0, 1, 2, 3, 4]), (798, [0, 1, 2, 3, 4, 5]), (804, [0, 1, 2, 3, 4, 5, 6]), (831, [0, 1, 2, 3, 4]), (842, [0, 1, 2, 3, 4]), (854, [0, 1, 2, 3, 4, 5]), (860, [0, 1, 2, 3, 4, 5, 6]), (887, [0, 1, 2, 3, 4]), (903, [0, 1, 2, 3, 4]), (919, [0, 1, 2, 3, 4]), (924, [0, 1, 2, 3, 4]), (928, [0, 1, 2, 3, 4]), (932, [0, 1, 2, 3, 4]), (937, [0, 1, 2, 3, 4]), (954, [0, 1, 2, 3, 4]), (972, [0, 1, 2, 3, 4, 5]), (978, [0, 1, 2, 3, 4, 5, 6]), (1005, [0, 1, 2, 3, 4]), (1016, [0, 1, 2, 3, 4]), (1028, [0, 1, 2, 3, 4, 5]), (1034, [0, 1, 2, 3, 4, 5, 6]), (1061, [0, 1, 2, 3, 4]), (1072, [0, 1, 2, 3, 4]), (1084, [0, 1, 2, 3, 4, 5]), (1090, [0, 1, 2, 3, 4, 5, 6]), (1117, [0, 1, 2, 3, 4]), (1121, [0, 1, 2, 3, 4]), (1125, [0, 1, 2, 3, 4]), (1130, [0, 1, 2, 3, 4]), (1141, [0, 1, 2, 3, 4]), (1153, [0, 1, 2, 3, 4, 5]), (1159, [0, 1, 2, 3, 4, 5, 6]), (1186, [0, 1, 2, 3, 4]), (1203, [0, 1, 2, 3, 4]), (1221, [0, 1, 2, 3, 4, 5]), (1227, [0, 1, 2, 3, 4, 5, 6]), (1254, [0, 1, 2, 3, 4]), (1265, [0, 1, 2, 3, 4]), (1277, [0, 1, 2, 3, 4, 5]), (1283, [0, 1, 2, 3, 4, 5, 6]), (1310, [0, 1, 2, 3, 4]), (1333, [0, 1, 2, 3, 4]), (1357, [0, 1, 2, 3, 4, 5]), (1363, [0, 1, 2, 3, 4, 5, 6]), (1390, [0, 1, 2, 3, 4]), (1401, [0, 1, 2, 3, 4]), (1413, [0, 1, 2, 3, 4, 5]), (1419, [0, 1, 2, 3, 4, 5, 6]), (1446, [0, 1, 2, 3, 4]), (1483, [0, 1, 2, 3, 4]), (1521, [0, 1, 2, 3, 4, 5]), (1527, [0, 1, 2, 3, 4, 5, 6]), (1554, [0, 1, 2, 3, 4]), (1558, [0, 1, 2, 3, 4]), (1562, [0, 1, 2, 3, 4]), (1565, [0, 1, 2, 3, 4]), (1576, [0, 1, 2, 3, 4]), (1588, [0, 1, 2, 3, 4, 5]), (1594, [0, 1, 2, 3, 4, 5, 6]), (1621, [0, 1, 2, 3, 4]), (1638, [0, 1, 2, 3, 4]), (1656, [0, 1, 2, 3, 4, 5]), (1662, [0, 1, 2, 3, 4, 5, 6]), (1689, [0, 1, 2, 3, 4]), (1700, [0, 1, 2, 3, 4]), (1712, [0, 1, 2, 3, 4, 5]), (1718, [0, 1, 2, 3, 4, 5, 6]), (1745, [0, 1, 2, 3, 4]), (1774, [0, 1, 2, 3, 4]), (1804, [0, 1, 2, 3, 4, 5]), (1810, [0, 1, 2, 3, 4, 5, 6]), (1837, [0, 1, 2, 3, 4]), (1848, [0, 1, 2, 3, 4]), (1860, [0, 1, 2, 3, 4, 5]), (1866, [0, 1, 2, 3, 4, 5, 6]), (1893, [0, 1, 2, 3, 4]), (1916, [0, 1, 2, 3, 4]), (1940, [0, 1, 2, 3, 4, 5]), (1946, [0, 1, 2, 3, 4, 5, 6]), (1973, [0, 1, 2, 3, 4]), (1996, [0, 1, 2, 3, 4]), (2020, [0, 1, 2, 3, 4, 5]), (2026, [0, 1, 2, 3, 4, 5, 6]), (2053, [0, 1, 2, 3, 4]), (2070, [0, 1, 2, 3, 4]), (2088, [0, 1, 2, 3, 4, 5]), (2094, [0, 1, 2, 3, 4, 5, 6]), (2121, [0, 1, 2, 3, 4]), (2138, [0, 1, 2, 3, 4]), (2156, [0, 1, 2, 3, 4, 5]), (2162, [0, 1, 2, 3, 4, 5, 6]), (2189, [0, 1, 2, 3, 4]), (2200, [0, 1, 2, 3, 4]), (2212, [0, 1, 2, 3, 4, 5]), (2218, [0, 1, 2, 3, 4, 5, 6]), (2245, [0, 1, 2, 3, 4]), (2256, [0, 1, 2, 3, 4]), (2268, [0, 1, 2, 3, 4, 5]), (2274, [0, 1, 2, 3, 4, 5, 6]), (2301, [0, 1, 2, 3, 4]), (2312, [0, 1, 2, 3, 4]), (2324, [0, 1, 2, 3, 4, 5]), (2330, [0, 1, 2, 3, 4, 5, 6]), (2357, [0, 1, 2, 3, 4]), (2368, [0, 1, 2, 3, 4]), (2380, [0, 1, 2, 3, 4, 5]), (2386, [0, 1, 2, 3, 4, 5, 6]), (2413, [0, 1, 2, 3, 4]), (2424, [0, 1, 2, 3, 4]), (2436, [0, 1, 2, 3, 4, 5]), (2442, [0, 1, 2, 3, 4, 5, 6]), (2476, [0, 1, 2, 3, 4]), (2480, [0, 1, 2, 3, 4]), (2484, [0, 1, 2, 3, 4]), (2489, [0, 1, 2, 3, 4]), (2493, [0, 1, 2, 3, 4]), (2497, [0, 1, 2, 3, 4]), (2500, [0, 1, 2, 3, 4]), (2504, [0, 1, 2, 3, 4]), (2508, [0, 1, 2, 3, 4]), (2513, [0, 1, 2, 3, 4])]
theorem pm_bt {b : Bool} {A : Prop} (hb : b = true) (a : A) : (bif b then A else False) := by rw [hb]; exact a
theorem pm_lg {c z mc ms : Nat} {b1 b2 : Bool} (hc : c ≤ 600000) (hz : z ≤ 7200000) (h1 : b1 = true) (hm : mc ≤ 1024) (hs : ms ≤ 93034) (h2 : b2 = true) : (b1 && (Nat.ble (c + mc) 601024 && (Nat.ble (z + ms) 7293034 && b2))) = true := by
  rw [h1, h2, Nat.ble_eq_true_of_le (by omega), Nat.ble_eq_true_of_le (by omega)]; rfl
theorem pm_lr {c z : Nat} (hc : c ≤ 600000) (hz : z ≤ 7200000) : (Nat.ble c 601024 && Nat.ble z 7293034) = true := by
  rw [Nat.ble_eq_true_of_le (by omega), Nat.ble_eq_true_of_le (by omega)]; rfl
def t_L_law_23 (d L : Nat) (fz t : Bool) (Q : pm_R → pm_H → Prop) (c z : Nat) (x4 : Int32) (I : Nat → Nat → Int32) (J : Nat → Nat → Int64) : Prop := pm_T (pm_Ev d) 318 Q (23, [(0, .ref 2000000), (1, .ref 0), (2, .ref 85), (3, .ref 117), (4, .int x4)], [], pm_hp L fz t I J, c, z)
def t_L_law_2513 (d L : Nat) (fz t : Bool) (Q : pm_R → pm_H → Prop) (c z : Nat) (x4 : Int32) (I : Nat → Nat → Int32) (J : Nat → Nat → Int64) : Prop := pm_T (pm_Ev d) 318 Q (2513, [(0, .ref 2000000), (1, .ref 0), (2, .ref 85), (3, .ref 117), (4, .int x4)], [], pm_hp L fz t I J, c, z)
def t_L_law_224 (d L : Nat) (fz t : Bool) (Q : pm_R → pm_H → Prop) (c z : Nat) (x4 : Int32) (I : Nat → Nat → Int32) (J : Nat → Nat → Int64) : Prop := pm_T (pm_Ev d) 318 Q (224, [(0, .ref 2000000), (1, .ref 0), (2, .ref 85), (3, .ref 117), (4, .int x4)], [], pm_hp L fz t I J, c, z)
def t_L_law_297 (d L : Nat) (fz t : Bool) (Q : pm_R → pm_H → Prop) (c z : Nat) (x4 : Int32) (I : Nat → Nat → Int32) (J : Nat → Nat → Int64) : Prop := pm_T (pm_Ev d) 318 Q (297, [(0, .ref 2000000), (1, .ref 0), (2, .ref 85), (3, .ref 117), (4, .int x4)], [], pm_hp L fz t I J, c, z)
def t_L_law_353 (d L : Nat) (fz t : Bool) (Q : pm_R → pm_H → Prop) (c z : Nat) (x4 : Int32) (I : Nat → Nat → Int32) (J : Nat → Nat → Int64) : Prop := pm_T (pm_Ev d) 318 Q (353, [(0, .ref 2000000), (1, .ref 0), (2, .ref 85), (3, .ref 117), (4, .int x4)], [], pm_hp L fz t I J, c, z)
def t_L_law_366 (d L : Nat) (fz t : Bool) (Q : pm_R → pm_H → Prop) (c z : Nat) (x4 : Int32) (I : Nat → Nat → Int32) (J : Nat → Nat → Int64) : Prop := pm_T (pm_Ev d) 318 Q (366, [(0, .ref 2000000), (1, .ref 0), (2, .ref 85), (3, .ref 117), (4, .int x4)], [], pm_hp L fz t I J, c, z)
def t_L_law_422 (d L : Nat) (fz t : Bool) (Q : pm_R → pm_H → Prop) (c z : Nat) (x4 : Int32) (I : Nat → Nat → Int32) (J : Nat → Nat → Int64) : Prop := pm_T (pm_Ev d) 318 Q (422, [(0, .ref 2000000), (1, .ref 0), (2, .ref 85), (3, .ref 117), (4, .int x4)], [], pm_hp L fz t I J, c, z)
def t_L_law_490 (d L : Nat) (fz t : Bool) (Q : pm_R → pm_H → Prop) (c z : Nat) (x4 : Int32) (I : Nat → Nat → Int32) (J : Nat → Nat → Int64) : Prop := pm_T (pm_Ev d) 318 Q (490, [(0, .ref 2000000), (1, .ref 0), (2, .ref 85), (3, .ref 117), (4, .int x4)], [], pm_hp L fz t I J, c, z)
def t_L_law_546 (d L : Nat) (fz t : Bool) (Q : pm_R → pm_H → Prop) (c z : Nat) (x4 : Int32) (I : Nat → Nat → Int32) (J : Nat → Nat → Int64) : Prop := pm_T (pm_Ev d) 318 Q (546, [(0, .ref 2000000), (1, .ref 0), (2, .ref 85), (3, .ref 117), (4, .int x4)], [], pm_hp L fz t I J, c, z)
def t_L_law_614 (d L : Nat) (fz t : Bool) (Q : pm_R → pm_H → Prop) (c z : Nat) (x4 : Int32) (I : Nat → Nat → Int32) (J : Nat → Nat → Int64) : Prop := pm_T (pm_Ev d) 318 Q (614, [(0, .ref 2000000), (1, .ref 0), (2, .ref 85), (3, .ref 117), (4, .int x4)], [], pm_hp L fz t I J, c, z)
def t_L_law_682 (d L : Nat) (fz t : Bool) (Q : pm_R → pm_H → Prop) (c z : Nat) (x4 : Int32) (I : Nat → Nat → Int32) (J : Nat → Nat → Int64) : Prop := pm_T (pm_Ev d) 318 Q (682, [(0, .ref 2000000), (1, .ref 0), (2, .ref 85), (3, .ref 117), (4, .int x4)], [], pm_hp L fz t I J, c, z)
def t_L_law_707 (d L : Nat) (fz t : Bool) (Q : pm_R → pm_H → Prop) (c z : Nat) (x4 : Int32) (I : Nat → Nat → Int32) (J : Nat → Nat → Int64) : Prop := pm_T (pm_Ev d) 318 Q (707, [(0, .ref 2000000), (1, .ref 0), (2, .ref 85), (3, .ref 117), (4, .int x4)], [], pm_hp L fz t I J, c, z)
def t_L_law_775 (d L : Nat) (fz t : Bool) (Q : pm_R → pm_H → Prop) (c z : Nat) (x4 : Int32) (I : Nat → Nat → Int32) (J : Nat → Nat → Int64) : Prop := pm_T (pm_Ev d) 318 Q (775, [(0, .ref 2000000), (1, .ref 0), (2, .ref 85), (3, .ref 117), (4, .int x4)], [], pm_hp L fz t I J, c, z)
def t_L_law_831 (d L : Nat) (fz t : Bool) (Q : pm_R → pm_H → Prop) (c z : Nat) (x4 : Int32) (I : Nat → Nat → Int32) (J : Nat → Nat → Int64) : Prop := pm_T (pm_Ev d) 318 Q (831, [(0, .ref 2000000), (1, .ref 0), (2, .ref 85), (3, .ref 117), (4, .int x4)], [], pm_hp L fz t I J, c, z)
def t_L_law_887 (d L : Nat) (fz t : Bool) (Q : pm_R → pm_H → Prop) (c z : Nat) (x4 : Int32) (I : Nat → Nat → Int32) (J : Nat → Nat → Int64) : Prop := pm_T (pm_Ev d) 318 Q (887, [(0, .ref 2000000), (1, .ref 0), (2, .ref 85), (3, .ref 117), (4, .int x4)], [], pm_hp L fz t I J, c, z)
def t_L_law_924 (d L : Nat) (fz t : Bool) (Q : pm_R → pm_H → Prop) (c z : Nat) (x4 : Int32) (I : Nat → Nat → Int32) (J : Nat → Nat → Int64) : Prop := pm_T (pm_Ev d) 318 Q (924, [(0, .ref 2000000), (1, .ref 0), (2, .ref 85), (3, .ref 117), (4, .int x4)], [], pm_hp L fz t I J, c, z)
def t_L_law_937 (d L : Nat) (fz t : Bool) (Q : pm_R → pm_H → Prop) (c z : Nat) (x4 : Int32) (I : Nat → Nat → Int32) (J : Nat → Nat → Int64) : Prop := pm_T (pm_Ev d) 318 Q (937, [(0, .ref 2000000), (1, .ref 0), (2, .ref 85), (3, .ref 117), (4, .int x4)], [], pm_hp L fz t I J, c, z)
def t_L_law_1005 (d L : Nat) (fz t : Bool) (Q : pm_R → pm_H → Prop) (c z : Nat) (x4 : Int32) (I : Nat → Nat → Int32) (J : Nat → Nat → Int64) : Prop := pm_T (pm_Ev d) 318 Q (1005, [(0, .ref 2000000), (1, .ref 0), (2, .ref 85), (3, .ref 117), (4, .int x4)], [], pm_hp L fz t I J, c, z)
def t_L_law_1061 (d L : Nat) (fz t : Bool) (Q : pm_R → pm_H → Prop) (c z : Nat) (x4 : Int32) (I : Nat → Nat → Int32) (J : Nat → Nat → Int64) : Prop := pm_T (pm_Ev d) 318 Q (1061, [(0, .ref 2000000), (1, .ref 0), (2, .ref 85), (3, .ref 117), (4, .int x4)], [], pm_hp L fz t I J, c, z)
def t_L_law_1117 (d L : Nat) (fz t : Bool) (Q : pm_R → pm_H → Prop) (c z : Nat) (x4 : Int32) (I : Nat → Nat → Int32) (J : Nat → Nat → Int64) : Prop := pm_T (pm_Ev d) 318 Q (1117, [(0, .ref 2000000), (1, .ref 0), (2, .ref 85), (3, .ref 117), (4, .int x4)], [], pm_hp L fz t I J, c, z)
def t_L_law_1130 (d L : Nat) (fz t : Bool) (Q : pm_R → pm_H → Prop) (c z : Nat) (x4 : Int32) (I : Nat → Nat → Int32) (J : Nat → Nat → Int64) : Prop := pm_T (pm_Ev d) 318 Q (1130, [(0, .ref 2000000), (1, .ref 0), (2, .ref 85), (3, .ref 117), (4, .int x4)], [], pm_hp L fz t I J, c, z)
def t_L_law_1186 (d L : Nat) (fz t : Bool) (Q : pm_R → pm_H → Prop) (c z : Nat) (x4 : Int32) (I : Nat → Nat → Int32) (J : Nat → Nat → Int64) : Prop := pm_T (pm_Ev d) 318 Q (1186, [(0, .ref 2000000), (1, .ref 0), (2, .ref 85), (3, .ref 117), (4, .int x4)], [], pm_hp L fz t I J, c, z)
def t_L_law_1254 (d L : Nat) (fz t : Bool) (Q : pm_R → pm_H → Prop) (c z : Nat) (x4 : Int32) (I : Nat → Nat → Int32) (J : Nat → Nat → Int64) : Prop := pm_T (pm_Ev d) 318 Q (1254, [(0, .ref 2000000), (1, .ref 0), (2, .ref 85), (3, .ref 117), (4, .int x4)], [], pm_hp L fz t I J, c, z)
def t_L_law_1310 (d L : Nat) (fz t : Bool) (Q : pm_R → pm_H → Prop) (c z : Nat) (x4 : Int32) (I : Nat → Nat → Int32) (J : Nat → Nat → Int64) : Prop := pm_T (pm_Ev d) 318 Q (1310, [(0, .ref 2000000), (1, .ref 0), (2, .ref 85), (3, .ref 117), (4, .int x4)], [], pm_hp L fz t I J, c, z)
def t_L_law_1390 (d L : Nat) (fz t : Bool) (Q : pm_R → pm_H → Prop) (c z : Nat) (x4 : Int32) (I : Nat → Nat → Int32) (J : Nat → Nat → Int64) : Prop := pm_T (pm_Ev d) 318 Q (1390, [(0, .ref 2000000), (1, .ref 0), (2, .ref 85), (3, .ref 117), (4, .int x4)], [], pm_hp L fz t I J, c, z)
def t_L_law_1446 (d L : Nat) (fz t : Bool) (Q : pm_R → pm_H → Prop) (c z : Nat) (x4 : Int32) (I : Nat → Nat → Int32) (J : Nat → Nat → Int64) : Prop := pm_T (pm_Ev d) 318 Q (1446, [(0, .ref 2000000), (1, .ref 0), (2, .ref 85), (3, .ref 117), (4, .int x4)], [], pm_hp L fz t I J, c, z)
def t_L_law_1554 (d L : Nat) (fz t : Bool) (Q : pm_R → pm_H → Prop) (c z : Nat) (x4 : Int32) (I : Nat → Nat → Int32) (J : Nat → Nat → Int64) : Prop := pm_T (pm_Ev d) 318 Q (1554, [(0, .ref 2000000), (1, .ref 0), (2, .ref 85), (3, .ref 117), (4, .int x4)], [], pm_hp L fz t I J, c, z)
def t_L_law_1565 (d L : Nat) (fz t : Bool) (Q : pm_R → pm_H → Prop) (c z : Nat) (x4 : Int32) (I : Nat → Nat → Int32) (J : Nat → Nat → Int64) : Prop := pm_T (pm_Ev d) 318 Q (1565, [(0, .ref 2000000), (1, .ref 0), (2, .ref 85), (3, .ref 117), (4, .int x4)], [], pm_hp L fz t I J, c, z)
def t_L_law_1621 (d L : Nat) (fz t : Bool) (Q : pm_R → pm_H → Prop) (c z : Nat) (x4 : Int32) (I : Nat → Nat → Int32) (J : Nat → Nat → Int64) : Prop := pm_T (pm_Ev d) 318 Q (1621, [(0, .ref 2000000), (1, .ref 0), (2, .ref 85), (3, .ref 117), (4, .int x4)], [], pm_hp L fz t I J, c, z)
def t_L_law_1689 (d L : Nat) (fz t : Bool) (Q : pm_R → pm_H → Prop) (c z : Nat) (x4 : Int32) (I : Nat → Nat → Int32) (J : Nat → Nat → Int64) : Prop := pm_T (pm_Ev d) 318 Q (1689, [(0, .ref 2000000), (1, .ref 0), (2, .ref 85), (3, .ref 117), (4, .int x4)], [], pm_hp L fz t I J, c, z)
def t_L_law_1745 (d L : Nat) (fz t : Bool) (Q : pm_R → pm_H → Prop) (c z : Nat) (x4 : Int32) (I : Nat → Nat → Int32) (J : Nat → Nat → Int64) : Prop := pm_T (pm_Ev d) 318 Q (1745, [(0, .ref 2000000), (1, .ref 0), (2, .ref 85), (3, .ref 117), (4, .int x4)], [], pm_hp L fz t I J, c, z)
def t_L_law_1837 (d L : Nat) (fz t : Bool) (Q : pm_R → pm_H → Prop) (c z : Nat) (x4 : Int32) (I : Nat → Nat → Int32) (J : Nat → Nat → Int64) : Prop := pm_T (pm_Ev d) 318 Q (1837, [(0, .ref 2000000), (1, .ref 0), (2, .ref 85), (3, .ref 117), (4, .int x4)], [], pm_hp L fz t I J, c, z)
def t_L_law_1893 (d L : Nat) (fz t : Bool) (Q : pm_R → pm_H → Prop) (c z : Nat) (x4 : Int32) (I : Nat → Nat → Int32) (J : Nat → Nat → Int64) : Prop := pm_T (pm_Ev d) 318 Q (1893, [(0, .ref 2000000), (1, .ref 0), (2, .ref 85), (3, .ref 117), (4, .int x4)], [], pm_hp L fz t I J, c, z)
def t_L_law_1973 (d L : Nat) (fz t : Bool) (Q : pm_R → pm_H → Prop) (c z : Nat) (x4 : Int32) (I : Nat → Nat → Int32) (J : Nat → Nat → Int64) : Prop := pm_T (pm_Ev d) 318 Q (1973, [(0, .ref 2000000), (1, .ref 0), (2, .ref 85), (3, .ref 117), (4, .int x4)], [], pm_hp L fz t I J, c, z)
def t_L_law_2053 (d L : Nat) (fz t : Bool) (Q : pm_R → pm_H → Prop) (c z : Nat) (x4 : Int32) (I : Nat → Nat → Int32) (J : Nat → Nat → Int64) : Prop := pm_T (pm_Ev d) 318 Q (2053, [(0, .ref 2000000), (1, .ref 0), (2, .ref 85), (3, .ref 117), (4, .int x4)], [], pm_hp L fz t I J, c, z)
def t_L_law_2121 (d L : Nat) (fz t : Bool) (Q : pm_R → pm_H → Prop) (c z : Nat) (x4 : Int32) (I : Nat → Nat → Int32) (J : Nat → Nat → Int64) : Prop := pm_T (pm_Ev d) 318 Q (2121, [(0, .ref 2000000), (1, .ref 0), (2, .ref 85), (3, .ref 117), (4, .int x4)], [], pm_hp L fz t I J, c, z)
def t_L_law_2189 (d L : Nat) (fz t : Bool) (Q : pm_R → pm_H → Prop) (c z : Nat) (x4 : Int32) (I : Nat → Nat → Int32) (J : Nat → Nat → Int64) : Prop := pm_T (pm_Ev d) 318 Q (2189, [(0, .ref 2000000), (1, .ref 0), (2, .ref 85), (3, .ref 117), (4, .int x4)], [], pm_hp L fz t I J, c, z)
def t_L_law_2245 (d L : Nat) (fz t : Bool) (Q : pm_R → pm_H → Prop) (c z : Nat) (x4 : Int32) (I : Nat → Nat → Int32) (J : Nat → Nat → Int64) : Prop := pm_T (pm_Ev d) 318 Q (2245, [(0, .ref 2000000), (1, .ref 0), (2, .ref 85), (3, .ref 117), (4, .int x4)], [], pm_hp L fz t I J, c, z)
def t_L_law_2301 (d L : Nat) (fz t : Bool) (Q : pm_R → pm_H → Prop) (c z : Nat) (x4 : Int32) (I : Nat → Nat → Int32) (J : Nat → Nat → Int64) : Prop := pm_T (pm_Ev d) 318 Q (2301, [(0, .ref 2000000), (1, .ref 0), (2, .ref 85), (3, .ref 117), (4, .int x4)], [], pm_hp L fz t I J, c, z)
def t_L_law_2357 (d L : Nat) (fz t : Bool) (Q : pm_R → pm_H → Prop) (c z : Nat) (x4 : Int32) (I : Nat → Nat → Int32) (J : Nat → Nat → Int64) : Prop := pm_T (pm_Ev d) 318 Q (2357, [(0, .ref 2000000), (1, .ref 0), (2, .ref 85), (3, .ref 117), (4, .int x4)], [], pm_hp L fz t I J, c, z)
def t_L_law_2413 (d L : Nat) (fz t : Bool) (Q : pm_R → pm_H → Prop) (c z : Nat) (x4 : Int32) (I : Nat → Nat → Int32) (J : Nat → Nat → Int64) : Prop := pm_T (pm_Ev d) 318 Q (2413, [(0, .ref 2000000), (1, .ref 0), (2, .ref 85), (3, .ref 117), (4, .int x4)], [], pm_hp L fz t I J, c, z)
def t_L_law_2476 (d L : Nat) (fz t : Bool) (Q : pm_R → pm_H → Prop) (c z : Nat) (x4 : Int32) (I : Nat → Nat → Int32) (J : Nat → Nat → Int64) : Prop := pm_T (pm_Ev d) 318 Q (2476, [(0, .ref 2000000), (1, .ref 0), (2, .ref 85), (3, .ref 117), (4, .int x4)], [], pm_hp L fz t I J, c, z)
def t_L_law_2489 (d L : Nat) (fz t : Bool) (Q : pm_R → pm_H → Prop) (c z : Nat) (x4 : Int32) (I : Nat → Nat → Int32) (J : Nat → Nat → Int64) : Prop := pm_T (pm_Ev d) 318 Q (2489, [(0, .ref 2000000), (1, .ref 0), (2, .ref 85), (3, .ref 117), (4, .int x4)], [], pm_hp L fz t I J, c, z)
def t_L_law_2500 (d L : Nat) (fz t : Bool) (Q : pm_R → pm_H → Prop) (c z : Nat) (x4 : Int32) (I : Nat → Nat → Int32) (J : Nat → Nat → Int64) : Prop := pm_T (pm_Ev d) 318 Q (2500, [(0, .ref 2000000), (1, .ref 0), (2, .ref 85), (3, .ref 117), (4, .int x4)], [], pm_hp L fz t I J, c, z)
def t_L_law_258 (d L : Nat) (fz t : Bool) (Q : pm_R → pm_H → Prop) (c z : Nat) (x4 : Int32) (r : Int32) (I : Nat → Nat → Int32) (J : Nat → Nat → Int64) : Prop := pm_T (pm_Ev d) 318 Q (258, [(0, .ref 2000000), (1, .ref 0), (2, .ref 85), (3, .ref 117), (4, .int x4)], [.int r], pm_hp L fz t I J, c, z)
def K_L_law_258 (d : Nat) (fz t : Bool) (Q : pm_R → pm_H → Prop) (c z : Nat) (x4 : Int32) : pm_R → pm_H → Prop := pm_K d 318 Q 258 [(0, .ref 2000000), (1, .ref 0), (2, .ref 85), (3, .ref 117), (4, .int x4)] [] 118 0 fz c z
def t_L_law_308 (d L : Nat) (fz t : Bool) (Q : pm_R → pm_H → Prop) (c z : Nat) (x4 : Int32) (r : Int32) (I : Nat → Nat → Int32) (J : Nat → Nat → Int64) : Prop := pm_T (pm_Ev d) 318 Q (308, [(0, .ref 2000000), (1, .ref 0), (2, .ref 85), (3, .ref 117), (4, .int x4)], [.int r], pm_hp L fz t I J, c, z)
def K_L_law_308 (d : Nat) (fz t : Bool) (Q : pm_R → pm_H → Prop) (c z : Nat) (x4 : Int32) : pm_R → pm_H → Prop := pm_K d 318 Q 308 [(0, .ref 2000000), (1, .ref 0), (2, .ref 85), (3, .ref 117), (4, .int x4)] [] 118 4 fz c z
def t_L_law_357 (d L : Nat) (fz t : Bool) (Q : pm_R → pm_H → Prop) (c z : Nat) (x4 : Int32) (r : Int32) (I : Nat → Nat → Int32) (J : Nat → Nat → Int64) : Prop := pm_T (pm_Ev d) 318 Q (357, [(0, .ref 2000000), (1, .ref 0), (2, .ref 85), (3, .ref 117), (4, .int x4)], [.int r], pm_hp L fz t I J, c, z)
def K_L_law_357 (d : Nat) (fz t : Bool) (Q : pm_R → pm_H → Prop) (c z : Nat) (x4 : Int32) : pm_R → pm_H → Prop := pm_K d 318 Q 357 [(0, .ref 2000000), (1, .ref 0), (2, .ref 85), (3, .ref 117), (4, .int x4)] [] 118 0 fz c z
def t_L_law_377 (d L : Nat) (fz t : Bool) (Q : pm_R → pm_H → Prop) (c z : Nat) (x4 : Int32) (r : Int32) (I : Nat → Nat → Int32) (J : Nat → Nat → Int64) : Prop := pm_T (pm_Ev d) 318 Q (377, [(0, .ref 2000000), (1, .ref 0), (2, .ref 85), (3, .ref 117), (4, .int x4)], [.int r], pm_hp L fz t I J, c, z)
def K_L_law_377 (d : Nat) (fz t : Bool) (Q : pm_R → pm_H → Prop) (c z : Nat) (x4 : Int32) : pm_R → pm_H → Prop := pm_K d 318 Q 377 [(0, .ref 2000000), (1, .ref 0), (2, .ref 85), (3, .ref 117), (4, .int x4)] [] 118 4 fz c z
def t_L_law_439 (d L : Nat) (fz t : Bool) (Q : pm_R → pm_H → Prop) (c z : Nat) (x4 : Int32) (r : Int32) (I : Nat → Nat → Int32) (J : Nat → Nat → Int64) : Prop := pm_T (pm_Ev d) 318 Q (439, [(0, .ref 2000000), (1, .ref 0), (2, .ref 85), (3, .ref 117), (4, .int x4)], [.int r], pm_hp L fz t I J, c, z)
def K_L_law_439 (d : Nat) (fz t : Bool) (Q : pm_R → pm_H → Prop) (c z : Nat) (x4 : Int32) : pm_R → pm_H → Prop := pm_K d 318 Q 439 [(0, .ref 2000000), (1, .ref 0), (2, .ref 85), (3, .ref 117), (4, .int x4)] [] 118 4 fz c z
def t_L_law_501 (d L : Nat) (fz t : Bool) (Q : pm_R → pm_H → Prop) (c z : Nat) (x4 : Int32) (r : Int32) (I : Nat → Nat → Int32) (J : Nat → Nat → Int64) : Prop := pm_T (pm_Ev d) 318 Q (501, [(0, .ref 2000000), (1, .ref 0), (2, .ref 85), (3, .ref 117), (4, .int x4)], [.int r], pm_hp L fz t I J, c, z)
def K_L_law_501 (d : Nat) (fz t : Bool) (Q : pm_R → pm_H → Prop) (c z : Nat) (x4 : Int32) : pm_R → pm_H → Prop := pm_K d 318 Q 501 [(0, .ref 2000000), (1, .ref 0), (2, .ref 85), (3, .ref 117), (4, .int x4)] [] 118 4 fz c z
def t_L_law_563 (d L : Nat) (fz t : Bool) (Q : pm_R → pm_H → Prop) (c z : Nat) (x4 : Int32) (r : Int32) (I : Nat → Nat → Int32) (J : Nat → Nat → Int64) : Prop := pm_T (pm_Ev d) 318 Q (563, [(0, .ref 2000000), (1, .ref 0), (2, .ref 85), (3, .ref 117), (4, .int x4)], [.int r], pm_hp L fz t I J, c, z)
def K_L_law_563 (d : Nat) (fz t : Bool) (Q : pm_R → pm_H → Prop) (c z : Nat) (x4 : Int32) : pm_R → pm_H → Prop := pm_K d 318 Q 563 [(0, .ref 2000000), (1, .ref 0), (2, .ref 85), (3, .ref 117), (4, .int x4)] [] 118 4 fz c z
def t_L_law_631 (d L : Nat) (fz t : Bool) (Q : pm_R → pm_H → Prop) (c z : Nat) (x4 : Int32) (r : Int32) (I : Nat → Nat → Int32) (J : Nat → Nat → Int64) : Prop := pm_T (pm_Ev d) 318 Q (631, [(0, .ref 2000000), (1, .ref 0), (2, .ref 85), (3, .ref 117), (4, .int x4)], [.int r], pm_hp L fz t I J, c, z)
def K_L_law_631 (d : Nat) (fz t : Bool) (Q : pm_R → pm_H → Prop) (c z : Nat) (x4 : Int32) : pm_R → pm_H → Prop := pm_K d 318 Q 631 [(0, .ref 2000000), (1, .ref 0), (2, .ref 85), (3, .ref 117), (4, .int x4)] [] 118 4 fz c z
def t_L_law_692 (d L : Nat) (fz t : Bool) (Q : pm_R → pm_H → Prop) (c z : Nat) (x4 : Int32) (r : Int32) (I : Nat → Nat → Int32) (J : Nat → Nat → Int64) : Prop := pm_T (pm_Ev d) 318 Q (692, [(0, .ref 2000000), (1, .ref 0), (2, .ref 85), (3, .ref 117), (4, .int x4)], [.int r], pm_hp L fz t I J, c, z)
def K_L_law_692 (d : Nat) (fz t : Bool) (Q : pm_R → pm_H → Prop) (c z : Nat) (x4 : Int32) : pm_R → pm_H → Prop := pm_K d 318 Q 692 [(0, .ref 2000000), (1, .ref 0), (2, .ref 85), (3, .ref 117), (4, .int x4)] [] 118 0 fz c z
def t_L_law_724 (d L : Nat) (fz t : Bool) (Q : pm_R → pm_H → Prop) (c z : Nat) (x4 : Int32) (r : Int32) (I : Nat → Nat → Int32) (J : Nat → Nat → Int64) : Prop := pm_T (pm_Ev d) 318 Q (724, [(0, .ref 2000000), (1, .ref 0), (2, .ref 85), (3, .ref 117), (4, .int x4)], [.int r], pm_hp L fz t I J, c, z)
def K_L_law_724 (d : Nat) (fz t : Bool) (Q : pm_R → pm_H → Prop) (c z : Nat) (x4 : Int32) : pm_R → pm_H → Prop := pm_K d 318 Q 724 [(0, .ref 2000000), (1, .ref 0), (2, .ref 85), (3, .ref 117), (4, .int x4)] [] 118 4 fz c z
def t_L_law_786 (d L : Nat) (fz t : Bool) (Q : pm_R → pm_H → Prop) (c z : Nat) (x4 : Int32) (r : Int32) (I : Nat → Nat → Int32) (J : Nat → Nat → Int64) : Prop := pm_T (pm_Ev d) 318 Q (786, [(0, .ref 2000000), (1, .ref 0), (2, .ref 85), (3, .ref 117), (4, .int x4)], [.int r], pm_hp L fz t I J, c, z)
def K_L_law_786 (d : Nat) (fz t : Bool) (Q : pm_R → pm_H → Prop) (c z : Nat) (x4 : Int32) : pm_R → pm_H → Prop := pm_K d 318 Q 786 [(0, .ref 2000000), (1, .ref 0), (2, .ref 85), (3, .ref 117), (4, .int x4)] [] 118 4 fz c z
def t_L_law_842 (d L : Nat) (fz t : Bool) (Q : pm_R → pm_H → Prop) (c z : Nat) (x4 : Int32) (r : Int32) (I : Nat → Nat → Int32) (J : Nat → Nat → Int64) : Prop := pm_T (pm_Ev d) 318 Q (842, [(0, .ref 2000000), (1, .ref 0), (2, .ref 85), (3, .ref 117), (4, .int x4)], [.int r], pm_hp L fz t I J, c, z)
def K_L_law_842 (d : Nat) (fz t : Bool) (Q : pm_R → pm_H → Prop) (c z : Nat) (x4 : Int32) : pm_R → pm_H → Prop := pm_K d 318 Q 842 [(0, .ref 2000000), (1, .ref 0), (2, .ref 85), (3, .ref 117), (4, .int x4)] [] 118 4 fz c z
def t_L_law_903 (d L : Nat) (fz t : Bool) (Q : pm_R → pm_H → Prop) (c z : Nat) (x4 : Int32) (r : Int32) (I : Nat → Nat → Int32) (J : Nat → Nat → Int64) : Prop := pm_T (pm_Ev d) 318 Q (903, [(0, .ref 2000000), (1, .ref 0), (2, .ref 85), (3, .ref 117), (4, .int x4)], [.int r], pm_hp L fz t I J, c, z)
def K_L_law_903 (d : Nat) (fz t : Bool) (Q : pm_R → pm_H → Prop) (c z : Nat) (x4 : Int32) : pm_R → pm_H → Prop := pm_K d 318 Q 903 [(0, .ref 2000000), (1, .ref 0), (2, .ref 85), (3, .ref 117), (4, .int x4)] [] 118 0 fz c z
def t_L_law_928 (d L : Nat) (fz t : Bool) (Q : pm_R → pm_H → Prop) (c z : Nat) (x4 : Int32) (r : Int32) (I : Nat → Nat → Int32) (J : Nat → Nat → Int64) : Prop := pm_T (pm_Ev d) 318 Q (928, [(0, .ref 2000000), (1, .ref 0), (2, .ref 85), (3, .ref 117), (4, .int x4)], [.int r], pm_hp L fz t I J, c, z)
def K_L_law_928 (d : Nat) (fz t : Bool) (Q : pm_R → pm_H → Prop) (c z : Nat) (x4 : Int32) : pm_R → pm_H → Prop := pm_K d 318 Q 928 [(0, .ref 2000000), (1, .ref 0), (2, .ref 85), (3, .ref 117), (4, .int x4)] [] 118 0 fz c z
def t_L_law_954 (d L : Nat) (fz t : Bool) (Q : pm_R → pm_H → Prop) (c z : Nat) (x4 : Int32) (r : Int32) (I : Nat → Nat → Int32) (J : Nat → Nat → Int64) : Prop := pm_T (pm_Ev d) 318 Q (954, [(0, .ref 2000000), (1, .ref 0), (2, .ref 85), (3, .ref 117), (4, .int x4)], [.int r], pm_hp L fz t I J, c, z)
def K_L_law_954 (d : Nat) (fz t : Bool) (Q : pm_R → pm_H → Prop) (c z : Nat) (x4 : Int32) : pm_R → pm_H → Prop := pm_K d 318 Q 954 [(0, .ref 2000000), (1, .ref 0), (2, .ref 85), (3, .ref 117), (4, .int x4)] [] 118 4 fz c z
def t_L_law_1016 (d L : Nat) (fz t : Bool) (Q : pm_R → pm_H → Prop) (c z : Nat) (x4 : Int32) (r : Int32) (I : Nat → Nat → Int32) (J : Nat → Nat → Int64) : Prop := pm_T (pm_Ev d) 318 Q (1016, [(0, .ref 2000000), (1, .ref 0), (2, .ref 85), (3, .ref 117), (4, .int x4)], [.int r], pm_hp L fz t I J, c, z)
def K_L_law_1016 (d : Nat) (fz t : Bool) (Q : pm_R → pm_H → Prop) (c z : Nat) (x4 : Int32) : pm_R → pm_H → Prop := pm_K d 318 Q 1016 [(0, .ref 2000000), (1, .ref 0), (2, .ref 85), (3, .ref 117), (4, .int x4)] [] 118 4 fz c z
def t_L_law_1072 (d L : Nat) (fz t : Bool) (Q : pm_R → pm_H → Prop) (c z : Nat) (x4 : Int32) (r : Int32) (I : Nat → Nat → Int32) (J : Nat → Nat → Int64) : Prop := pm_T (pm_Ev d) 318 Q (1072, [(0, .ref 2000000), (1, .ref 0), (2, .ref 85), (3, .ref 117), (4, .int x4)], [.int r], pm_hp L fz t I J, c, z)
def K_L_law_1072 (d : Nat) (fz t : Bool) (Q : pm_R → pm_H → Prop) (c z : Nat) (x4 : Int32) : pm_R → pm_H → Prop := pm_K d 318 Q 1072 [(0, .ref 2000000), (1, .ref 0), (2, .ref 85), (3, .ref 117), (4, .int x4)] [] 118 4 fz c z
def t_L_law_1121 (d L : Nat) (fz t : Bool) (Q : pm_R → pm_H → Prop) (c z : Nat) (x4 : Int32) (r : Int32) (I : Nat → Nat → Int32) (J : Nat → Nat → Int64) : Prop := pm_T (pm_Ev d) 318 Q (1121, [(0, .ref 2000000), (1, .ref 0), (2, .ref 85), (3, .ref 117), (4, .int x4)], [.int r], pm_hp L fz t I J, c, z)
def K_L_law_1121 (d : Nat) (fz t : Bool) (Q : pm_R → pm_H → Prop) (c z : Nat) (x4 : Int32) : pm_R → pm_H → Prop := pm_K d 318 Q 1121 [(0, .ref 2000000), (1, .ref 0), (2, .ref 85), (3, .ref 117), (4, .int x4)] [] 118 0 fz c z
def t_L_law_1141 (d L : Nat) (fz t : Bool) (Q : pm_R → pm_H → Prop) (c z : Nat) (x4 : Int32) (r : Int32) (I : Nat → Nat → Int32) (J : Nat → Nat → Int64) : Prop := pm_T (pm_Ev d) 318 Q (1141, [(0, .ref 2000000), (1, .ref 0), (2, .ref 85), (3, .ref 117), (4, .int x4)], [.int r], pm_hp L fz t I J, c, z)
def K_L_law_1141 (d : Nat) (fz t : Bool) (Q : pm_R → pm_H → Prop) (c z : Nat) (x4 : Int32) : pm_R → pm_H → Prop := pm_K d 318 Q 1141 [(0, .ref 2000000), (1, .ref 0), (2, .ref 85), (3, .ref 117), (4, .int x4)] [] 118 4 fz c z
def t_L_law_1203 (d L : Nat) (fz t : Bool) (Q : pm_R → pm_H → Prop) (c z : Nat) (x4 : Int32) (r : Int32) (I : Nat → Nat → Int32) (J : Nat → Nat → Int64) : Prop := pm_T (pm_Ev d) 318 Q (1203, [(0, .ref 2000000), (1, .ref 0), (2, .ref 85), (3, .ref 117), (4, .int x4)], [.int r], pm_hp L fz t I J, c, z)
def K_L_law_1203 (d : Nat) (fz t : Bool) (Q : pm_R → pm_H → Prop) (c z : Nat) (x4 : Int32) : pm_R → pm_H → Prop := pm_K d 318 Q 1203 [(0, .ref 2000000), (1, .ref 0), (2, .ref 85), (3, .ref 117), (4, .int x4)] [] 118 4 fz c z
def t_L_law_1265 (d L : Nat) (fz t : Bool) (Q : pm_R → pm_H → Prop) (c z : Nat) (x4 : Int32) (r : Int32) (I : Nat → Nat → Int32) (J : Nat → Nat → Int64) : Prop := pm_T (pm_Ev d) 318 Q (1265, [(0, .ref 2000000), (1, .ref 0), (2, .ref 85), (3, .ref 117), (4, .int x4)], [.int r], pm_hp L fz t I J, c, z)
def K_L_law_1265 (d : Nat) (fz t : Bool) (Q : pm_R → pm_H → Prop) (c z : Nat) (x4 : Int32) : pm_R → pm_H → Prop := pm_K d 318 Q 1265 [(0, .ref 2000000), (1, .ref 0), (2, .ref 85), (3, .ref 117), (4, .int x4)] [] 118 4 fz c z
def t_L_law_1333 (d L : Nat) (fz t : Bool) (Q : pm_R → pm_H → Prop) (c z : Nat) (x4 : Int32) (r : Int32) (I : Nat → Nat → Int32) (J : Nat → Nat → Int64) : Prop := pm_T (pm_Ev d) 318 Q (1333, [(0, .ref 2000000), (1, .ref 0), (2, .ref 85), (3, .ref 117), (4, .int x4)], [.int r], pm_hp L fz t I J, c, z)
def K_L_law_1333 (d : Nat) (fz t : Bool) (Q : pm_R → pm_H → Prop) (c z : Nat) (x4 : Int32) : pm_R → pm_H → Prop := pm_K d 318 Q 1333 [(0, .ref 2000000), (1, .ref 0), (2, .ref 85), (3, .ref 117), (4, .int x4)] [] 118 4 fz c z
def t_L_law_1401 (d L : Nat) (fz t : Bool) (Q : pm_R → pm_H → Prop) (c z : Nat) (x4 : Int32) (r : Int32) (I : Nat → Nat → Int32) (J : Nat → Nat → Int64) : Prop := pm_T (pm_Ev d) 318 Q (1401, [(0, .ref 2000000), (1, .ref 0), (2, .ref 85), (3, .ref 117), (4, .int x4)], [.int r], pm_hp L fz t I J, c, z)
def K_L_law_1401 (d : Nat) (fz t : Bool) (Q : pm_R → pm_H → Prop) (c z : Nat) (x4 : Int32) : pm_R → pm_H → Prop := pm_K d 318 Q 1401 [(0, .ref 2000000), (1, .ref 0), (2, .ref 85), (3, .ref 117), (4, .int x4)] [] 118 4 fz c z
def t_L_law_1483 (d L : Nat) (fz t : Bool) (Q : pm_R → pm_H → Prop) (c z : Nat) (x4 : Int32) (r : Int32) (I : Nat → Nat → Int32) (J : Nat → Nat → Int64) : Prop := pm_T (pm_Ev d) 318 Q (1483, [(0, .ref 2000000), (1, .ref 0), (2, .ref 85), (3, .ref 117), (4, .int x4)], [.int r], pm_hp L fz t I J, c, z)
def K_L_law_1483 (d : Nat) (fz t : Bool) (Q : pm_R → pm_H → Prop) (c z : Nat) (x4 : Int32) : pm_R → pm_H → Prop := pm_K d 318 Q 1483 [(0, .ref 2000000), (1, .ref 0), (2, .ref 85), (3, .ref 117), (4, .int x4)] [] 118 4 fz c z
def t_L_law_1558 (d L : Nat) (fz t : Bool) (Q : pm_R → pm_H → Prop) (c z : Nat) (x4 : Int32) (I : Nat → Nat → Int32) (J : Nat → Nat → Int64) : Prop := pm_T (pm_Ev d) 318 Q (1558, [(0, .ref 2000000), (1, .ref 0), (2, .ref 85), (3, .ref 117), (4, .int x4)], [], pm_hp L fz t I J, c, z)
def K_L_law_1558 (d : Nat) (fz t : Bool) (Q : pm_R → pm_H → Prop) (c z : Nat) (x4 : Int32) : pm_R → pm_H → Prop := pm_K d 318 Q 1558 [(0, .ref 2000000), (1, .ref 0), (2, .ref 85), (3, .ref 117), (4, .int x4)] [] 118 0 fz c z
def t_L_law_1576 (d L : Nat) (fz t : Bool) (Q : pm_R → pm_H → Prop) (c z : Nat) (x4 : Int32) (r : Int32) (I : Nat → Nat → Int32) (J : Nat → Nat → Int64) : Prop := pm_T (pm_Ev d) 318 Q (1576, [(0, .ref 2000000), (1, .ref 0), (2, .ref 85), (3, .ref 117), (4, .int x4)], [.int r], pm_hp L fz t I J, c, z)
def K_L_law_1576 (d : Nat) (fz t : Bool) (Q : pm_R → pm_H → Prop) (c z : Nat) (x4 : Int32) : pm_R → pm_H → Prop := pm_K d 318 Q 1576 [(0, .ref 2000000), (1, .ref 0), (2, .ref 85), (3, .ref 117), (4, .int x4)] [] 118 4 fz c z
def t_L_law_1638 (d L : Nat) (fz t : Bool) (Q : pm_R → pm_H → Prop) (c z : Nat) (x4 : Int32) (r : Int32) (I : Nat → Nat → Int32) (J : Nat → Nat → Int64) : Prop := pm_T (pm_Ev d) 318 Q (1638, [(0, .ref 2000000), (1, .ref 0), (2, .ref 85), (3, .ref 117), (4, .int x4)], [.int r], pm_hp L fz t I J, c, z)
def K_L_law_1638 (d : Nat) (fz t : Bool) (Q : pm_R → pm_H → Prop) (c z : Nat) (x4 : Int32) : pm_R → pm_H → Prop := pm_K d 318 Q 1638 [(0, .ref 2000000), (1, .ref 0), (2, .ref 85), (3, .ref 117), (4, .int x4)] [] 118 4 fz c z
def t_L_law_1700 (d L : Nat) (fz t : Bool) (Q : pm_R → pm_H → Prop) (c z : Nat) (x4 : Int32) (r : Int32) (I : Nat → Nat → Int32) (J : Nat → Nat → Int64) : Prop := pm_T (pm_Ev d) 318 Q (1700, [(0, .ref 2000000), (1, .ref 0), (2, .ref 85), (3, .ref 117), (4, .int x4)], [.int r], pm_hp L fz t I J, c, z)
def K_L_law_1700 (d : Nat) (fz t : Bool) (Q : pm_R → pm_H → Prop) (c z : Nat) (x4 : Int32) : pm_R → pm_H → Prop := pm_K d 318 Q 1700 [(0, .ref 2000000), (1, .ref 0), (2, .ref 85), (3, .ref 117), (4, .int x4)] [] 118 4 fz c z
def t_L_law_1774 (d L : Nat) (fz t : Bool) (Q : pm_R → pm_H → Prop) (c z : Nat) (x4 : Int32) (r : Int32) (I : Nat → Nat → Int32) (J : Nat → Nat → Int64) : Prop := pm_T (pm_Ev d) 318 Q (1774, [(0, .ref 2000000), (1, .ref 0), (2, .ref 85), (3, .ref 117), (4, .int x4)], [.int r], pm_hp L fz t I J, c, z)
def K_L_law_1774 (d : Nat) (fz t : Bool) (Q : pm_R → pm_H → Prop) (c z : Nat) (x4 : Int32) : pm_R → pm_H → Prop := pm_K d 318 Q 1774 [(0, .ref 2000000), (1, .ref 0), (2, .ref 85), (3, .ref 117), (4, .int x4)] [] 118 4 fz c z
def t_L_law_1848 (d L : Nat) (fz t : Bool) (Q : pm_R → pm_H → Prop) (c z : Nat) (x4 : Int32) (r : Int32) (I : Nat → Nat → Int32) (J : Nat → Nat → Int64) : Prop := pm_T (pm_Ev d) 318 Q (1848, [(0, .ref 2000000), (1, .ref 0), (2, .ref 85), (3, .ref 117), (4, .int x4)], [.int r], pm_hp L fz t I J, c, z)
def K_L_law_1848 (d : Nat) (fz t : Bool) (Q : pm_R → pm_H → Prop) (c z : Nat) (x4 : Int32) : pm_R → pm_H → Prop := pm_K d 318 Q 1848 [(0, .ref 2000000), (1, .ref 0), (2, .ref 85), (3, .ref 117), (4, .int x4)] [] 118 4 fz c z
def t_L_law_1916 (d L : Nat) (fz t : Bool) (Q : pm_R → pm_H → Prop) (c z : Nat) (x4 : Int32) (r : Int32) (I : Nat → Nat → Int32) (J : Nat → Nat → Int64) : Prop := pm_T (pm_Ev d) 318 Q (1916, [(0, .ref 2000000), (1, .ref 0), (2, .ref 85), (3, .ref 117), (4, .int x4)], [.int r], pm_hp L fz t I J, c, z)
def K_L_law_1916 (d : Nat) (fz t : Bool) (Q : pm_R → pm_H → Prop) (c z : Nat) (x4 : Int32) : pm_R → pm_H → Prop := pm_K d 318 Q 1916 [(0, .ref 2000000), (1, .ref 0), (2, .ref 85), (3, .ref 117), (4, .int x4)] [] 118 4 fz c z
def t_L_law_1996 (d L : Nat) (fz t : Bool) (Q : pm_R → pm_H → Prop) (c z : Nat) (x4 : Int32) (r : Int32) (I : Nat → Nat → Int32) (J : Nat → Nat → Int64) : Prop := pm_T (pm_Ev d) 318 Q (1996, [(0, .ref 2000000), (1, .ref 0), (2, .ref 85), (3, .ref 117), (4, .int x4)], [.int r], pm_hp L fz t I J, c, z)
def K_L_law_1996 (d : Nat) (fz t : Bool) (Q : pm_R → pm_H → Prop) (c z : Nat) (x4 : Int32) : pm_R → pm_H → Prop := pm_K d 318 Q 1996 [(0, .ref 2000000), (1, .ref 0), (2, .ref 85), (3, .ref 117), (4, .int x4)] [] 118 4 fz c z
def t_L_law_2070 (d L : Nat) (fz t : Bool) (Q : pm_R → pm_H → Prop) (c z : Nat) (x4 : Int32) (r : Int32) (I : Nat → Nat → Int32) (J : Nat → Nat → Int64) : Prop := pm_T (pm_Ev d) 318 Q (2070, [(0, .ref 2000000), (1, .ref 0), (2, .ref 85), (3, .ref 117), (4, .int x4)], [.int r], pm_hp L fz t I J, c, z)
def K_L_law_2070 (d : Nat) (fz t : Bool) (Q : pm_R → pm_H → Prop) (c z : Nat) (x4 : Int32) : pm_R → pm_H → Prop := pm_K d 318 Q 2070 [(0, .ref 2000000), (1, .ref 0), (2, .ref 85), (3, .ref 117), (4, .int x4)] [] 118 4 fz c z
def t_L_law_2138 (d L : Nat) (fz t : Bool) (Q : pm_R → pm_H → Prop) (c z : Nat) (x4 : Int32) (r : Int32) (I : Nat → Nat → Int32) (J : Nat → Nat → Int64) : Prop := pm_T (pm_Ev d) 318 Q (2138, [(0, .ref 2000000), (1, .ref 0), (2, .ref 85), (3, .ref 117), (4, .int x4)], [.int r], pm_hp L fz t I J, c, z)
def K_L_law_2138 (d : Nat) (fz t : Bool) (Q : pm_R → pm_H → Prop) (c z : Nat) (x4 : Int32) : pm_R → pm_H → Prop := pm_K d 318 Q 2138 [(0, .ref 2000000), (1, .ref 0), (2, .ref 85), (3, .ref 117), (4, .int x4)] [] 118 4 fz c z
def t_L_law_2200 (d L : Nat) (fz t : Bool) (Q : pm_R → pm_H → Prop) (c z : Nat) (x4 : Int32) (r : Int32) (I : Nat → Nat → Int32) (J : Nat → Nat → Int64) : Prop := pm_T (pm_Ev d) 318 Q (2200, [(0, .ref 2000000), (1, .ref 0), (2, .ref 85), (3, .ref 117), (4, .int x4)], [.int r], pm_hp L fz t I J, c, z)
def K_L_law_2200 (d : Nat) (fz t : Bool) (Q : pm_R → pm_H → Prop) (c z : Nat) (x4 : Int32) : pm_R → pm_H → Prop := pm_K d 318 Q 2200 [(0, .ref 2000000), (1, .ref 0), (2, .ref 85), (3, .ref 117), (4, .int x4)] [] 118 4 fz c z
def t_L_law_2256 (d L : Nat) (fz t : Bool) (Q : pm_R → pm_H → Prop) (c z : Nat) (x4 : Int32) (r : Int32) (I : Nat → Nat → Int32) (J : Nat → Nat → Int64) : Prop := pm_T (pm_Ev d) 318 Q (2256, [(0, .ref 2000000), (1, .ref 0), (2, .ref 85), (3, .ref 117), (4, .int x4)], [.int r], pm_hp L fz t I J, c, z)
def K_L_law_2256 (d : Nat) (fz t : Bool) (Q : pm_R → pm_H → Prop) (c z : Nat) (x4 : Int32) : pm_R → pm_H → Prop := pm_K d 318 Q 2256 [(0, .ref 2000000), (1, .ref 0), (2, .ref 85), (3, .ref 117), (4, .int x4)] [] 118 4 fz c z
def t_L_law_2312 (d L : Nat) (fz t : Bool) (Q : pm_R → pm_H → Prop) (c z : Nat) (x4 : Int32) (r : Int32) (I : Nat → Nat → Int32) (J : Nat → Nat → Int64) : Prop := pm_T (pm_Ev d) 318 Q (2312, [(0, .ref 2000000), (1, .ref 0), (2, .ref 85), (3, .ref 117), (4, .int x4)], [.int r], pm_hp L fz t I J, c, z)
def K_L_law_2312 (d : Nat) (fz t : Bool) (Q : pm_R → pm_H → Prop) (c z : Nat) (x4 : Int32) : pm_R → pm_H → Prop := pm_K d 318 Q 2312 [(0, .ref 2000000), (1, .ref 0), (2, .ref 85), (3, .ref 117), (4, .int x4)] [] 118 4 fz c z
def t_L_law_2368 (d L : Nat) (fz t : Bool) (Q : pm_R → pm_H → Prop) (c z : Nat) (x4 : Int32) (r : Int32) (I : Nat → Nat → Int32) (J : Nat → Nat → Int64) : Prop := pm_T (pm_Ev d) 318 Q (2368, [(0, .ref 2000000), (1, .ref 0), (2, .ref 85), (3, .ref 117), (4, .int x4)], [.int r], pm_hp L fz t I J, c, z)
def K_L_law_2368 (d : Nat) (fz t : Bool) (Q : pm_R → pm_H → Prop) (c z : Nat) (x4 : Int32) : pm_R → pm_H → Prop := pm_K d 318 Q 2368 [(0, .ref 2000000), (1, .ref 0), (2, .ref 85), (3, .ref 117), (4, .int x4)] [] 118 4 fz c z
def t_L_law_2424 (d L : Nat) (fz t : Bool) (Q : pm_R → pm_H → Prop) (c z : Nat) (x4 : Int32) (r : Int32) (I : Nat → Nat → Int32) (J : Nat → Nat → Int64) : Prop := pm_T (pm_Ev d) 318 Q (2424, [(0, .ref 2000000), (1, .ref 0), (2, .ref 85), (3, .ref 117), (4, .int x4)], [.int r], pm_hp L fz t I J, c, z)
def K_L_law_2424 (d : Nat) (fz t : Bool) (Q : pm_R → pm_H → Prop) (c z : Nat) (x4 : Int32) : pm_R → pm_H → Prop := pm_K d 318 Q 2424 [(0, .ref 2000000), (1, .ref 0), (2, .ref 85), (3, .ref 117), (4, .int x4)] [] 118 4 fz c z
def t_L_law_2480 (d L : Nat) (fz t : Bool) (Q : pm_R → pm_H → Prop) (c z : Nat) (x4 : Int32) (r : Int32) (I : Nat → Nat → Int32) (J : Nat → Nat → Int64) : Prop := pm_T (pm_Ev d) 318 Q (2480, [(0, .ref 2000000), (1, .ref 0), (2, .ref 85), (3, .ref 117), (4, .int x4)], [.int r], pm_hp L fz t I J, c, z)
def K_L_law_2480 (d : Nat) (fz t : Bool) (Q : pm_R → pm_H → Prop) (c z : Nat) (x4 : Int32) : pm_R → pm_H → Prop := pm_K d 318 Q 2480 [(0, .ref 2000000), (1, .ref 0), (2, .ref 85), (3, .ref 117), (4, .int x4)] [] 118 0 fz c z
def t_L_law_2493 (d L : Nat) (fz t : Bool) (Q : pm_R → pm_H → Prop) (c z : Nat) (x4 : Int32) (I : Nat → Nat → Int32) (J : Nat → Nat → Int64) : Prop := pm_T (pm_Ev d) 318 Q (2493, [(0, .ref 2000000), (1, .ref 0), (2, .ref 85), (3, .ref 117), (4, .int x4)], [], pm_hp L fz t I J, c, z)
def K_L_law_2493 (d : Nat) (fz t : Bool) (Q : pm_R → pm_H → Prop) (c z : Nat) (x4 : Int32) : pm_R → pm_H → Prop := pm_K d 318 Q 2493 [(0, .ref 2000000), (1, .ref 0), (2, .ref 85), (3, .ref 117), (4, .int x4)] [] 118 0 fz c z
def t_L_law_2504 (d L : Nat) (fz t : Bool) (Q : pm_R → pm_H → Prop) (c z : Nat) (x4 : Int32) (r : Int32) (I : Nat → Nat → Int32) (J : Nat → Nat → Int64) : Prop := pm_T (pm_Ev d) 318 Q (2504, [(0, .ref 2000000), (1, .ref 0), (2, .ref 85), (3, .ref 117), (4, .int x4)], [.int r], pm_hp L fz t I J, c, z)
def K_L_law_2504 (d : Nat) (fz t : Bool) (Q : pm_R → pm_H → Prop) (c z : Nat) (x4 : Int32) : pm_R → pm_H → Prop := pm_K d 318 Q 2504 [(0, .ref 2000000), (1, .ref 0), (2, .ref 85), (3, .ref 117), (4, .int x4)] [] 118 0 fz c z
def t_L_law_292 (d L : Nat) (fz t : Bool) (Q : pm_R → pm_H → Prop) (c z : Nat) (x4 : Int32) (s0 : Int32) (r : Int32) (I : Nat → Nat → Int32) (J : Nat → Nat → Int64) : Prop := pm_T (pm_Ev d) 318 Q (292, [(0, .ref 2000000), (1, .ref 0), (2, .ref 85), (3, .ref 117), (4, .int x4)], [.int r, .int s0], pm_hp L fz t I J, c, z)
def K_L_law_292 (d : Nat) (fz t : Bool) (Q : pm_R → pm_H → Prop) (c z : Nat) (x4 : Int32) (s0 : Int32) : pm_R → pm_H → Prop := pm_K d 318 Q 292 [(0, .ref 2000000), (1, .ref 0), (2, .ref 85), (3, .ref 117), (4, .int x4)] [.int s0] 118 0 fz c z
def t_L_law_320 (d L : Nat) (fz t : Bool) (Q : pm_R → pm_H → Prop) (c z : Nat) (x4 : Int32) (x5 : Int32) (r : Int32) (I : Nat → Nat → Int32) (J : Nat → Nat → Int64) : Prop := pm_T (pm_Ev d) 318 Q (320, [(0, .ref 2000000), (1, .ref 0), (2, .ref 85), (3, .ref 117), (4, .int x4), (5, .int x5)], [.int r], pm_hp L fz t I J, c, z)
def K_L_law_320 (d : Nat) (fz t : Bool) (Q : pm_R → pm_H → Prop) (c z : Nat) (x4 : Int32) (x5 : Int32) : pm_R → pm_H → Prop := pm_K d 318 Q 320 [(0, .ref 2000000), (1, .ref 0), (2, .ref 85), (3, .ref 117), (4, .int x4), (5, .int x5)] [] 118 0 fz c z
def t_L_law_361 (d L : Nat) (fz t : Bool) (Q : pm_R → pm_H → Prop) (c z : Nat) (x4 : Int32) (s0 : Int32) (r : Int32) (I : Nat → Nat → Int32) (J : Nat → Nat → Int64) : Prop := pm_T (pm_Ev d) 318 Q (361, [(0, .ref 2000000), (1, .ref 0), (2, .ref 85), (3, .ref 117), (4, .int x4)], [.int r, .int s0], pm_hp L fz t I J, c, z)
def K_L_law_361 (d : Nat) (fz t : Bool) (Q : pm_R → pm_H → Prop) (c z : Nat) (x4 : Int32) (s0 : Int32) : pm_R → pm_H → Prop := pm_K d 318 Q 361 [(0, .ref 2000000), (1, .ref 0), (2, .ref 85), (3, .ref 117), (4, .int x4)] [.int s0] 118 0 fz c z
def t_L_law_389 (d L : Nat) (fz t : Bool) (Q : pm_R → pm_H → Prop) (c z : Nat) (x4 : Int32) (x5 : Int32) (r : Int32) (I : Nat → Nat → Int32) (J : Nat → Nat → Int64) : Prop := pm_T (pm_Ev d) 318 Q (389, [(0, .ref 2000000), (1, .ref 0), (2, .ref 85), (3, .ref 117), (4, .int x4), (5, .int x5)], [.int r], pm_hp L fz t I J, c, z)
def K_L_law_389 (d : Nat) (fz t : Bool) (Q : pm_R → pm_H → Prop) (c z : Nat) (x4 : Int32) (x5 : Int32) : pm_R → pm_H → Prop := pm_K d 318 Q 389 [(0, .ref 2000000), (1, .ref 0), (2, .ref 85), (3, .ref 117), (4, .int x4), (5, .int x5)] [] 118 0 fz c z
def t_L_law_457 (d L : Nat) (fz t : Bool) (Q : pm_R → pm_H → Prop) (c z : Nat) (x4 : Int32) (x5 : Int32) (r : Int32) (I : Nat → Nat → Int32) (J : Nat → Nat → Int64) : Prop := pm_T (pm_Ev d) 318 Q (457, [(0, .ref 2000000), (1, .ref 0), (2, .ref 85), (3, .ref 117), (4, .int x4), (5, .int x5)], [.int r], pm_hp L fz t I J, c, z)
def K_L_law_457 (d : Nat) (fz t : Bool) (Q : pm_R → pm_H → Prop) (c z : Nat) (x4 : Int32) (x5 : Int32) : pm_R → pm_H → Prop := pm_K d 318 Q 457 [(0, .ref 2000000), (1, .ref 0), (2, .ref 85), (3, .ref 117), (4, .int x4), (5, .int x5)] [] 118 0 fz c z
def t_L_law_513 (d L : Nat) (fz t : Bool) (Q : pm_R → pm_H → Prop) (c z : Nat) (x4 : Int32) (x5 : Int32) (r : Int32) (I : Nat → Nat → Int32) (J : Nat → Nat → Int64) : Prop := pm_T (pm_Ev d) 318 Q (513, [(0, .ref 2000000), (1, .ref 0), (2, .ref 85), (3, .ref 117), (4, .int x4), (5, .int x5)], [.int r], pm_hp L fz t I J, c, z)
def K_L_law_513 (d : Nat) (fz t : Bool) (Q : pm_R → pm_H → Prop) (c z : Nat) (x4 : Int32) (x5 : Int32) : pm_R → pm_H → Prop := pm_K d 318 Q 513 [(0, .ref 2000000), (1, .ref 0), (2, .ref 85), (3, .ref 117), (4, .int x4), (5, .int x5)] [] 118 0 fz c z
def t_L_law_581 (d L : Nat) (fz t : Bool) (Q : pm_R → pm_H → Prop) (c z : Nat) (x4 : Int32) (x5 : Int32) (r : Int32) (I : Nat → Nat → Int32) (J : Nat → Nat → Int64) : Prop := pm_T (pm_Ev d) 318 Q (581, [(0, .ref 2000000), (1, .ref 0), (2, .ref 85), (3, .ref 117), (4, .int x4), (5, .int x5)], [.int r], pm_hp L fz t I J, c, z)
def K_L_law_581 (d : Nat) (fz t : Bool) (Q : pm_R → pm_H → Prop) (c z : Nat) (x4 : Int32) (x5 : Int32) : pm_R → pm_H → Prop := pm_K d 318 Q 581 [(0, .ref 2000000), (1, .ref 0), (2, .ref 85), (3, .ref 117), (4, .int x4), (5, .int x5)] [] 118 0 fz c z
def t_L_law_649 (d L : Nat) (fz t : Bool) (Q : pm_R → pm_H → Prop) (c z : Nat) (x4 : Int32) (x5 : Int32) (r : Int32) (I : Nat → Nat → Int32) (J : Nat → Nat → Int64) : Prop := pm_T (pm_Ev d) 318 Q (649, [(0, .ref 2000000), (1, .ref 0), (2, .ref 85), (3, .ref 117), (4, .int x4), (5, .int x5)], [.int r], pm_hp L fz t I J, c, z)
def K_L_law_649 (d : Nat) (fz t : Bool) (Q : pm_R → pm_H → Prop) (c z : Nat) (x4 : Int32) (x5 : Int32) : pm_R → pm_H → Prop := pm_K d 318 Q 649 [(0, .ref 2000000), (1, .ref 0), (2, .ref 85), (3, .ref 117), (4, .int x4), (5, .int x5)] [] 118 0 fz c z
def t_L_law_702 (d L : Nat) (fz t : Bool) (Q : pm_R → pm_H → Prop) (c z : Nat) (x4 : Int32) (s0 : Int32) (r : Int32) (I : Nat → Nat → Int32) (J : Nat → Nat → Int64) : Prop := pm_T (pm_Ev d) 318 Q (702, [(0, .ref 2000000), (1, .ref 0), (2, .ref 85), (3, .ref 117), (4, .int x4)], [.int r, .int s0], pm_hp L fz t I J, c, z)
def K_L_law_702 (d : Nat) (fz t : Bool) (Q : pm_R → pm_H → Prop) (c z : Nat) (x4 : Int32) (s0 : Int32) : pm_R → pm_H → Prop := pm_K d 318 Q 702 [(0, .ref 2000000), (1, .ref 0), (2, .ref 85), (3, .ref 117), (4, .int x4)] [.int s0] 118 0 fz c z
def t_L_law_742 (d L : Nat) (fz t : Bool) (Q : pm_R → pm_H → Prop) (c z : Nat) (x4 : Int32) (x5 : Int32) (r : Int32) (I : Nat → Nat → Int32) (J : Nat → Nat → Int64) : Prop := pm_T (pm_Ev d) 318 Q (742, [(0, .ref 2000000), (1, .ref 0), (2, .ref 85), (3, .ref 117), (4, .int x4), (5, .int x5)], [.int r], pm_hp L fz t I J, c, z)
def K_L_law_742 (d : Nat) (fz t : Bool) (Q : pm_R → pm_H → Prop) (c z : Nat) (x4 : Int32) (x5 : Int32) : pm_R → pm_H → Prop := pm_K d 318 Q 742 [(0, .ref 2000000), (1, .ref 0), (2, .ref 85), (3, .ref 117), (4, .int x4), (5, .int x5)] [] 118 0 fz c z
def t_L_law_798 (d L : Nat) (fz t : Bool) (Q : pm_R → pm_H → Prop) (c z : Nat) (x4 : Int32) (x5 : Int32) (r : Int32) (I : Nat → Nat → Int32) (J : Nat → Nat → Int64) : Prop := pm_T (pm_Ev d) 318 Q (798, [(0, .ref 2000000), (1, .ref 0), (2, .ref 85), (3, .ref 117), (4, .int x4), (5, .int x5)], [.int r], pm_hp L fz t I J, c, z)
def K_L_law_798 (d : Nat) (fz t : Bool) (Q : pm_R → pm_H → Prop) (c z : Nat) (x4 : Int32) (x5 : Int32) : pm_R → pm_H → Prop := pm_K d 318 Q 798 [(0, .ref 2000000), (1, .ref 0), (2, .ref 85), (3, .ref 117), (4, .int x4), (5, .int x5)] [] 118 0 fz c z
def t_L_law_854 (d L : Nat) (fz t : Bool) (Q : pm_R → pm_H → Prop) (c z : Nat) (x4 : Int32) (x5 : Int32) (r : Int32) (I : Nat → Nat → Int32) (J : Nat → Nat → Int64) : Prop := pm_T (pm_Ev d) 318 Q (854, [(0, .ref 2000000), (1, .ref 0), (2, .ref 85), (3, .ref 117), (4, .int x4), (5, .int x5)], [.int r], pm_hp L fz t I J, c, z)
def K_L_law_854 (d : Nat) (fz t : Bool) (Q : pm_R → pm_H → Prop) (c z : Nat) (x4 : Int32) (x5 : Int32) : pm_R → pm_H → Prop := pm_K d 318 Q 854 [(0, .ref 2000000), (1, .ref 0), (2, .ref 85), (3, .ref 117), (4, .int x4), (5, .int x5)] [] 118 0 fz c z
def t_L_law_919 (d L : Nat) (fz t : Bool) (Q : pm_R → pm_H → Prop) (c z : Nat) (x4 : Int32) (s0 : Int32) (r : Int32) (I : Nat → Nat → Int32) (J : Nat → Nat → Int64) : Prop := pm_T (pm_Ev d) 318 Q (919, [(0, .ref 2000000), (1, .ref 0), (2, .ref 85), (3, .ref 117), (4, .int x4)], [.int r, .int s0], pm_hp L fz t I J, c, z)
def K_L_law_919 (d : Nat) (fz t : Bool) (Q : pm_R → pm_H → Prop) (c z : Nat) (x4 : Int32) (s0 : Int32) : pm_R → pm_H → Prop := pm_K d 318 Q 919 [(0, .ref 2000000), (1, .ref 0), (2, .ref 85), (3, .ref 117), (4, .int x4)] [.int s0] 118 0 fz c z
def t_L_law_932 (d L : Nat) (fz t : Bool) (Q : pm_R → pm_H → Prop) (c z : Nat) (x4 : Int32) (s0 : Int32) (r : Int32) (I : Nat → Nat → Int32) (J : Nat → Nat → Int64) : Prop := pm_T (pm_Ev d) 318 Q (932, [(0, .ref 2000000), (1, .ref 0), (2, .ref 85), (3, .ref 117), (4, .int x4)], [.int r, .int s0], pm_hp L fz t I J, c, z)
def K_L_law_932 (d : Nat) (fz t : Bool) (Q : pm_R → pm_H → Prop) (c z : Nat) (x4 : Int32) (s0 : Int32) : pm_R → pm_H → Prop := pm_K d 318 Q 932 [(0, .ref 2000000), (1, .ref 0), (2, .ref 85), (3, .ref 117), (4, .int x4)] [.int s0] 118 0 fz c z
def t_L_law_972 (d L : Nat) (fz t : Bool) (Q : pm_R → pm_H → Prop) (c z : Nat) (x4 : Int32) (x5 : Int32) (r : Int32) (I : Nat → Nat → Int32) (J : Nat → Nat → Int64) : Prop := pm_T (pm_Ev d) 318 Q (972, [(0, .ref 2000000), (1, .ref 0), (2, .ref 85), (3, .ref 117), (4, .int x4), (5, .int x5)], [.int r], pm_hp L fz t I J, c, z)
def K_L_law_972 (d : Nat) (fz t : Bool) (Q : pm_R → pm_H → Prop) (c z : Nat) (x4 : Int32) (x5 : Int32) : pm_R → pm_H → Prop := pm_K d 318 Q 972 [(0, .ref 2000000), (1, .ref 0), (2, .ref 85), (3, .ref 117), (4, .int x4), (5, .int x5)] [] 118 0 fz c z
def t_L_law_1028 (d L : Nat) (fz t : Bool) (Q : pm_R → pm_H → Prop) (c z : Nat) (x4 : Int32) (x5 : Int32) (r : Int32) (I : Nat → Nat → Int32) (J : Nat → Nat → Int64) : Prop := pm_T (pm_Ev d) 318 Q (1028, [(0, .ref 2000000), (1, .ref 0), (2, .ref 85), (3, .ref 117), (4, .int x4), (5, .int x5)], [.int r], pm_hp L fz t I J, c, z)
def K_L_law_1028 (d : Nat) (fz t : Bool) (Q : pm_R → pm_H → Prop) (c z : Nat) (x4 : Int32) (x5 : Int32) : pm_R → pm_H → Prop := pm_K d 318 Q 1028 [(0, .ref 2000000), (1, .ref 0), (2, .ref 85), (3, .ref 117), (4, .int x4), (5, .int x5)] [] 118 0 fz c z
def t_L_law_1084 (d L : Nat) (fz t : Bool) (Q : pm_R → pm_H → Prop) (c z : Nat) (x4 : Int32) (x5 : Int32) (r : Int32) (I : Nat → Nat → Int32) (J : Nat → Nat → Int64) : Prop := pm_T (pm_Ev d) 318 Q (1084, [(0, .ref 2000000), (1, .ref 0), (2, .ref 85), (3, .ref 117), (4, .int x4), (5, .int x5)], [.int r], pm_hp L fz t I J, c, z)
def K_L_law_1084 (d : Nat) (fz t : Bool) (Q : pm_R → pm_H → Prop) (c z : Nat) (x4 : Int32) (x5 : Int32) : pm_R → pm_H → Prop := pm_K d 318 Q 1084 [(0, .ref 2000000), (1, .ref 0), (2, .ref 85), (3, .ref 117), (4, .int x4), (5, .int x5)] [] 118 0 fz c z
def t_L_law_1125 (d L : Nat) (fz t : Bool) (Q : pm_R → pm_H → Prop) (c z : Nat) (x4 : Int32) (s0 : Int32) (r : Int32) (I : Nat → Nat → Int32) (J : Nat → Nat → Int64) : Prop := pm_T (pm_Ev d) 318 Q (1125, [(0, .ref 2000000), (1, .ref 0), (2, .ref 85), (3, .ref 117), (4, .int x4)], [.int r, .int s0], pm_hp L fz t I J, c, z)
def K_L_law_1125 (d : Nat) (fz t : Bool) (Q : pm_R → pm_H → Prop) (c z : Nat) (x4 : Int32) (s0 : Int32) : pm_R → pm_H → Prop := pm_K d 318 Q 1125 [(0, .ref 2000000), (1, .ref 0), (2, .ref 85), (3, .ref 117), (4, .int x4)] [.int s0] 118 0 fz c z
def t_L_law_1153 (d L : Nat) (fz t : Bool) (Q : pm_R → pm_H → Prop) (c z : Nat) (x4 : Int32) (x5 : Int32) (r : Int32) (I : Nat → Nat → Int32) (J : Nat → Nat → Int64) : Prop := pm_T (pm_Ev d) 318 Q (1153, [(0, .ref 2000000), (1, .ref 0), (2, .ref 85), (3, .ref 117), (4, .int x4), (5, .int x5)], [.int r], pm_hp L fz t I J, c, z)
def K_L_law_1153 (d : Nat) (fz t : Bool) (Q : pm_R → pm_H → Prop) (c z : Nat) (x4 : Int32) (x5 : Int32) : pm_R → pm_H → Prop := pm_K d 318 Q 1153 [(0, .ref 2000000), (1, .ref 0), (2, .ref 85), (3, .ref 117), (4, .int x4), (5, .int x5)] [] 118 0 fz c z
def t_L_law_1221 (d L : Nat) (fz t : Bool) (Q : pm_R → pm_H → Prop) (c z : Nat) (x4 : Int32) (x5 : Int32) (r : Int32) (I : Nat → Nat → Int32) (J : Nat → Nat → Int64) : Prop := pm_T (pm_Ev d) 318 Q (1221, [(0, .ref 2000000), (1, .ref 0), (2, .ref 85), (3, .ref 117), (4, .int x4), (5, .int x5)], [.int r], pm_hp L fz t I J, c, z)
def K_L_law_1221 (d : Nat) (fz t : Bool) (Q : pm_R → pm_H → Prop) (c z : Nat) (x4 : Int32) (x5 : Int32) : pm_R → pm_H → Prop := pm_K d 318 Q 1221 [(0, .ref 2000000), (1, .ref 0), (2, .ref 85), (3, .ref 117), (4, .int x4), (5, .int x5)] [] 118 0 fz c z
def t_L_law_1277 (d L : Nat) (fz t : Bool) (Q : pm_R → pm_H → Prop) (c z : Nat) (x4 : Int32) (x5 : Int32) (r : Int32) (I : Nat → Nat → Int32) (J : Nat → Nat → Int64) : Prop := pm_T (pm_Ev d) 318 Q (1277, [(0, .ref 2000000), (1, .ref 0), (2, .ref 85), (3, .ref 117), (4, .int x4), (5, .int x5)], [.int r], pm_hp L fz t I J, c, z)
def K_L_law_1277 (d : Nat) (fz t : Bool) (Q : pm_R → pm_H → Prop) (c z : Nat) (x4 : Int32) (x5 : Int32) : pm_R → pm_H → Prop := pm_K d 318 Q 1277 [(0, .ref 2000000), (1, .ref 0), (2, .ref 85), (3, .ref 117), (4, .int x4), (5, .int x5)] [] 118 0 fz c z
def t_L_law_1357 (d L : Nat) (fz t : Bool) (Q : pm_R → pm_H → Prop) (c z : Nat) (x4 : Int32) (x5 : Int32) (r : Int32) (I : Nat → Nat → Int32) (J : Nat → Nat → Int64) : Prop := pm_T (pm_Ev d) 318 Q (1357, [(0, .ref 2000000), (1, .ref 0), (2, .ref 85), (3, .ref 117), (4, .int x4), (5, .int x5)], [.int r], pm_hp L fz t I J, c, z)
def K_L_law_1357 (d : Nat) (fz t : Bool) (Q : pm_R → pm_H → Prop) (c z : Nat) (x4 : Int32) (x5 : Int32) : pm_R → pm_H → Prop := pm_K d 318 Q 1357 [(0, .ref 2000000), (1, .ref 0), (2, .ref 85), (3, .ref 117), (4, .int x4), (5, .int x5)] [] 118 0 fz c z
def t_L_law_1413 (d L : Nat) (fz t : Bool) (Q : pm_R → pm_H → Prop) (c z : Nat) (x4 : Int32) (x5 : Int32) (r : Int32) (I : Nat → Nat → Int32) (J : Nat → Nat → Int64) : Prop := pm_T (pm_Ev d) 318 Q (1413, [(0, .ref 2000000), (1, .ref 0), (2, .ref 85), (3, .ref 117), (4, .int x4), (5, .int x5)], [.int r], pm_hp L fz t I J, c, z)
def K_L_law_1413 (d : Nat) (fz t : Bool) (Q : pm_R → pm_H → Prop) (c z : Nat) (x4 : Int32) (x5 : Int32) : pm_R → pm_H → Prop := pm_K d 318 Q 1413 [(0, .ref 2000000), (1, .ref 0), (2, .ref 85), (3, .ref 117), (4, .int x4), (5, .int x5)] [] 118 0 fz c z
def t_L_law_1521 (d L : Nat) (fz t : Bool) (Q : pm_R → pm_H → Prop) (c z : Nat) (x4 : Int32) (x5 : Int32) (r : Int32) (I : Nat → Nat → Int32) (J : Nat → Nat → Int64) : Prop := pm_T (pm_Ev d) 318 Q (1521, [(0, .ref 2000000), (1, .ref 0), (2, .ref 85), (3, .ref 117), (4, .int x4), (5, .int x5)], [.int r], pm_hp L fz t I J, c, z)
def K_L_law_1521 (d : Nat) (fz t : Bool) (Q : pm_R → pm_H → Prop) (c z : Nat) (x4 : Int32) (x5 : Int32) : pm_R → pm_H → Prop := pm_K d 318 Q 1521 [(0, .ref 2000000), (1, .ref 0), (2, .ref 85), (3, .ref 117), (4, .int x4), (5, .int x5)] [] 118 0 fz c z
def t_L_law_1562 (d L : Nat) (fz t : Bool) (Q : pm_R → pm_H → Prop) (c z : Nat) (x4 : Int32) (I : Nat → Nat → Int32) (J : Nat → Nat → Int64) : Prop := pm_T (pm_Ev d) 318 Q (1562, [(0, .ref 2000000), (1, .ref 0), (2, .ref 85), (3, .ref 117), (4, .int x4)], [], pm_hp L fz t I J, c, z)
def K_L_law_1562 (d : Nat) (fz t : Bool) (Q : pm_R → pm_H → Prop) (c z : Nat) (x4 : Int32) : pm_R → pm_H → Prop := pm_K d 318 Q 1562 [(0, .ref 2000000), (1, .ref 0), (2, .ref 85), (3, .ref 117), (4, .int x4)] [] 118 0 fz c z
def t_L_law_1588 (d L : Nat) (fz t : Bool) (Q : pm_R → pm_H → Prop) (c z : Nat) (x4 : Int32) (x5 : Int32) (r : Int32) (I : Nat → Nat → Int32) (J : Nat → Nat → Int64) : Prop := pm_T (pm_Ev d) 318 Q (1588, [(0, .ref 2000000), (1, .ref 0), (2, .ref 85), (3, .ref 117), (4, .int x4), (5, .int x5)], [.int r], pm_hp L fz t I J, c, z)
def K_L_law_1588 (d : Nat) (fz t : Bool) (Q : pm_R → pm_H → Prop) (c z : Nat) (x4 : Int32) (x5 : Int32) : pm_R → pm_H → Prop := pm_K d 318 Q 1588 [(0, .ref 2000000), (1, .ref 0), (2, .ref 85), (3, .ref 117), (4, .int x4), (5, .int x5)] [] 118 0 fz c z
def t_L_law_1656 (d L : Nat) (fz t : Bool) (Q : pm_R → pm_H → Prop) (c z : Nat) (x4 : Int32) (x5 : Int32) (r : Int32) (I : Nat → Nat → Int32) (J : Nat → Nat → Int64) : Prop := pm_T (pm_Ev d) 318 Q (1656, [(0, .ref 2000000), (1, .ref 0), (2, .ref 85), (3, .ref 117), (4, .int x4), (5, .int x5)], [.int r], pm_hp L fz t I J, c, z)
def K_L_law_1656 (d : Nat) (fz t : Bool) (Q : pm_R → pm_H → Prop) (c z : Nat) (x4 : Int32) (x5 : Int32) : pm_R → pm_H → Prop := pm_K d 318 Q 1656 [(0, .ref 2000000), (1, .ref 0), (2, .ref 85), (3, .ref 117), (4, .int x4), (5, .int x5)] [] 118 0 fz c z
def t_L_law_1712 (d L : Nat) (fz t : Bool) (Q : pm_R → pm_H → Prop) (c z : Nat) (x4 : Int32) (x5 : Int32) (r : Int32) (I : Nat → Nat → Int32) (J : Nat → Nat → Int64) : Prop := pm_T (pm_Ev d) 318 Q (1712, [(0, .ref 2000000), (1, .ref 0), (2, .ref 85), (3, .ref 117), (4, .int x4), (5, .int x5)], [.int r], pm_hp L fz t I J, c, z)
def K_L_law_1712 (d : Nat) (fz t : Bool) (Q : pm_R → pm_H → Prop) (c z : Nat) (x4 : Int32) (x5 : Int32) : pm_R → pm_H → Prop := pm_K d 318 Q 1712 [(0, .ref 2000000), (1, .ref 0), (2, .ref 85), (3, .ref 117), (4, .int x4), (5, .int x5)] [] 118 0 fz c z
def t_L_law_1804 (d L : Nat) (fz t : Bool) (Q : pm_R → pm_H → Prop) (c z : Nat) (x4 : Int32) (x5 : Int32) (r : Int32) (I : Nat → Nat → Int32) (J : Nat → Nat → Int64) : Prop := pm_T (pm_Ev d) 318 Q (1804, [(0, .ref 2000000), (1, .ref 0), (2, .ref 85), (3, .ref 117), (4, .int x4), (5, .int x5)], [.int r], pm_hp L fz t I J, c, z)
def K_L_law_1804 (d : Nat) (fz t : Bool) (Q : pm_R → pm_H → Prop) (c z : Nat) (x4 : Int32) (x5 : Int32) : pm_R → pm_H → Prop := pm_K d 318 Q 1804 [(0, .ref 2000000), (1, .ref 0), (2, .ref 85), (3, .ref 117), (4, .int x4), (5, .int x5)] [] 118 0 fz c z
def t_L_law_1860 (d L : Nat) (fz t : Bool) (Q : pm_R → pm_H → Prop) (c z : Nat) (x4 : Int32) (x5 : Int32) (r : Int32) (I : Nat → Nat → Int32) (J : Nat → Nat → Int64) : Prop := pm_T (pm_Ev d) 318 Q (1860, [(0, .ref 2000000), (1, .ref 0), (2, .ref 85), (3, .ref 117), (4, .int x4), (5, .int x5)], [.int r], pm_hp L fz t I J, c, z)
def K_L_law_1860 (d : Nat) (fz t : Bool) (Q : pm_R → pm_H → Prop) (c z : Nat) (x4 : Int32) (x5 : Int32) : pm_R → pm_H → Prop := pm_K d 318 Q 1860 [(0, .ref 2000000), (1, .ref 0), (2, .ref 85), (3, .ref 117), (4, .int x4), (5, .int x5)] [] 118 0 fz c z
def t_L_law_1940 (d L : Nat) (fz t : Bool) (Q : pm_R → pm_H → Prop) (c z : Nat) (x4 : Int32) (x5 : Int32) (r : Int32) (I : Nat → Nat → Int32) (J : Nat → Nat → Int64) : Prop := pm_T (pm_Ev d) 318 Q (1940, [(0, .ref 2000000), (1, .ref 0), (2, .ref 85), (3, .ref 117), (4, .int x4), (5, .int x5)], [.int r], pm_hp L fz t I J, c, z)
def K_L_law_1940 (d : Nat) (fz t : Bool) (Q : pm_R → pm_H → Prop) (c z : Nat) (x4 : Int32) (x5 : Int32) : pm_R → pm_H → Prop := pm_K d 318 Q 1940 [(0, .ref 2000000), (1, .ref 0), (2, .ref 85), (3, .ref 117), (4, .int x4), (5, .int x5)] [] 118 0 fz c z
def t_L_law_2020 (d L : Nat) (fz t : Bool) (Q : pm_R → pm_H → Prop) (c z : Nat) (x4 : Int32) (x5 : Int32) (r : Int32) (I : Nat → Nat → Int32) (J : Nat → Nat → Int64) : Prop := pm_T (pm_Ev d) 318 Q (2020, [(0, .ref 2000000), (1, .ref 0), (2, .ref 85), (3, .ref 117), (4, .int x4), (5, .int x5)], [.int r], pm_hp L fz t I J, c, z)
def K_L_law_2020 (d : Nat) (fz t : Bool) (Q : pm_R → pm_H → Prop) (c z : Nat) (x4 : Int32) (x5 : Int32) : pm_R → pm_H → Prop := pm_K d 318 Q 2020 [(0, .ref 2000000), (1, .ref 0), (2, .ref 85), (3, .ref 117), (4, .int x4), (5, .int x5)] [] 118 0 fz c z
def t_L_law_2088 (d L : Nat) (fz t : Bool) (Q : pm_R → pm_H → Prop) (c z : Nat) (x4 : Int32) (x5 : Int32) (r : Int32) (I : Nat → Nat → Int32) (J : Nat → Nat → Int64) : Prop := pm_T (pm_Ev d) 318 Q (2088, [(0, .ref 2000000), (1, .ref 0), (2, .ref 85), (3, .ref 117), (4, .int x4), (5, .int x5)], [.int r], pm_hp L fz t I J, c, z)
def K_L_law_2088 (d : Nat) (fz t : Bool) (Q : pm_R → pm_H → Prop) (c z : Nat) (x4 : Int32) (x5 : Int32) : pm_R → pm_H → Prop := pm_K d 318 Q 2088 [(0, .ref 2000000), (1, .ref 0), (2, .ref 85), (3, .ref 117), (4, .int x4), (5, .int x5)] [] 118 0 fz c z
def t_L_law_2156 (d L : Nat) (fz t : Bool) (Q : pm_R → pm_H → Prop) (c z : Nat) (x4 : Int32) (x5 : Int32) (r : Int32) (I : Nat → Nat → Int32) (J : Nat → Nat → Int64) : Prop := pm_T (pm_Ev d) 318 Q (2156, [(0, .ref 2000000), (1, .ref 0), (2, .ref 85), (3, .ref 117), (4, .int x4), (5, .int x5)], [.int r], pm_hp L fz t I J, c, z)
def K_L_law_2156 (d : Nat) (fz t : Bool) (Q : pm_R → pm_H → Prop) (c z : Nat) (x4 : Int32) (x5 : Int32) : pm_R → pm_H → Prop := pm_K d 318 Q 2156 [(0, .ref 2000000), (1, .ref 0), (2, .ref 85), (3, .ref 117), (4, .int x4), (5, .int x5)] [] 118 0 fz c z
def t_L_law_2212 (d L : Nat) (fz t : Bool) (Q : pm_R → pm_H → Prop) (c z : Nat) (x4 : Int32) (x5 : Int32) (r : Int32) (I : Nat → Nat → Int32) (J : Nat → Nat → Int64) : Prop := pm_T (pm_Ev d) 318 Q (2212, [(0, .ref 2000000), (1, .ref 0), (2, .ref 85), (3, .ref 117), (4, .int x4), (5, .int x5)], [.int r], pm_hp L fz t I J, c, z)
def K_L_law_2212 (d : Nat) (fz t : Bool) (Q : pm_R → pm_H → Prop) (c z : Nat) (x4 : Int32) (x5 : Int32) : pm_R → pm_H → Prop := pm_K d 318 Q 2212 [(0, .ref 2000000), (1, .ref 0), (2, .ref 85), (3, .ref 117), (4, .int x4), (5, .int x5)] [] 118 0 fz c z
def t_L_law_2268 (d L : Nat) (fz t : Bool) (Q : pm_R → pm_H → Prop) (c z : Nat) (x4 : Int32) (x5 : Int32) (r : Int32) (I : Nat → Nat → Int32) (J : Nat → Nat → Int64) : Prop := pm_T (pm_Ev d) 318 Q (2268, [(0, .ref 2000000), (1, .ref 0), (2, .ref 85), (3, .ref 117), (4, .int x4), (5, .int x5)], [.int r], pm_hp L fz t I J, c, z)
def K_L_law_2268 (d : Nat) (fz t : Bool) (Q : pm_R → pm_H → Prop) (c z : Nat) (x4 : Int32) (x5 : Int32) : pm_R → pm_H → Prop := pm_K d 318 Q 2268 [(0, .ref 2000000), (1, .ref 0), (2, .ref 85), (3, .ref 117), (4, .int x4), (5, .int x5)] [] 118 0 fz c z
def t_L_law_2324 (d L : Nat) (fz t : Bool) (Q : pm_R → pm_H → Prop) (c z : Nat) (x4 : Int32) (x5 : Int32) (r : Int32) (I : Nat → Nat → Int32) (J : Nat → Nat → Int64) : Prop := pm_T (pm_Ev d) 318 Q (2324, [(0, .ref 2000000), (1, .ref 0), (2, .ref 85), (3, .ref 117), (4, .int x4), (5, .int x5)], [.int r], pm_hp L fz t I J, c, z)
def K_L_law_2324 (d : Nat) (fz t : Bool) (Q : pm_R → pm_H → Prop) (c z : Nat) (x4 : Int32) (x5 : Int32) : pm_R → pm_H → Prop := pm_K d 318 Q 2324 [(0, .ref 2000000), (1, .ref 0), (2, .ref 85), (3, .ref 117), (4, .int x4), (5, .int x5)] [] 118 0 fz c z
def t_L_law_2380 (d L : Nat) (fz t : Bool) (Q : pm_R → pm_H → Prop) (c z : Nat) (x4 : Int32) (x5 : Int32) (r : Int32) (I : Nat → Nat → Int32) (J : Nat → Nat → Int64) : Prop := pm_T (pm_Ev d) 318 Q (2380, [(0, .ref 2000000), (1, .ref 0), (2, .ref 85), (3, .ref 117), (4, .int x4), (5, .int x5)], [.int r], pm_hp L fz t I J, c, z)
def K_L_law_2380 (d : Nat) (fz t : Bool) (Q : pm_R → pm_H → Prop) (c z : Nat) (x4 : Int32) (x5 : Int32) : pm_R → pm_H → Prop := pm_K d 318 Q 2380 [(0, .ref 2000000), (1, .ref 0), (2, .ref 85), (3, .ref 117), (4, .int x4), (5, .int x5)] [] 118 0 fz c z
def t_L_law_2436 (d L : Nat) (fz t : Bool) (Q : pm_R → pm_H → Prop) (c z : Nat) (x4 : Int32) (x5 : Int32) (r : Int32) (I : Nat → Nat → Int32) (J : Nat → Nat → Int64) : Prop := pm_T (pm_Ev d) 318 Q (2436, [(0, .ref 2000000), (1, .ref 0), (2, .ref 85), (3, .ref 117), (4, .int x4), (5, .int x5)], [.int r], pm_hp L fz t I J, c, z)
def K_L_law_2436 (d : Nat) (fz t : Bool) (Q : pm_R → pm_H → Prop) (c z : Nat) (x4 : Int32) (x5 : Int32) : pm_R → pm_H → Prop := pm_K d 318 Q 2436 [(0, .ref 2000000), (1, .ref 0), (2, .ref 85), (3, .ref 117), (4, .int x4), (5, .int x5)] [] 118 0 fz c z
def t_L_law_2484 (d L : Nat) (fz t : Bool) (Q : pm_R → pm_H → Prop) (c z : Nat) (x4 : Int32) (s0 : Int32) (r : Int32) (I : Nat → Nat → Int32) (J : Nat → Nat → Int64) : Prop := pm_T (pm_Ev d) 318 Q (2484, [(0, .ref 2000000), (1, .ref 0), (2, .ref 85), (3, .ref 117), (4, .int x4)], [.int r, .int s0], pm_hp L fz t I J, c, z)
def K_L_law_2484 (d : Nat) (fz t : Bool) (Q : pm_R → pm_H → Prop) (c z : Nat) (x4 : Int32) (s0 : Int32) : pm_R → pm_H → Prop := pm_K d 318 Q 2484 [(0, .ref 2000000), (1, .ref 0), (2, .ref 85), (3, .ref 117), (4, .int x4)] [.int s0] 118 0 fz c z
def t_L_law_2497 (d L : Nat) (fz t : Bool) (Q : pm_R → pm_H → Prop) (c z : Nat) (x4 : Int32) (I : Nat → Nat → Int32) (J : Nat → Nat → Int64) : Prop := pm_T (pm_Ev d) 318 Q (2497, [(0, .ref 2000000), (1, .ref 0), (2, .ref 85), (3, .ref 117), (4, .int x4)], [], pm_hp L fz t I J, c, z)
def K_L_law_2497 (d : Nat) (fz t : Bool) (Q : pm_R → pm_H → Prop) (c z : Nat) (x4 : Int32) : pm_R → pm_H → Prop := pm_K d 318 Q 2497 [(0, .ref 2000000), (1, .ref 0), (2, .ref 85), (3, .ref 117), (4, .int x4)] [] 118 0 fz c z
def t_L_law_2508 (d L : Nat) (fz t : Bool) (Q : pm_R → pm_H → Prop) (c z : Nat) (x4 : Int32) (s0 : Int32) (r : Int32) (I : Nat → Nat → Int32) (J : Nat → Nat → Int64) : Prop := pm_T (pm_Ev d) 318 Q (2508, [(0, .ref 2000000), (1, .ref 0), (2, .ref 85), (3, .ref 117), (4, .int x4)], [.int r, .int s0], pm_hp L fz t I J, c, z)
def K_L_law_2508 (d : Nat) (fz t : Bool) (Q : pm_R → pm_H → Prop) (c z : Nat) (x4 : Int32) (s0 : Int32) : pm_R → pm_H → Prop := pm_K d 318 Q 2508 [(0, .ref 2000000), (1, .ref 0), (2, .ref 85), (3, .ref 117), (4, .int x4)] [.int s0] 118 0 fz c z
def t_L_law_326 (d L : Nat) (fz t : Bool) (Q : pm_R → pm_H → Prop) (c z : Nat) (x4 : Int32) (x5 : Int32) (x6 : Int32) (r : Int32) (I : Nat → Nat → Int32) (J : Nat → Nat → Int64) : Prop := pm_T (pm_Ev d) 318 Q (326, [(0, .ref 2000000), (1, .ref 0), (2, .ref 85), (3, .ref 117), (4, .int x4), (5, .int x5), (6, .int x6)], [.int r], pm_hp L fz t I J, c, z)
def K_L_law_326 (d : Nat) (fz t : Bool) (Q : pm_R → pm_H → Prop) (c z : Nat) (x4 : Int32) (x5 : Int32) (x6 : Int32) : pm_R → pm_H → Prop := pm_K d 318 Q 326 [(0, .ref 2000000), (1, .ref 0), (2, .ref 85), (3, .ref 117), (4, .int x4), (5, .int x5), (6, .int x6)] [] 118 0 fz c z
def t_L_law_395 (d L : Nat) (fz t : Bool) (Q : pm_R → pm_H → Prop) (c z : Nat) (x4 : Int32) (x5 : Int32) (x6 : Int32) (r : Int32) (I : Nat → Nat → Int32) (J : Nat → Nat → Int64) : Prop := pm_T (pm_Ev d) 318 Q (395, [(0, .ref 2000000), (1, .ref 0), (2, .ref 85), (3, .ref 117), (4, .int x4), (5, .int x5), (6, .int x6)], [.int r], pm_hp L fz t I J, c, z)
def K_L_law_395 (d : Nat) (fz t : Bool) (Q : pm_R → pm_H → Prop) (c z : Nat) (x4 : Int32) (x5 : Int32) (x6 : Int32) : pm_R → pm_H → Prop := pm_K d 318 Q 395 [(0, .ref 2000000), (1, .ref 0), (2, .ref 85), (3, .ref 117), (4, .int x4), (5, .int x5), (6, .int x6)] [] 118 0 fz c z
def t_L_law_463 (d L : Nat) (fz t : Bool) (Q : pm_R → pm_H → Prop) (c z : Nat) (x4 : Int32) (x5 : Int32) (x6 : Int32) (r : Int32) (I : Nat → Nat → Int32) (J : Nat → Nat → Int64) : Prop := pm_T (pm_Ev d) 318 Q (463, [(0, .ref 2000000), (1, .ref 0), (2, .ref 85), (3, .ref 117), (4, .int x4), (5, .int x5), (6, .int x6)], [.int r], pm_hp L fz t I J, c, z)
def K_L_law_463 (d : Nat) (fz t : Bool) (Q : pm_R → pm_H → Prop) (c z : Nat) (x4 : Int32) (x5 : Int32) (x6 : Int32) : pm_R → pm_H → Prop := pm_K d 318 Q 463 [(0, .ref 2000000), (1, .ref 0), (2, .ref 85), (3, .ref 117), (4, .int x4), (5, .int x5), (6, .int x6)] [] 118 0 fz c z
def t_L_law_519 (d L : Nat) (fz t : Bool) (Q : pm_R → pm_H → Prop) (c z : Nat) (x4 : Int32) (x5 : Int32) (x6 : Int32) (r : Int32) (I : Nat → Nat → Int32) (J : Nat → Nat → Int64) : Prop := pm_T (pm_Ev d) 318 Q (519, [(0, .ref 2000000), (1, .ref 0), (2, .ref 85), (3, .ref 117), (4, .int x4), (5, .int x5), (6, .int x6)], [.int r], pm_hp L fz t I J, c, z)
def K_L_law_519 (d : Nat) (fz t : Bool) (Q : pm_R → pm_H → Prop) (c z : Nat) (x4 : Int32) (x5 : Int32) (x6 : Int32) : pm_R → pm_H → Prop := pm_K d 318 Q 519 [(0, .ref 2000000), (1, .ref 0), (2, .ref 85), (3, .ref 117), (4, .int x4), (5, .int x5), (6, .int x6)] [] 118 0 fz c z
def t_L_law_587 (d L : Nat) (fz t : Bool) (Q : pm_R → pm_H → Prop) (c z : Nat) (x4 : Int32) (x5 : Int32) (x6 : Int32) (r : Int32) (I : Nat → Nat → Int32) (J : Nat → Nat → Int64) : Prop := pm_T (pm_Ev d) 318 Q (587, [(0, .ref 2000000), (1, .ref 0), (2, .ref 85), (3, .ref 117), (4, .int x4), (5, .int x5), (6, .int x6)], [.int r], pm_hp L fz t I J, c, z)
def K_L_law_587 (d : Nat) (fz t : Bool) (Q : pm_R → pm_H → Prop) (c z : Nat) (x4 : Int32) (x5 : Int32) (x6 : Int32) : pm_R → pm_H → Prop := pm_K d 318 Q 587 [(0, .ref 2000000), (1, .ref 0), (2, .ref 85), (3, .ref 117), (4, .int x4), (5, .int x5), (6, .int x6)] [] 118 0 fz c z
def t_L_law_655 (d L : Nat) (fz t : Bool) (Q : pm_R → pm_H → Prop) (c z : Nat) (x4 : Int32) (x5 : Int32) (x6 : Int32) (r : Int32) (I : Nat → Nat → Int32) (J : Nat → Nat → Int64) : Prop := pm_T (pm_Ev d) 318 Q (655, [(0, .ref 2000000), (1, .ref 0), (2, .ref 85), (3, .ref 117), (4, .int x4), (5, .int x5), (6, .int x6)], [.int r], pm_hp L fz t I J, c, z)
def K_L_law_655 (d : Nat) (fz t : Bool) (Q : pm_R → pm_H → Prop) (c z : Nat) (x4 : Int32) (x5 : Int32) (x6 : Int32) : pm_R → pm_H → Prop := pm_K d 318 Q 655 [(0, .ref 2000000), (1, .ref 0), (2, .ref 85), (3, .ref 117), (4, .int x4), (5, .int x5), (6, .int x6)] [] 118 0 fz c z
def t_L_law_748 (d L : Nat) (fz t : Bool) (Q : pm_R → pm_H → Prop) (c z : Nat) (x4 : Int32) (x5 : Int32) (x6 : Int32) (r : Int32) (I : Nat → Nat → Int32) (J : Nat → Nat → Int64) : Prop := pm_T (pm_Ev d) 318 Q (748, [(0, .ref 2000000), (1, .ref 0), (2, .ref 85), (3, .ref 117), (4, .int x4), (5, .int x5), (6, .int x6)], [.int r], pm_hp L fz t I J, c, z)
def K_L_law_748 (d : Nat) (fz t : Bool) (Q : pm_R → pm_H → Prop) (c z : Nat) (x4 : Int32) (x5 : Int32) (x6 : Int32) : pm_R → pm_H → Prop := pm_K d 318 Q 748 [(0, .ref 2000000), (1, .ref 0), (2, .ref 85), (3, .ref 117), (4, .int x4), (5, .int x5), (6, .int x6)] [] 118 0 fz c z
def t_L_law_804 (d L : Nat) (fz t : Bool) (Q : pm_R → pm_H → Prop) (c z : Nat) (x4 : Int32) (x5 : Int32) (x6 : Int32) (r : Int32) (I : Nat → Nat → Int32) (J : Nat → Nat → Int64) : Prop := pm_T (pm_Ev d) 318 Q (804, [(0, .ref 2000000), (1, .ref 0), (2, .ref 85), (3, .ref 117), (4, .int x4), (5, .int x5), (6, .int x6)], [.int r], pm_hp L fz t I J, c, z)
def K_L_law_804 (d : Nat) (fz t : Bool) (Q : pm_R → pm_H → Prop) (c z : Nat) (x4 : Int32) (x5 : Int32) (x6 : Int32) : pm_R → pm_H → Prop := pm_K d 318 Q 804 [(0, .ref 2000000), (1, .ref 0), (2, .ref 85), (3, .ref 117), (4, .int x4), (5, .int x5), (6, .int x6)] [] 118 0 fz c z
def t_L_law_860 (d L : Nat) (fz t : Bool) (Q : pm_R → pm_H → Prop) (c z : Nat) (x4 : Int32) (x5 : Int32) (x6 : Int32) (r : Int32) (I : Nat → Nat → Int32) (J : Nat → Nat → Int64) : Prop := pm_T (pm_Ev d) 318 Q (860, [(0, .ref 2000000), (1, .ref 0), (2, .ref 85), (3, .ref 117), (4, .int x4), (5, .int x5), (6, .int x6)], [.int r], pm_hp L fz t I J, c, z)
def K_L_law_860 (d : Nat) (fz t : Bool) (Q : pm_R → pm_H → Prop) (c z : Nat) (x4 : Int32) (x5 : Int32) (x6 : Int32) : pm_R → pm_H → Prop := pm_K d 318 Q 860 [(0, .ref 2000000), (1, .ref 0), (2, .ref 85), (3, .ref 117), (4, .int x4), (5, .int x5), (6, .int x6)] [] 118 0 fz c z
def t_L_law_978 (d L : Nat) (fz t : Bool) (Q : pm_R → pm_H → Prop) (c z : Nat) (x4 : Int32) (x5 : Int32) (x6 : Int32) (r : Int32) (I : Nat → Nat → Int32) (J : Nat → Nat → Int64) : Prop := pm_T (pm_Ev d) 318 Q (978, [(0, .ref 2000000), (1, .ref 0), (2, .ref 85), (3, .ref 117), (4, .int x4), (5, .int x5), (6, .int x6)], [.int r], pm_hp L fz t I J, c, z)
def K_L_law_978 (d : Nat) (fz t : Bool) (Q : pm_R → pm_H → Prop) (c z : Nat) (x4 : Int32) (x5 : Int32) (x6 : Int32) : pm_R → pm_H → Prop := pm_K d 318 Q 978 [(0, .ref 2000000), (1, .ref 0), (2, .ref 85), (3, .ref 117), (4, .int x4), (5, .int x5), (6, .int x6)] [] 118 0 fz c z
def t_L_law_1034 (d L : Nat) (fz t : Bool) (Q : pm_R → pm_H → Prop) (c z : Nat) (x4 : Int32) (x5 : Int32) (x6 : Int32) (r : Int32) (I : Nat → Nat → Int32) (J : Nat → Nat → Int64) : Prop := pm_T (pm_Ev d) 318 Q (1034, [(0, .ref 2000000), (1, .ref 0), (2, .ref 85), (3, .ref 117), (4, .int x4), (5, .int x5), (6, .int x6)], [.int r], pm_hp L fz t I J, c, z)
def K_L_law_1034 (d : Nat) (fz t : Bool) (Q : pm_R → pm_H → Prop) (c z : Nat) (x4 : Int32) (x5 : Int32) (x6 : Int32) : pm_R → pm_H → Prop := pm_K d 318 Q 1034 [(0, .ref 2000000), (1, .ref 0), (2, .ref 85), (3, .ref 117), (4, .int x4), (5, .int x5), (6, .int x6)] [] 118 0 fz c z
def t_L_law_1090 (d L : Nat) (fz t : Bool) (Q : pm_R → pm_H → Prop) (c z : Nat) (x4 : Int32) (x5 : Int32) (x6 : Int32) (r : Int32) (I : Nat → Nat → Int32) (J : Nat → Nat → Int64) : Prop := pm_T (pm_Ev d) 318 Q (1090, [(0, .ref 2000000), (1, .ref 0), (2, .ref 85), (3, .ref 117), (4, .int x4), (5, .int x5), (6, .int x6)], [.int r], pm_hp L fz t I J, c, z)
def K_L_law_1090 (d : Nat) (fz t : Bool) (Q : pm_R → pm_H → Prop) (c z : Nat) (x4 : Int32) (x5 : Int32) (x6 : Int32) : pm_R → pm_H → Prop := pm_K d 318 Q 1090 [(0, .ref 2000000), (1, .ref 0), (2, .ref 85), (3, .ref 117), (4, .int x4), (5, .int x5), (6, .int x6)] [] 118 0 fz c z
def t_L_law_1159 (d L : Nat) (fz t : Bool) (Q : pm_R → pm_H → Prop) (c z : Nat) (x4 : Int32) (x5 : Int32) (x6 : Int32) (r : Int32) (I : Nat → Nat → Int32) (J : Nat → Nat → Int64) : Prop := pm_T (pm_Ev d) 318 Q (1159, [(0, .ref 2000000), (1, .ref 0), (2, .ref 85), (3, .ref 117), (4, .int x4), (5, .int x5), (6, .int x6)], [.int r], pm_hp L fz t I J, c, z)
def K_L_law_1159 (d : Nat) (fz t : Bool) (Q : pm_R → pm_H → Prop) (c z : Nat) (x4 : Int32) (x5 : Int32) (x6 : Int32) : pm_R → pm_H → Prop := pm_K d 318 Q 1159 [(0, .ref 2000000), (1, .ref 0), (2, .ref 85), (3, .ref 117), (4, .int x4), (5, .int x5), (6, .int x6)] [] 118 0 fz c z
def t_L_law_1227 (d L : Nat) (fz t : Bool) (Q : pm_R → pm_H → Prop) (c z : Nat) (x4 : Int32) (x5 : Int32) (x6 : Int32) (r : Int32) (I : Nat → Nat → Int32) (J : Nat → Nat → Int64) : Prop := pm_T (pm_Ev d) 318 Q (1227, [(0, .ref 2000000), (1, .ref 0), (2, .ref 85), (3, .ref 117), (4, .int x4), (5, .int x5), (6, .int x6)], [.int r], pm_hp L fz t I J, c, z)
def K_L_law_1227 (d : Nat) (fz t : Bool) (Q : pm_R → pm_H → Prop) (c z : Nat) (x4 : Int32) (x5 : Int32) (x6 : Int32) : pm_R → pm_H → Prop := pm_K d 318 Q 1227 [(0, .ref 2000000), (1, .ref 0), (2, .ref 85), (3, .ref 117), (4, .int x4), (5, .int x5), (6, .int x6)] [] 118 0 fz c z
def t_L_law_1283 (d L : Nat) (fz t : Bool) (Q : pm_R → pm_H → Prop) (c z : Nat) (x4 : Int32) (x5 : Int32) (x6 : Int32) (r : Int32) (I : Nat → Nat → Int32) (J : Nat → Nat → Int64) : Prop := pm_T (pm_Ev d) 318 Q (1283, [(0, .ref 2000000), (1, .ref 0), (2, .ref 85), (3, .ref 117), (4, .int x4), (5, .int x5), (6, .int x6)], [.int r], pm_hp L fz t I J, c, z)
def K_L_law_1283 (d : Nat) (fz t : Bool) (Q : pm_R → pm_H → Prop) (c z : Nat) (x4 : Int32) (x5 : Int32) (x6 : Int32) : pm_R → pm_H → Prop := pm_K d 318 Q 1283 [(0, .ref 2000000), (1, .ref 0), (2, .ref 85), (3, .ref 117), (4, .int x4), (5, .int x5), (6, .int x6)] [] 118 0 fz c z
def t_L_law_1363 (d L : Nat) (fz t : Bool) (Q : pm_R → pm_H → Prop) (c z : Nat) (x4 : Int32) (x5 : Int32) (x6 : Int32) (r : Int32) (I : Nat → Nat → Int32) (J : Nat → Nat → Int64) : Prop := pm_T (pm_Ev d) 318 Q (1363, [(0, .ref 2000000), (1, .ref 0), (2, .ref 85), (3, .ref 117), (4, .int x4), (5, .int x5), (6, .int x6)], [.int r], pm_hp L fz t I J, c, z)
def K_L_law_1363 (d : Nat) (fz t : Bool) (Q : pm_R → pm_H → Prop) (c z : Nat) (x4 : Int32) (x5 : Int32) (x6 : Int32) : pm_R → pm_H → Prop := pm_K d 318 Q 1363 [(0, .ref 2000000), (1, .ref 0), (2, .ref 85), (3, .ref 117), (4, .int x4), (5, .int x5), (6, .int x6)] [] 118 0 fz c z
def t_L_law_1419 (d L : Nat) (fz t : Bool) (Q : pm_R → pm_H → Prop) (c z : Nat) (x4 : Int32) (x5 : Int32) (x6 : Int32) (r : Int32) (I : Nat → Nat → Int32) (J : Nat → Nat → Int64) : Prop := pm_T (pm_Ev d) 318 Q (1419, [(0, .ref 2000000), (1, .ref 0), (2, .ref 85), (3, .ref 117), (4, .int x4), (5, .int x5), (6, .int x6)], [.int r], pm_hp L fz t I J, c, z)
def K_L_law_1419 (d : Nat) (fz t : Bool) (Q : pm_R → pm_H → Prop) (c z : Nat) (x4 : Int32) (x5 : Int32) (x6 : Int32) : pm_R → pm_H → Prop := pm_K d 318 Q 1419 [(0, .ref 2000000), (1, .ref 0), (2, .ref 85), (3, .ref 117), (4, .int x4), (5, .int x5), (6, .int x6)] [] 118 0 fz c z
def t_L_law_1527 (d L : Nat) (fz t : Bool) (Q : pm_R → pm_H → Prop) (c z : Nat) (x4 : Int32) (x5 : Int32) (x6 : Int32) (r : Int32) (I : Nat → Nat → Int32) (J : Nat → Nat → Int64) : Prop := pm_T (pm_Ev d) 318 Q (1527, [(0, .ref 2000000), (1, .ref 0), (2, .ref 85), (3, .ref 117), (4, .int x4), (5, .int x5), (6, .int x6)], [.int r], pm_hp L fz t I J, c, z)
def K_L_law_1527 (d : Nat) (fz t : Bool) (Q : pm_R → pm_H → Prop) (c z : Nat) (x4 : Int32) (x5 : Int32) (x6 : Int32) : pm_R → pm_H → Prop := pm_K d 318 Q 1527 [(0, .ref 2000000), (1, .ref 0), (2, .ref 85), (3, .ref 117), (4, .int x4), (5, .int x5), (6, .int x6)] [] 118 0 fz c z
def t_L_law_1594 (d L : Nat) (fz t : Bool) (Q : pm_R → pm_H → Prop) (c z : Nat) (x4 : Int32) (x5 : Int32) (x6 : Int32) (r : Int32) (I : Nat → Nat → Int32) (J : Nat → Nat → Int64) : Prop := pm_T (pm_Ev d) 318 Q (1594, [(0, .ref 2000000), (1, .ref 0), (2, .ref 85), (3, .ref 117), (4, .int x4), (5, .int x5), (6, .int x6)], [.int r], pm_hp L fz t I J, c, z)
def K_L_law_1594 (d : Nat) (fz t : Bool) (Q : pm_R → pm_H → Prop) (c z : Nat) (x4 : Int32) (x5 : Int32) (x6 : Int32) : pm_R → pm_H → Prop := pm_K d 318 Q 1594 [(0, .ref 2000000), (1, .ref 0), (2, .ref 85), (3, .ref 117), (4, .int x4), (5, .int x5), (6, .int x6)] [] 118 0 fz c z
def t_L_law_1662 (d L : Nat) (fz t : Bool) (Q : pm_R → pm_H → Prop) (c z : Nat) (x4 : Int32) (x5 : Int32) (x6 : Int32) (r : Int32) (I : Nat → Nat → Int32) (J : Nat → Nat → Int64) : Prop := pm_T (pm_Ev d) 318 Q (1662, [(0, .ref 2000000), (1, .ref 0), (2, .ref 85), (3, .ref 117), (4, .int x4), (5, .int x5), (6, .int x6)], [.int r], pm_hp L fz t I J, c, z)
def K_L_law_1662 (d : Nat) (fz t : Bool) (Q : pm_R → pm_H → Prop) (c z : Nat) (x4 : Int32) (x5 : Int32) (x6 : Int32) : pm_R → pm_H → Prop := pm_K d 318 Q 1662 [(0, .ref 2000000), (1, .ref 0), (2, .ref 85), (3, .ref 117), (4, .int x4), (5, .int x5), (6, .int x6)] [] 118 0 fz c z
def t_L_law_1718 (d L : Nat) (fz t : Bool) (Q : pm_R → pm_H → Prop) (c z : Nat) (x4 : Int32) (x5 : Int32) (x6 : Int32) (r : Int32) (I : Nat → Nat → Int32) (J : Nat → Nat → Int64) : Prop := pm_T (pm_Ev d) 318 Q (1718, [(0, .ref 2000000), (1, .ref 0), (2, .ref 85), (3, .ref 117), (4, .int x4), (5, .int x5), (6, .int x6)], [.int r], pm_hp L fz t I J, c, z)
def K_L_law_1718 (d : Nat) (fz t : Bool) (Q : pm_R → pm_H → Prop) (c z : Nat) (x4 : Int32) (x5 : Int32) (x6 : Int32) : pm_R → pm_H → Prop := pm_K d 318 Q 1718 [(0, .ref 2000000), (1, .ref 0), (2, .ref 85), (3, .ref 117), (4, .int x4), (5, .int x5), (6, .int x6)] [] 118 0 fz c z
def t_L_law_1810 (d L : Nat) (fz t : Bool) (Q : pm_R → pm_H → Prop) (c z : Nat) (x4 : Int32) (x5 : Int32) (x6 : Int32) (r : Int32) (I : Nat → Nat → Int32) (J : Nat → Nat → Int64) : Prop := pm_T (pm_Ev d) 318 Q (1810, [(0, .ref 2000000), (1, .ref 0), (2, .ref 85), (3, .ref 117), (4, .int x4), (5, .int x5), (6, .int x6)], [.int r], pm_hp L fz t I J, c, z)
def K_L_law_1810 (d : Nat) (fz t : Bool) (Q : pm_R → pm_H → Prop) (c z : Nat) (x4 : Int32) (x5 : Int32) (x6 : Int32) : pm_R → pm_H → Prop := pm_K d 318 Q 1810 [(0, .ref 2000000), (1, .ref 0), (2, .ref 85), (3, .ref 117), (4, .int x4), (5, .int x5), (6, .int x6)] [] 118 0 fz c z
def t_L_law_1866 (d L : Nat) (fz t : Bool) (Q : pm_R → pm_H → Prop) (c z : Nat) (x4 : Int32) (x5 : Int32) (x6 : Int32) (r : Int32) (I : Nat → Nat → Int32) (J : Nat → Nat → Int64) : Prop := pm_T (pm_Ev d) 318 Q (1866, [(0, .ref 2000000), (1, .ref 0), (2, .ref 85), (3, .ref 117), (4, .int x4), (5, .int x5), (6, .int x6)], [.int r], pm_hp L fz t I J, c, z)
def K_L_law_1866 (d : Nat) (fz t : Bool) (Q : pm_R → pm_H → Prop) (c z : Nat) (x4 : Int32) (x5 : Int32) (x6 : Int32) : pm_R → pm_H → Prop := pm_K d 318 Q 1866 [(0, .ref 2000000), (1, .ref 0), (2, .ref 85), (3, .ref 117), (4, .int x4), (5, .int x5), (6, .int x6)] [] 118 0 fz c z
def t_L_law_1946 (d L : Nat) (fz t : Bool) (Q : pm_R → pm_H → Prop) (c z : Nat) (x4 : Int32) (x5 : Int32) (x6 : Int32) (r : Int32) (I : Nat → Nat → Int32) (J : Nat → Nat → Int64) : Prop := pm_T (pm_Ev d) 318 Q (1946, [(0, .ref 2000000), (1, .ref 0), (2, .ref 85), (3, .ref 117), (4, .int x4), (5, .int x5), (6, .int x6)], [.int r], pm_hp L fz t I J, c, z)
def K_L_law_1946 (d : Nat) (fz t : Bool) (Q : pm_R → pm_H → Prop) (c z : Nat) (x4 : Int32) (x5 : Int32) (x6 : Int32) : pm_R → pm_H → Prop := pm_K d 318 Q 1946 [(0, .ref 2000000), (1, .ref 0), (2, .ref 85), (3, .ref 117), (4, .int x4), (5, .int x5), (6, .int x6)] [] 118 0 fz c z
def t_L_law_2026 (d L : Nat) (fz t : Bool) (Q : pm_R → pm_H → Prop) (c z : Nat) (x4 : Int32) (x5 : Int32) (x6 : Int32) (r : Int32) (I : Nat → Nat → Int32) (J : Nat → Nat → Int64) : Prop := pm_T (pm_Ev d) 318 Q (2026, [(0, .ref 2000000), (1, .ref 0), (2, .ref 85), (3, .ref 117), (4, .int x4), (5, .int x5), (6, .int x6)], [.int r], pm_hp L fz t I J, c, z)
def K_L_law_2026 (d : Nat) (fz t : Bool) (Q : pm_R → pm_H → Prop) (c z : Nat) (x4 : Int32) (x5 : Int32) (x6 : Int32) : pm_R → pm_H → Prop := pm_K d 318 Q 2026 [(0, .ref 2000000), (1, .ref 0), (2, .ref 85), (3, .ref 117), (4, .int x4), (5, .int x5), (6, .int x6)] [] 118 0 fz c z
def t_L_law_2094 (d L : Nat) (fz t : Bool) (Q : pm_R → pm_H → Prop) (c z : Nat) (x4 : Int32) (x5 : Int32) (x6 : Int32) (r : Int32) (I : Nat → Nat → Int32) (J : Nat → Nat → Int64) : Prop := pm_T (pm_Ev d) 318 Q (2094, [(0, .ref 2000000), (1, .ref 0), (2, .ref 85), (3, .ref 117), (4, .int x4), (5, .int x5), (6, .int x6)], [.int r], pm_hp L fz t I J, c, z)
def K_L_law_2094 (d : Nat) (fz t : Bool) (Q : pm_R → pm_H → Prop) (c z : Nat) (x4 : Int32) (x5 : Int32) (x6 : Int32) : pm_R → pm_H → Prop := pm_K d 318 Q 2094 [(0, .ref 2000000), (1, .ref 0), (2, .ref 85), (3, .ref 117), (4, .int x4), (5, .int x5), (6, .int x6)] [] 118 0 fz c z
def t_L_law_2162 (d L : Nat) (fz t : Bool) (Q : pm_R → pm_H → Prop) (c z : Nat) (x4 : Int32) (x5 : Int32) (x6 : Int32) (r : Int32) (I : Nat → Nat → Int32) (J : Nat → Nat → Int64) : Prop := pm_T (pm_Ev d) 318 Q (2162, [(0, .ref 2000000), (1, .ref 0), (2, .ref 85), (3, .ref 117), (4, .int x4), (5, .int x5), (6, .int x6)], [.int r], pm_hp L fz t I J, c, z)
def K_L_law_2162 (d : Nat) (fz t : Bool) (Q : pm_R → pm_H → Prop) (c z : Nat) (x4 : Int32) (x5 : Int32) (x6 : Int32) : pm_R → pm_H → Prop := pm_K d 318 Q 2162 [(0, .ref 2000000), (1, .ref 0), (2, .ref 85), (3, .ref 117), (4, .int x4), (5, .int x5), (6, .int x6)] [] 118 0 fz c z
def t_L_law_2218 (d L : Nat) (fz t : Bool) (Q : pm_R → pm_H → Prop) (c z : Nat) (x4 : Int32) (x5 : Int32) (x6 : Int32) (r : Int32) (I : Nat → Nat → Int32) (J : Nat → Nat → Int64) : Prop := pm_T (pm_Ev d) 318 Q (2218, [(0, .ref 2000000), (1, .ref 0), (2, .ref 85), (3, .ref 117), (4, .int x4), (5, .int x5), (6, .int x6)], [.int r], pm_hp L fz t I J, c, z)
def K_L_law_2218 (d : Nat) (fz t : Bool) (Q : pm_R → pm_H → Prop) (c z : Nat) (x4 : Int32) (x5 : Int32) (x6 : Int32) : pm_R → pm_H → Prop := pm_K d 318 Q 2218 [(0, .ref 2000000), (1, .ref 0), (2, .ref 85), (3, .ref 117), (4, .int x4), (5, .int x5), (6, .int x6)] [] 118 0 fz c z
def t_L_law_2274 (d L : Nat) (fz t : Bool) (Q : pm_R → pm_H → Prop) (c z : Nat) (x4 : Int32) (x5 : Int32) (x6 : Int32) (r : Int32) (I : Nat → Nat → Int32) (J : Nat → Nat → Int64) : Prop := pm_T (pm_Ev d) 318 Q (2274, [(0, .ref 2000000), (1, .ref 0), (2, .ref 85), (3, .ref 117), (4, .int x4), (5, .int x5), (6, .int x6)], [.int r], pm_hp L fz t I J, c, z)
def K_L_law_2274 (d : Nat) (fz t : Bool) (Q : pm_R → pm_H → Prop) (c z : Nat) (x4 : Int32) (x5 : Int32) (x6 : Int32) : pm_R → pm_H → Prop := pm_K d 318 Q 2274 [(0, .ref 2000000), (1, .ref 0), (2, .ref 85), (3, .ref 117), (4, .int x4), (5, .int x5), (6, .int x6)] [] 118 0 fz c z
def t_L_law_2330 (d L : Nat) (fz t : Bool) (Q : pm_R → pm_H → Prop) (c z : Nat) (x4 : Int32) (x5 : Int32) (x6 : Int32) (r : Int32) (I : Nat → Nat → Int32) (J : Nat → Nat → Int64) : Prop := pm_T (pm_Ev d) 318 Q (2330, [(0, .ref 2000000), (1, .ref 0), (2, .ref 85), (3, .ref 117), (4, .int x4), (5, .int x5), (6, .int x6)], [.int r], pm_hp L fz t I J, c, z)
def K_L_law_2330 (d : Nat) (fz t : Bool) (Q : pm_R → pm_H → Prop) (c z : Nat) (x4 : Int32) (x5 : Int32) (x6 : Int32) : pm_R → pm_H → Prop := pm_K d 318 Q 2330 [(0, .ref 2000000), (1, .ref 0), (2, .ref 85), (3, .ref 117), (4, .int x4), (5, .int x5), (6, .int x6)] [] 118 0 fz c z
def t_L_law_2386 (d L : Nat) (fz t : Bool) (Q : pm_R → pm_H → Prop) (c z : Nat) (x4 : Int32) (x5 : Int32) (x6 : Int32) (r : Int32) (I : Nat → Nat → Int32) (J : Nat → Nat → Int64) : Prop := pm_T (pm_Ev d) 318 Q (2386, [(0, .ref 2000000), (1, .ref 0), (2, .ref 85), (3, .ref 117), (4, .int x4), (5, .int x5), (6, .int x6)], [.int r], pm_hp L fz t I J, c, z)
def K_L_law_2386 (d : Nat) (fz t : Bool) (Q : pm_R → pm_H → Prop) (c z : Nat) (x4 : Int32) (x5 : Int32) (x6 : Int32) : pm_R → pm_H → Prop := pm_K d 318 Q 2386 [(0, .ref 2000000), (1, .ref 0), (2, .ref 85), (3, .ref 117), (4, .int x4), (5, .int x5), (6, .int x6)] [] 118 0 fz c z
def t_L_law_2442 (d L : Nat) (fz t : Bool) (Q : pm_R → pm_H → Prop) (c z : Nat) (x4 : Int32) (x5 : Int32) (x6 : Int32) (r : Int32) (I : Nat → Nat → Int32) (J : Nat → Nat → Int64) : Prop := pm_T (pm_Ev d) 318 Q (2442, [(0, .ref 2000000), (1, .ref 0), (2, .ref 85), (3, .ref 117), (4, .int x4), (5, .int x5), (6, .int x6)], [.int r], pm_hp L fz t I J, c, z)
def K_L_law_2442 (d : Nat) (fz t : Bool) (Q : pm_R → pm_H → Prop) (c z : Nat) (x4 : Int32) (x5 : Int32) (x6 : Int32) : pm_R → pm_H → Prop := pm_K d 318 Q 2442 [(0, .ref 2000000), (1, .ref 0), (2, .ref 85), (3, .ref 117), (4, .int x4), (5, .int x5), (6, .int x6)] [] 118 0 fz c z
set_option maxRecDepth 100000 in
theorem b_L_law_23 {d L : Nat} {fz t : Bool} {Q : pm_R → pm_H → Prop} {c z : Nat} {x4 : Int32} {I : Nat → Nat → Int32} {J : Nat → Nat → Int64} (hc : c ≤ 600000) (hz : z ≤ 7200000)
    (h : ((((nI L) - (nI 6)) < x4 → Q (.inl (some (.int (nI 1)))) (pm_hp L fz t I J)) ∧ (¬ ((nI L) - (nI 6)) < x4 → (vp_in x4 L ∧ (((((I 2000000 (x4).toNatClampNeg) &&& (nI 63))).toInt < 0 ∨ 41 < (((I 2000000 (x4).toNatClampNeg) &&& (nI 63))).toInt → t_L_law_2513 d L fz t Q c z x4 I J) ∧ ((((I 2000000 (x4).toNatClampNeg) &&& (nI 63))).toInt = 0 → t_L_law_224 d L fz t Q c z x4 I J) ∧ ((((I 2000000 (x4).toNatClampNeg) &&& (nI 63))).toInt = 1 → t_L_law_297 d L fz t Q c z x4 I J) ∧ ((((I 2000000 (x4).toNatClampNeg) &&& (nI 63))).toInt = 2 → t_L_law_353 d L fz t Q c z x4 I J) ∧ ((((I 2000000 (x4).toNatClampNeg) &&& (nI 63))).toInt = 3 → t_L_law_366 d L fz t Q c z x4 I J) ∧ ((((I 2000000 (x4).toNatClampNeg) &&& (nI 63))).toInt = 4 → t_L_law_422 d L fz t Q c z x4 I J) ∧ ((((I 2000000 (x4).toNatClampNeg) &&& (nI 63))).toInt = 5 → t_L_law_490 d L fz t Q c z x4 I J) ∧ ((((I 2000000 (x4).toNatClampNeg) &&& (nI 63))).toInt = 6 → t_L_law_546 d L fz t Q c z x4 I J) ∧ ((((I 2000000 (x4).toNatClampNeg) &&& (nI 63))).toInt = 7 → t_L_law_614 d L fz t Q c z x4 I J) ∧ ((((I 2000000 (x4).toNatClampNeg) &&& (nI 63))).toInt = 8 → t_L_law_682 d L fz t Q c z x4 I J) ∧ ((((I 2000000 (x4).toNatClampNeg) &&& (nI 63))).toInt = 9 → t_L_law_707 d L fz t Q c z x4 I J) ∧ ((((I 2000000 (x4).toNatClampNeg) &&& (nI 63))).toInt = 10 → t_L_law_775 d L fz t Q c z x4 I J) ∧ ((((I 2000000 (x4).toNatClampNeg) &&& (nI 63))).toInt = 11 → t_L_law_831 d L fz t Q c z x4 I J) ∧ ((((I 2000000 (x4).toNatClampNeg) &&& (nI 63))).toInt = 12 → t_L_law_887 d L fz t Q c z x4 I J) ∧ ((((I 2000000 (x4).toNatClampNeg) &&& (nI 63))).toInt = 13 → t_L_law_924 d L fz t Q c z x4 I J) ∧ ((((I 2000000 (x4).toNatClampNeg) &&& (nI 63))).toInt = 14 → t_L_law_937 d L fz t Q c z x4 I J) ∧ ((((I 2000000 (x4).toNatClampNeg) &&& (nI 63))).toInt = 15 → t_L_law_1005 d L fz t Q c z x4 I J) ∧ ((((I 2000000 (x4).toNatClampNeg) &&& (nI 63))).toInt = 16 → t_L_law_1061 d L fz t Q c z x4 I J) ∧ ((((I 2000000 (x4).toNatClampNeg) &&& (nI 63))).toInt = 17 → t_L_law_1117 d L fz t Q c z x4 I J) ∧ ((((I 2000000 (x4).toNatClampNeg) &&& (nI 63))).toInt = 18 → t_L_law_1130 d L fz t Q c z x4 I J) ∧ ((((I 2000000 (x4).toNatClampNeg) &&& (nI 63))).toInt = 19 → t_L_law_1186 d L fz t Q c z x4 I J) ∧ ((((I 2000000 (x4).toNatClampNeg) &&& (nI 63))).toInt = 20 → t_L_law_1254 d L fz t Q c z x4 I J) ∧ ((((I 2000000 (x4).toNatClampNeg) &&& (nI 63))).toInt = 21 → t_L_law_1310 d L fz t Q c z x4 I J) ∧ ((((I 2000000 (x4).toNatClampNeg) &&& (nI 63))).toInt = 22 → t_L_law_1390 d L fz t Q c z x4 I J) ∧ ((((I 2000000 (x4).toNatClampNeg) &&& (nI 63))).toInt = 23 → t_L_law_1446 d L fz t Q c z x4 I J) ∧ ((((I 2000000 (x4).toNatClampNeg) &&& (nI 63))).toInt = 24 → t_L_law_1554 d L fz t Q c z x4 I J) ∧ ((((I 2000000 (x4).toNatClampNeg) &&& (nI 63))).toInt = 25 → t_L_law_1565 d L fz t Q c z x4 I J) ∧ ((((I 2000000 (x4).toNatClampNeg) &&& (nI 63))).toInt = 26 → t_L_law_1621 d L fz t Q c z x4 I J) ∧ ((((I 2000000 (x4).toNatClampNeg) &&& (nI 63))).toInt = 27 → t_L_law_1689 d L fz t Q c z x4 I J) ∧ ((((I 2000000 (x4).toNatClampNeg) &&& (nI 63))).toInt = 28 → t_L_law_1745 d L fz t Q c z x4 I J) ∧ ((((I 2000000 (x4).toNatClampNeg) &&& (nI 63))).toInt = 29 → t_L_law_1837 d L fz t Q c z x4 I J) ∧ ((((I 2000000 (x4).toNatClampNeg) &&& (nI 63))).toInt = 30 → t_L_law_1893 d L fz t Q c z x4 I J) ∧ ((((I 2000000 (x4).toNatClampNeg) &&& (nI 63))).toInt = 31 → t_L_law_1973 d L fz t Q c z x4 I J) ∧ ((((I 2000000 (x4).toNatClampNeg) &&& (nI 63))).toInt = 32 → t_L_law_2053 d L fz t Q c z x4 I J) ∧ ((((I 2000000 (x4).toNatClampNeg) &&& (nI 63))).toInt = 33 → t_L_law_2121 d L fz t Q c z x4 I J) ∧ ((((I 2000000 (x4).toNatClampNeg) &&& (nI 63))).toInt = 34 → t_L_law_2189 d L fz t Q c z x4 I J) ∧ ((((I 2000000 (x4).toNatClampNeg) &&& (nI 63))).toInt = 35 → t_L_law_2245 d L fz t Q c z x4 I J) ∧ ((((I 2000000 (x4).toNatClampNeg) &&& (nI 63))).toInt = 36 → t_L_law_2301 d L fz t Q c z x4 I J) ∧ ((((I 2000000 (x4).toNatClampNeg) &&& (nI 63))).toInt = 37 → t_L_law_2357 d L fz t Q c z x4 I J) ∧ ((((I 2000000 (x4).toNatClampNeg) &&& (nI 63))).toInt = 38 → t_L_law_2413 d L fz t Q c z x4 I J) ∧ ((((I 2000000 (x4).toNatClampNeg) &&& (nI 63))).toInt = 39 → t_L_law_2476 d L fz t Q c z x4 I J) ∧ ((((I 2000000 (x4).toNatClampNeg) &&& (nI 63))).toInt = 40 → t_L_law_2489 d L fz t Q c z x4 I J) ∧ ((((I 2000000 (x4).toNatClampNeg) &&& (nI 63))).toInt = 41 → t_L_law_2500 d L fz t Q c z x4 I J)))))) :
    t_L_law_23 d L fz t Q c z x4 I J := by
  exact pm_go d pm_lcs 400 ⟨fun q0 => ⟨Or.inr rfl, (pm_bt (pm_lr hc hz) ((h).1 q0))⟩, fun q0 => ⟨(((h).2 q0)).1, ⟨fun q1 => (((((h).2 q0)).2).1 q1), fun q1 => ((((((h).2 q0)).2).2).1 q1), fun q1 => (((((((h).2 q0)).2).2).2).1 q1), fun q1 => ((((((((h).2 q0)).2).2).2).2).1 q1), fun q1 => (((((((((h).2 q0)).2).2).2).2).2).1 q1), fun q1 => ((((((((((h).2 q0)).2).2).2).2).2).2).1 q1), fun q1 => (((((((((((h).2 q0)).2).2).2).2).2).2).2).1 q1), fun q1 => ((((((((((((h).2 q0)).2).2).2).2).2).2).2).2).1 q1), fun q1 => (((((((((((((h).2 q0)).2).2).2).2).2).2).2).2).2).1 q1), fun q1 => ((((((((((((((h).2 q0)).2).2).2).2).2).2).2).2).2).2).1 q1), fun q1 => (((((((((((((((h).2 q0)).2).2).2).2).2).2).2).2).2).2).2).1 q1), fun q1 => ((((((((((((((((h).2 q0)).2).2).2).2).2).2).2).2).2).2).2).2).1 q1), fun q1 => (((((((((((((((((h).2 q0)).2).2).2).2).2).2).2).2).2).2).2).2).2).1 q1), fun q1 => ((((((((((((((((((h).2 q0)).2).2).2).2).2).2).2).2).2).2).2).2).2).2).1 q1), fun q1 => (((((((((((((((((((h).2 q0)).2).2).2).2).2).2).2).2).2).2).2).2).2).2).2).1 q1), fun q1 => ((((((((((((((((((((h).2 q0)).2).2).2).2).2).2).2).2).2).2).2).2).2).2).2).2).1 q1), fun q1 => (((((((((((((((((((((h).2 q0)).2).2).2).2).2).2).2).2).2).2).2).2).2).2).2).2).2).1 q1), fun q1 => ((((((((((((((((((((((h).2 q0)).2).2).2).2).2).2).2).2).2).2).2).2).2).2).2).2).2).2).1 q1), fun q1 => (((((((((((((((((((((((h).2 q0)).2).2).2).2).2).2).2).2).2).2).2).2).2).2).2).2).2).2).2).1 q1), fun q1 => ((((((((((((((((((((((((h).2 q0)).2).2).2).2).2).2).2).2).2).2).2).2).2).2).2).2).2).2).2).2).1 q1), fun q1 => (((((((((((((((((((((((((h).2 q0)).2).2).2).2).2).2).2).2).2).2).2).2).2).2).2).2).2).2).2).2).2).1 q1), fun q1 => ((((((((((((((((((((((((((h).2 q0)).2).2).2).2).2).2).2).2).2).2).2).2).2).2).2).2).2).2).2).2).2).2).1 q1), fun q1 => (((((((((((((((((((((((((((h).2 q0)).2).2).2).2).2).2).2).2).2).2).2).2).2).2).2).2).2).2).2).2).2).2).2).1 q1), fun q1 => ((((((((((((((((((((((((((((h).2 q0)).2).2).2).2).2).2).2).2).2).2).2).2).2).2).2).2).2).2).2).2).2).2).2).2).1 q1), fun q1 => (((((((((((((((((((((((((((((h).2 q0)).2).2).2).2).2).2).2).2).2).2).2).2).2).2).2).2).2).2).2).2).2).2).2).2).2).1 q1), fun q1 => ((((((((((((((((((((((((((((((h).2 q0)).2).2).2).2).2).2).2).2).2).2).2).2).2).2).2).2).2).2).2).2).2).2).2).2).2).2).1 q1), fun q1 => (((((((((((((((((((((((((((((((h).2 q0)).2).2).2).2).2).2).2).2).2).2).2).2).2).2).2).2).2).2).2).2).2).2).2).2).2).2).2).1 q1), fun q1 => ((((((((((((((((((((((((((((((((h).2 q0)).2).2).2).2).2).2).2).2).2).2).2).2).2).2).2).2).2).2).2).2).2).2).2).2).2).2).2).2).1 q1), fun q1 => (((((((((((((((((((((((((((((((((h).2 q0)).2).2).2).2).2).2).2).2).2).2).2).2).2).2).2).2).2).2).2).2).2).2).2).2).2).2).2).2).2).1 q1), fun q1 => ((((((((((((((((((((((((((((((((((h).2 q0)).2).2).2).2).2).2).2).2).2).2).2).2).2).2).2).2).2).2).2).2).2).2).2).2).2).2).2).2).2).2).1 q1), fun q1 => (((((((((((((((((((((((((((((((((((h).2 q0)).2).2).2).2).2).2).2).2).2).2).2).2).2).2).2).2).2).2).2).2).2).2).2).2).2).2).2).2).2).2).2).1 q1), fun q1 => ((((((((((((((((((((((((((((((((((((h).2 q0)).2).2).2).2).2).2).2).2).2).2).2).2).2).2).2).2).2).2).2).2).2).2).2).2).2).2).2).2).2).2).2).2).1 q1), fun q1 => (((((((((((((((((((((((((((((((((((((h).2 q0)).2).2).2).2).2).2).2).2).2).2).2).2).2).2).2).2).2).2).2).2).2).2).2).2).2).2).2).2).2).2).2).2).2).1 q1), fun q1 => ((((((((((((((((((((((((((((((((((((((h).2 q0)).2).2).2).2).2).2).2).2).2).2).2).2).2).2).2).2).2).2).2).2).2).2).2).2).2).2).2).2).2).2).2).2).2).2).1 q1), fun q1 => (((((((((((((((((((((((((((((((((((((((h).2 q0)).2).2).2).2).2).2).2).2).2).2).2).2).2).2).2).2).2).2).2).2).2).2).2).2).2).2).2).2).2).2).2).2).2).2).2).1 q1), fun q1 => ((((((((((((((((((((((((((((((((((((((((h).2 q0)).2).2).2).2).2).2).2).2).2).2).2).2).2).2).2).2).2).2).2).2).2).2).2).2).2).2).2).2).2).2).2).2).2).2).2).2).1 q1), fun q1 => (((((((((((((((((((((((((((((((((((((((((h).2 q0)).2).2).2).2).2).2).2).2).2).2).2).2).2).2).2).2).2).2).2).2).2).2).2).2).2).2).2).2).2).2).2).2).2).2).2).2).2).1 q1), fun q1 => ((((((((((((((((((((((((((((((((((((((((((h).2 q0)).2).2).2).2).2).2).2).2).2).2).2).2).2).2).2).2).2).2).2).2).2).2).2).2).2).2).2).2).2).2).2).2).2).2).2).2).2).2).1 q1), fun q1 => (((((((((((((((((((((((((((((((((((((((((((h).2 q0)).2).2).2).2).2).2).2).2).2).2).2).2).2).2).2).2).2).2).2).2).2).2).2).2).2).2).2).2).2).2).2).2).2).2).2).2).2).2).2).1 q1), fun q1 => ((((((((((((((((((((((((((((((((((((((((((((h).2 q0)).2).2).2).2).2).2).2).2).2).2).2).2).2).2).2).2).2).2).2).2).2).2).2).2).2).2).2).2).2).2).2).2).2).2).2).2).2).2).2).2).1 q1), fun q1 => (((((((((((((((((((((((((((((((((((((((((((((h).2 q0)).2).2).2).2).2).2).2).2).2).2).2).2).2).2).2).2).2).2).2).2).2).2).2).2).2).2).2).2).2).2).2).2).2).2).2).2).2).2).2).2).2).1 q1), fun q1 => ((((((((((((((((((((((((((((((((((((((((((((((h).2 q0)).2).2).2).2).2).2).2).2).2).2).2).2).2).2).2).2).2).2).2).2).2).2).2).2).2).2).2).2).2).2).2).2).2).2).2).2).2).2).2).2).2).2).1 q1), fun q1 => ((((((((((((((((((((((((((((((((((((((((((((((h).2 q0)).2).2).2).2).2).2).2).2).2).2).2).2).2).2).2).2).2).2).2).2).2).2).2).2).2).2).2).2).2).2).2).2).2).2).2).2).2).2).2).2).2).2).2 q1), trivial⟩⟩⟩
set_option maxRecDepth 100000 in
theorem b_L_law_2513 {d L : Nat} {fz t : Bool} {Q : pm_R → pm_H → Prop} {c z : Nat} {x4 : Int32} {I : Nat → Nat → Int32} {J : Nat → Nat → Int64} (hc : c ≤ 600000) (hz : z ≤ 7200000)
    (h : t_L_law_23 d L fz t Q c z (x4 + (nI 6)) I J) :
    t_L_law_2513 d L fz t Q c z x4 I J := by
  exact pm_go d pm_lcs 400 h
set_option maxRecDepth 100000 in
theorem b_L_law_224 {d L : Nat} {fz t : Bool} {Q : pm_R → pm_H → Prop} {c z : Nat} {x4 : Int32} {I : Nat → Nat → Int32} {J : Nat → Nat → Int64} (hc : c ≤ 600000) (hz : z ≤ 7200000)
    (h : (vp_in (x4 + (nI 1)) L ∧ (vp_in (x4 + (nI 2)) L ∧ (vp_in (x4 + (nI 3)) L ∧ (vp_in (x4 + (nI 4)) L ∧ (vp_in (x4 + (nI 5)) L ∧ pm_Ev d 85 [.ref 0, .int (I 2000000 ((x4 + (nI 1))).toNatClampNeg), .int (I 2000000 ((x4 + (nI 2))).toNatClampNeg), .int (I 2000000 ((x4 + (nI 3))).toNatClampNeg), .int (I 2000000 ((x4 + (nI 4))).toNatClampNeg), .int (I 2000000 ((x4 + (nI 5))).toNatClampNeg)] (pm_hp L fz t I J) (K_L_law_258 d fz t Q c z x4))))))) :
    t_L_law_224 d L fz t Q c z x4 I J := by
  exact pm_go d pm_lcs 400 ⟨(h).1, ⟨((h).2).1, ⟨(((h).2).2).1, ⟨((((h).2).2).2).1, ⟨(((((h).2).2).2).2).1, (pm_bt (pm_lg hc hz rfl (Nat.le_of_ble_eq_true rfl) (Nat.le_of_ble_eq_true rfl) rfl) (((((h).2).2).2).2).2)⟩⟩⟩⟩⟩
set_option maxRecDepth 100000 in
theorem b_L_law_297 {d L : Nat} {fz t : Bool} {Q : pm_R → pm_H → Prop} {c z : Nat} {x4 : Int32} {I : Nat → Nat → Int32} {J : Nat → Nat → Int64} (hc : c ≤ 600000) (hz : z ≤ 7200000)
    (h : (vp_in (x4 + (nI 1)) L ∧ pm_Ev d 286 [.ref 0, .int (I 2000000 ((x4 + (nI 1))).toNatClampNeg), .ref 117] (pm_hp L fz t I J) (K_L_law_308 d fz t Q (c + 4) (z + 24) x4))) :
    t_L_law_297 d L fz t Q c z x4 I J := by
  exact pm_go d pm_lcs 400 ⟨(h).1, (pm_bt (pm_lg hc hz rfl (Nat.le_of_ble_eq_true rfl) (Nat.le_of_ble_eq_true rfl) rfl) (h).2)⟩
set_option maxRecDepth 100000 in
theorem b_L_law_353 {d L : Nat} {fz t : Bool} {Q : pm_R → pm_H → Prop} {c z : Nat} {x4 : Int32} {I : Nat → Nat → Int32} {J : Nat → Nat → Int64} (hc : c ≤ 600000) (hz : z ≤ 7200000)
    (h : pm_Ev d 86 [.ref 0] (pm_hp L fz t I J) (K_L_law_357 d fz t Q c z x4)) :
    t_L_law_353 d L fz t Q c z x4 I J := by
  exact pm_go d pm_lcs 400 (pm_bt (pm_lg hc hz rfl (Nat.le_of_ble_eq_true rfl) (Nat.le_of_ble_eq_true rfl) rfl) h)
set_option maxRecDepth 100000 in
theorem b_L_law_366 {d L : Nat} {fz t : Bool} {Q : pm_R → pm_H → Prop} {c z : Nat} {x4 : Int32} {I : Nat → Nat → Int32} {J : Nat → Nat → Int64} (hc : c ≤ 600000) (hz : z ≤ 7200000)
    (h : (vp_in (x4 + (nI 1)) L ∧ pm_Ev d 287 [.ref 0, .int (I 2000000 ((x4 + (nI 1))).toNatClampNeg), .ref 117] (pm_hp L fz t I J) (K_L_law_377 d fz t Q (c + 4) (z + 24) x4))) :
    t_L_law_366 d L fz t Q c z x4 I J := by
  exact pm_go d pm_lcs 400 ⟨(h).1, (pm_bt (pm_lg hc hz rfl (Nat.le_of_ble_eq_true rfl) (Nat.le_of_ble_eq_true rfl) rfl) (h).2)⟩
set_option maxRecDepth 100000 in
theorem b_L_law_422 {d L : Nat} {fz t : Bool} {Q : pm_R → pm_H → Prop} {c z : Nat} {x4 : Int32} {I : Nat → Nat → Int32} {J : Nat → Nat → Int64} (hc : c ≤ 600000) (hz : z ≤ 7200000)
    (h : (vp_in (x4 + (nI 1)) L ∧ (vp_in (x4 + (nI 2)) L ∧ pm_Ev d 288 [.ref 0, .int (I 2000000 ((x4 + (nI 1))).toNatClampNeg), .int (I 2000000 ((x4 + (nI 2))).toNatClampNeg), .ref 117] (pm_hp L fz t I J) (K_L_law_439 d fz t Q (c + 4) (z + 24) x4)))) :
    t_L_law_422 d L fz t Q c z x4 I J := by
  exact pm_go d pm_lcs 400 ⟨(h).1, ⟨((h).2).1, (pm_bt (pm_lg hc hz rfl (Nat.le_of_ble_eq_true rfl) (Nat.le_of_ble_eq_true rfl) rfl) ((h).2).2)⟩⟩
set_option maxRecDepth 100000 in
theorem b_L_law_490 {d L : Nat} {fz t : Bool} {Q : pm_R → pm_H → Prop} {c z : Nat} {x4 : Int32} {I : Nat → Nat → Int32} {J : Nat → Nat → Int64} (hc : c ≤ 600000) (hz : z ≤ 7200000)
    (h : (vp_in (x4 + (nI 1)) L ∧ pm_Ev d 289 [.ref 0, .int (I 2000000 ((x4 + (nI 1))).toNatClampNeg), .ref 117] (pm_hp L fz t I J) (K_L_law_501 d fz t Q (c + 4) (z + 24) x4))) :
    t_L_law_490 d L fz t Q c z x4 I J := by
  exact pm_go d pm_lcs 400 ⟨(h).1, (pm_bt (pm_lg hc hz rfl (Nat.le_of_ble_eq_true rfl) (Nat.le_of_ble_eq_true rfl) rfl) (h).2)⟩
set_option maxRecDepth 100000 in
theorem b_L_law_546 {d L : Nat} {fz t : Bool} {Q : pm_R → pm_H → Prop} {c z : Nat} {x4 : Int32} {I : Nat → Nat → Int32} {J : Nat → Nat → Int64} (hc : c ≤ 600000) (hz : z ≤ 7200000)
    (h : (vp_in (x4 + (nI 1)) L ∧ (vp_in (x4 + (nI 2)) L ∧ pm_Ev d 290 [.ref 0, .int (I 2000000 ((x4 + (nI 1))).toNatClampNeg), .int (I 2000000 ((x4 + (nI 2))).toNatClampNeg), .ref 117] (pm_hp L fz t I J) (K_L_law_563 d fz t Q (c + 4) (z + 24) x4)))) :
    t_L_law_546 d L fz t Q c z x4 I J := by
  exact pm_go d pm_lcs 400 ⟨(h).1, ⟨((h).2).1, (pm_bt (pm_lg hc hz rfl (Nat.le_of_ble_eq_true rfl) (Nat.le_of_ble_eq_true rfl) rfl) ((h).2).2)⟩⟩
set_option maxRecDepth 100000 in
theorem b_L_law_614 {d L : Nat} {fz t : Bool} {Q : pm_R → pm_H → Prop} {c z : Nat} {x4 : Int32} {I : Nat → Nat → Int32} {J : Nat → Nat → Int64} (hc : c ≤ 600000) (hz : z ≤ 7200000)
    (h : (vp_in (x4 + (nI 1)) L ∧ (vp_in (x4 + (nI 2)) L ∧ pm_Ev d 291 [.ref 0, .int (I 2000000 ((x4 + (nI 1))).toNatClampNeg), .int (I 2000000 ((x4 + (nI 2))).toNatClampNeg), .ref 117] (pm_hp L fz t I J) (K_L_law_631 d fz t Q (c + 4) (z + 24) x4)))) :
    t_L_law_614 d L fz t Q c z x4 I J := by
  exact pm_go d pm_lcs 400 ⟨(h).1, ⟨((h).2).1, (pm_bt (pm_lg hc hz rfl (Nat.le_of_ble_eq_true rfl) (Nat.le_of_ble_eq_true rfl) rfl) ((h).2).2)⟩⟩
set_option maxRecDepth 100000 in
theorem b_L_law_682 {d L : Nat} {fz t : Bool} {Q : pm_R → pm_H → Prop} {c z : Nat} {x4 : Int32} {I : Nat → Nat → Int32} {J : Nat → Nat → Int64} (hc : c ≤ 600000) (hz : z ≤ 7200000)
    (h : (vp_in (x4 + (nI 1)) L ∧ pm_Ev d 87 [.ref 0, .int (I 2000000 ((x4 + (nI 1))).toNatClampNeg)] (pm_hp L fz t I J) (K_L_law_692 d fz t Q c z x4))) :
    t_L_law_682 d L fz t Q c z x4 I J := by
  exact pm_go d pm_lcs 400 ⟨(h).1, (pm_bt (pm_lg hc hz rfl (Nat.le_of_ble_eq_true rfl) (Nat.le_of_ble_eq_true rfl) rfl) (h).2)⟩
set_option maxRecDepth 100000 in
theorem b_L_law_707 {d L : Nat} {fz t : Bool} {Q : pm_R → pm_H → Prop} {c z : Nat} {x4 : Int32} {I : Nat → Nat → Int32} {J : Nat → Nat → Int64} (hc : c ≤ 600000) (hz : z ≤ 7200000)
    (h : (vp_in (x4 + (nI 1)) L ∧ (vp_in (x4 + (nI 2)) L ∧ pm_Ev d 292 [.ref 0, .int (I 2000000 ((x4 + (nI 1))).toNatClampNeg), .int (I 2000000 ((x4 + (nI 2))).toNatClampNeg), .ref 117] (pm_hp L fz t I J) (K_L_law_724 d fz t Q (c + 4) (z + 24) x4)))) :
    t_L_law_707 d L fz t Q c z x4 I J := by
  exact pm_go d pm_lcs 400 ⟨(h).1, ⟨((h).2).1, (pm_bt (pm_lg hc hz rfl (Nat.le_of_ble_eq_true rfl) (Nat.le_of_ble_eq_true rfl) rfl) ((h).2).2)⟩⟩
set_option maxRecDepth 100000 in
theorem b_L_law_775 {d L : Nat} {fz t : Bool} {Q : pm_R → pm_H → Prop} {c z : Nat} {x4 : Int32} {I : Nat → Nat → Int32} {J : Nat → Nat → Int64} (hc : c ≤ 600000) (hz : z ≤ 7200000)
    (h : (vp_in (x4 + (nI 1)) L ∧ pm_Ev d 293 [.ref 0, .int (I 2000000 ((x4 + (nI 1))).toNatClampNeg), .ref 117] (pm_hp L fz t I J) (K_L_law_786 d fz t Q (c + 4) (z + 24) x4))) :
    t_L_law_775 d L fz t Q c z x4 I J := by
  exact pm_go d pm_lcs 400 ⟨(h).1, (pm_bt (pm_lg hc hz rfl (Nat.le_of_ble_eq_true rfl) (Nat.le_of_ble_eq_true rfl) rfl) (h).2)⟩
set_option maxRecDepth 100000 in
theorem b_L_law_831 {d L : Nat} {fz t : Bool} {Q : pm_R → pm_H → Prop} {c z : Nat} {x4 : Int32} {I : Nat → Nat → Int32} {J : Nat → Nat → Int64} (hc : c ≤ 600000) (hz : z ≤ 7200000)
    (h : (vp_in (x4 + (nI 1)) L ∧ pm_Ev d 294 [.ref 0, .int (I 2000000 ((x4 + (nI 1))).toNatClampNeg), .ref 117] (pm_hp L fz t I J) (K_L_law_842 d fz t Q (c + 4) (z + 24) x4))) :
    t_L_law_831 d L fz t Q c z x4 I J := by
  exact pm_go d pm_lcs 400 ⟨(h).1, (pm_bt (pm_lg hc hz rfl (Nat.le_of_ble_eq_true rfl) (Nat.le_of_ble_eq_true rfl) rfl) (h).2)⟩
set_option maxRecDepth 100000 in
theorem b_L_law_887 {d L : Nat} {fz t : Bool} {Q : pm_R → pm_H → Prop} {c z : Nat} {x4 : Int32} {I : Nat → Nat → Int32} {J : Nat → Nat → Int64} (hc : c ≤ 600000) (hz : z ≤ 7200000)
    (h : (vp_in (x4 + (nI 1)) L ∧ (vp_in (x4 + (nI 2)) L ∧ pm_Ev d 88 [.ref 0, .int (I 2000000 ((x4 + (nI 1))).toNatClampNeg), .int (I 2000000 ((x4 + (nI 2))).toNatClampNeg)] (pm_hp L fz t I J) (K_L_law_903 d fz t Q c z x4)))) :
    t_L_law_887 d L fz t Q c z x4 I J := by
  exact pm_go d pm_lcs 400 ⟨(h).1, ⟨((h).2).1, (pm_bt (pm_lg hc hz rfl (Nat.le_of_ble_eq_true rfl) (Nat.le_of_ble_eq_true rfl) rfl) ((h).2).2)⟩⟩
set_option maxRecDepth 100000 in
theorem b_L_law_924 {d L : Nat} {fz t : Bool} {Q : pm_R → pm_H → Prop} {c z : Nat} {x4 : Int32} {I : Nat → Nat → Int32} {J : Nat → Nat → Int64} (hc : c ≤ 600000) (hz : z ≤ 7200000)
    (h : pm_Ev d 89 [.ref 0] (pm_hp L fz t I J) (K_L_law_928 d fz t Q c z x4)) :
    t_L_law_924 d L fz t Q c z x4 I J := by
  exact pm_go d pm_lcs 400 (pm_bt (pm_lg hc hz rfl (Nat.le_of_ble_eq_true rfl) (Nat.le_of_ble_eq_true rfl) rfl) h)
set_option maxRecDepth 100000 in
theorem b_L_law_937 {d L : Nat} {fz t : Bool} {Q : pm_R → pm_H → Prop} {c z : Nat} {x4 : Int32} {I : Nat → Nat → Int32} {J : Nat → Nat → Int64} (hc : c ≤ 600000) (hz : z ≤ 7200000)
    (h : (vp_in (x4 + (nI 1)) L ∧ (vp_in (x4 + (nI 2)) L ∧ pm_Ev d 295 [.ref 0, .int (I 2000000 ((x4 + (nI 1))).toNatClampNeg), .int (I 2000000 ((x4 + (nI 2))).toNatClampNeg), .ref 117] (pm_hp L fz t I J) (K_L_law_954 d fz t Q (c + 4) (z + 24) x4)))) :
    t_L_law_937 d L fz t Q c z x4 I J := by
  exact pm_go d pm_lcs 400 ⟨(h).1, ⟨((h).2).1, (pm_bt (pm_lg hc hz rfl (Nat.le_of_ble_eq_true rfl) (Nat.le_of_ble_eq_true rfl) rfl) ((h).2).2)⟩⟩
set_option maxRecDepth 100000 in
theorem b_L_law_1005 {d L : Nat} {fz t : Bool} {Q : pm_R → pm_H → Prop} {c z : Nat} {x4 : Int32} {I : Nat → Nat → Int32} {J : Nat → Nat → Int64} (hc : c ≤ 600000) (hz : z ≤ 7200000)
    (h : (vp_in (x4 + (nI 1)) L ∧ pm_Ev d 296 [.ref 0, .int (I 2000000 ((x4 + (nI 1))).toNatClampNeg), .ref 117] (pm_hp L fz t I J) (K_L_law_1016 d fz t Q (c + 4) (z + 24) x4))) :
    t_L_law_1005 d L fz t Q c z x4 I J := by
  exact pm_go d pm_lcs 400 ⟨(h).1, (pm_bt (pm_lg hc hz rfl (Nat.le_of_ble_eq_true rfl) (Nat.le_of_ble_eq_true rfl) rfl) (h).2)⟩
set_option maxRecDepth 100000 in
theorem b_L_law_1061 {d L : Nat} {fz t : Bool} {Q : pm_R → pm_H → Prop} {c z : Nat} {x4 : Int32} {I : Nat → Nat → Int32} {J : Nat → Nat → Int64} (hc : c ≤ 600000) (hz : z ≤ 7200000)
    (h : (vp_in (x4 + (nI 1)) L ∧ pm_Ev d 297 [.ref 0, .int (I 2000000 ((x4 + (nI 1))).toNatClampNeg), .ref 117] (pm_hp L fz t I J) (K_L_law_1072 d fz t Q (c + 4) (z + 24) x4))) :
    t_L_law_1061 d L fz t Q c z x4 I J := by
  exact pm_go d pm_lcs 400 ⟨(h).1, (pm_bt (pm_lg hc hz rfl (Nat.le_of_ble_eq_true rfl) (Nat.le_of_ble_eq_true rfl) rfl) (h).2)⟩
set_option maxRecDepth 100000 in
theorem b_L_law_1117 {d L : Nat} {fz t : Bool} {Q : pm_R → pm_H → Prop} {c z : Nat} {x4 : Int32} {I : Nat → Nat → Int32} {J : Nat → Nat → Int64} (hc : c ≤ 600000) (hz : z ≤ 7200000)
    (h : pm_Ev d 90 [.ref 0] (pm_hp L fz t I J) (K_L_law_1121 d fz t Q c z x4)) :
    t_L_law_1117 d L fz t Q c z x4 I J := by
  exact pm_go d pm_lcs 400 (pm_bt (pm_lg hc hz rfl (Nat.le_of_ble_eq_true rfl) (Nat.le_of_ble_eq_true rfl) rfl) h)
set_option maxRecDepth 100000 in
theorem b_L_law_1130 {d L : Nat} {fz t : Bool} {Q : pm_R → pm_H → Prop} {c z : Nat} {x4 : Int32} {I : Nat → Nat → Int32} {J : Nat → Nat → Int64} (hc : c ≤ 600000) (hz : z ≤ 7200000)
    (h : (vp_in (x4 + (nI 1)) L ∧ pm_Ev d 298 [.ref 0, .int (I 2000000 ((x4 + (nI 1))).toNatClampNeg), .ref 117] (pm_hp L fz t I J) (K_L_law_1141 d fz t Q (c + 4) (z + 24) x4))) :
    t_L_law_1130 d L fz t Q c z x4 I J := by
  exact pm_go d pm_lcs 400 ⟨(h).1, (pm_bt (pm_lg hc hz rfl (Nat.le_of_ble_eq_true rfl) (Nat.le_of_ble_eq_true rfl) rfl) (h).2)⟩
set_option maxRecDepth 100000 in
theorem b_L_law_1186 {d L : Nat} {fz t : Bool} {Q : pm_R → pm_H → Prop} {c z : Nat} {x4 : Int32} {I : Nat → Nat → Int32} {J : Nat → Nat → Int64} (hc : c ≤ 600000) (hz : z ≤ 7200000)
    (h : (vp_in (x4 + (nI 1)) L ∧ (vp_in (x4 + (nI 2)) L ∧ pm_Ev d 299 [.ref 0, .int (I 2000000 ((x4 + (nI 1))).toNatClampNeg), .int (I 2000000 ((x4 + (nI 2))).toNatClampNeg), .ref 117] (pm_hp L fz t I J) (K_L_law_1203 d fz t Q (c + 4) (z + 24) x4)))) :
    t_L_law_1186 d L fz t Q c z x4 I J := by
  exact pm_go d pm_lcs 400 ⟨(h).1, ⟨((h).2).1, (pm_bt (pm_lg hc hz rfl (Nat.le_of_ble_eq_true rfl) (Nat.le_of_ble_eq_true rfl) rfl) ((h).2).2)⟩⟩
set_option maxRecDepth 100000 in
theorem b_L_law_1254 {d L : Nat} {fz t : Bool} {Q : pm_R → pm_H → Prop} {c z : Nat} {x4 : Int32} {I : Nat → Nat → Int32} {J : Nat → Nat → Int64} (hc : c ≤ 600000) (hz : z ≤ 7200000)
    (h : (vp_in (x4 + (nI 1)) L ∧ pm_Ev d 300 [.ref 0, .int (I 2000000 ((x4 + (nI 1))).toNatClampNeg), .ref 117] (pm_hp L fz t I J) (K_L_law_1265 d fz t Q (c + 4) (z + 24) x4))) :
    t_L_law_1254 d L fz t Q c z x4 I J := by
  exact pm_go d pm_lcs 400 ⟨(h).1, (pm_bt (pm_lg hc hz rfl (Nat.le_of_ble_eq_true rfl) (Nat.le_of_ble_eq_true rfl) rfl) (h).2)⟩
set_option maxRecDepth 100000 in
theorem b_L_law_1310 {d L : Nat} {fz t : Bool} {Q : pm_R → pm_H → Prop} {c z : Nat} {x4 : Int32} {I : Nat → Nat → Int32} {J : Nat → Nat → Int64} (hc : c ≤ 600000) (hz : z ≤ 7200000)
    (h : (vp_in (x4 + (nI 1)) L ∧ (vp_in (x4 + (nI 2)) L ∧ (vp_in (x4 + (nI 3)) L ∧ pm_Ev d 301 [.ref 0, .int (I 2000000 ((x4 + (nI 1))).toNatClampNeg), .int (I 2000000 ((x4 + (nI 2))).toNatClampNeg), .int (I 2000000 ((x4 + (nI 3))).toNatClampNeg), .ref 117] (pm_hp L fz t I J) (K_L_law_1333 d fz t Q (c + 4) (z + 24) x4))))) :
    t_L_law_1310 d L fz t Q c z x4 I J := by
  exact pm_go d pm_lcs 400 ⟨(h).1, ⟨((h).2).1, ⟨(((h).2).2).1, (pm_bt (pm_lg hc hz rfl (Nat.le_of_ble_eq_true rfl) (Nat.le_of_ble_eq_true rfl) rfl) (((h).2).2).2)⟩⟩⟩
set_option maxRecDepth 100000 in
theorem b_L_law_1390 {d L : Nat} {fz t : Bool} {Q : pm_R → pm_H → Prop} {c z : Nat} {x4 : Int32} {I : Nat → Nat → Int32} {J : Nat → Nat → Int64} (hc : c ≤ 600000) (hz : z ≤ 7200000)
    (h : (vp_in (x4 + (nI 1)) L ∧ pm_Ev d 302 [.ref 0, .int (I 2000000 ((x4 + (nI 1))).toNatClampNeg), .ref 117] (pm_hp L fz t I J) (K_L_law_1401 d fz t Q (c + 4) (z + 24) x4))) :
    t_L_law_1390 d L fz t Q c z x4 I J := by
  exact pm_go d pm_lcs 400 ⟨(h).1, (pm_bt (pm_lg hc hz rfl (Nat.le_of_ble_eq_true rfl) (Nat.le_of_ble_eq_true rfl) rfl) (h).2)⟩
set_option maxRecDepth 100000 in
theorem b_L_law_1446 {d L : Nat} {fz t : Bool} {Q : pm_R → pm_H → Prop} {c z : Nat} {x4 : Int32} {I : Nat → Nat → Int32} {J : Nat → Nat → Int64} (hc : c ≤ 600000) (hz : z ≤ 7200000)
    (h : (vp_in (x4 + (nI 1)) L ∧ (vp_in (x4 + (nI 2)) L ∧ (vp_in (x4 + (nI 3)) L ∧ (vp_in (x4 + (nI 4)) L ∧ (((I 2000000 ((x4 + (nI 4))).toNatClampNeg) = (nI 0) → pm_Ev d 303 [.ref 0, .int (I 2000000 ((x4 + (nI 1))).toNatClampNeg), .int (I 2000000 ((x4 + (nI 2))).toNatClampNeg), .int (I 2000000 ((x4 + (nI 3))).toNatClampNeg), .int (nI 0), .ref 117] (pm_hp L fz t I J) (K_L_law_1483 d fz t Q (c + 4) (z + 24) x4)) ∧ (¬ (I 2000000 ((x4 + (nI 4))).toNatClampNeg) = (nI 0) → pm_Ev d 303 [.ref 0, .int (I 2000000 ((x4 + (nI 1))).toNatClampNeg), .int (I 2000000 ((x4 + (nI 2))).toNatClampNeg), .int (I 2000000 ((x4 + (nI 3))).toNatClampNeg), .int (nI 1), .ref 117] (pm_hp L fz t I J) (K_L_law_1483 d fz t Q (c + 4) (z + 24) x4)))))))) :
    t_L_law_1446 d L fz t Q c z x4 I J := by
  exact pm_go d pm_lcs 400 ⟨(h).1, ⟨((h).2).1, ⟨(((h).2).2).1, ⟨((((h).2).2).2).1, ⟨fun q0 => (pm_bt (pm_lg hc hz rfl (Nat.le_of_ble_eq_true rfl) (Nat.le_of_ble_eq_true rfl) rfl) ((((((h).2).2).2).2).1 q0)), fun q0 => (pm_bt (pm_lg hc hz rfl (Nat.le_of_ble_eq_true rfl) (Nat.le_of_ble_eq_true rfl) rfl) ((((((h).2).2).2).2).2 q0))⟩⟩⟩⟩⟩
set_option maxRecDepth 100000 in
theorem b_L_law_1554 {d L : Nat} {fz t : Bool} {Q : pm_R → pm_H → Prop} {c z : Nat} {x4 : Int32} {I : Nat → Nat → Int32} {J : Nat → Nat → Int64} (hc : c ≤ 600000) (hz : z ≤ 7200000)
    (h : pm_Ev d 91 [.ref 0] (pm_hp L fz t I J) (K_L_law_1558 d fz t Q c z x4)) :
    t_L_law_1554 d L fz t Q c z x4 I J := by
  exact pm_go d pm_lcs 400 (pm_bt (pm_lg hc hz rfl (Nat.le_of_ble_eq_true rfl) (Nat.le_of_ble_eq_true rfl) rfl) h)
set_option maxRecDepth 100000 in
theorem b_L_law_1565 {d L : Nat} {fz t : Bool} {Q : pm_R → pm_H → Prop} {c z : Nat} {x4 : Int32} {I : Nat → Nat → Int32} {J : Nat → Nat → Int64} (hc : c ≤ 600000) (hz : z ≤ 7200000)
    (h : (vp_in (x4 + (nI 1)) L ∧ pm_Ev d 304 [.ref 0, .int (I 2000000 ((x4 + (nI 1))).toNatClampNeg), .ref 117] (pm_hp L fz t I J) (K_L_law_1576 d fz t Q (c + 4) (z + 24) x4))) :
    t_L_law_1565 d L fz t Q c z x4 I J := by
  exact pm_go d pm_lcs 400 ⟨(h).1, (pm_bt (pm_lg hc hz rfl (Nat.le_of_ble_eq_true rfl) (Nat.le_of_ble_eq_true rfl) rfl) (h).2)⟩
set_option maxRecDepth 100000 in
theorem b_L_law_1621 {d L : Nat} {fz t : Bool} {Q : pm_R → pm_H → Prop} {c z : Nat} {x4 : Int32} {I : Nat → Nat → Int32} {J : Nat → Nat → Int64} (hc : c ≤ 600000) (hz : z ≤ 7200000)
    (h : (vp_in (x4 + (nI 1)) L ∧ (vp_in (x4 + (nI 2)) L ∧ pm_Ev d 305 [.ref 0, .int (I 2000000 ((x4 + (nI 1))).toNatClampNeg), .int (I 2000000 ((x4 + (nI 2))).toNatClampNeg), .ref 117] (pm_hp L fz t I J) (K_L_law_1638 d fz t Q (c + 4) (z + 24) x4)))) :
    t_L_law_1621 d L fz t Q c z x4 I J := by
  exact pm_go d pm_lcs 400 ⟨(h).1, ⟨((h).2).1, (pm_bt (pm_lg hc hz rfl (Nat.le_of_ble_eq_true rfl) (Nat.le_of_ble_eq_true rfl) rfl) ((h).2).2)⟩⟩
set_option maxRecDepth 100000 in
theorem b_L_law_1689 {d L : Nat} {fz t : Bool} {Q : pm_R → pm_H → Prop} {c z : Nat} {x4 : Int32} {I : Nat → Nat → Int32} {J : Nat → Nat → Int64} (hc : c ≤ 600000) (hz : z ≤ 7200000)
    (h : (vp_in (x4 + (nI 1)) L ∧ pm_Ev d 306 [.ref 0, .int (I 2000000 ((x4 + (nI 1))).toNatClampNeg), .ref 117] (pm_hp L fz t I J) (K_L_law_1700 d fz t Q (c + 4) (z + 24) x4))) :
    t_L_law_1689 d L fz t Q c z x4 I J := by
  exact pm_go d pm_lcs 400 ⟨(h).1, (pm_bt (pm_lg hc hz rfl (Nat.le_of_ble_eq_true rfl) (Nat.le_of_ble_eq_true rfl) rfl) (h).2)⟩
set_option maxRecDepth 100000 in
theorem b_L_law_1745 {d L : Nat} {fz t : Bool} {Q : pm_R → pm_H → Prop} {c z : Nat} {x4 : Int32} {I : Nat → Nat → Int32} {J : Nat → Nat → Int64} (hc : c ≤ 600000) (hz : z ≤ 7200000)
    (h : (vp_in (x4 + (nI 1)) L ∧ (vp_in (x4 + (nI 2)) L ∧ (vp_in (x4 + (nI 3)) L ∧ (vp_in (x4 + (nI 4)) L ∧ pm_Ev d 307 [.ref 0, .int (I 2000000 ((x4 + (nI 1))).toNatClampNeg), .int (I 2000000 ((x4 + (nI 2))).toNatClampNeg), .int (I 2000000 ((x4 + (nI 3))).toNatClampNeg), .int (I 2000000 ((x4 + (nI 4))).toNatClampNeg), .ref 117] (pm_hp L fz t I J) (K_L_law_1774 d fz t Q (c + 4) (z + 24) x4)))))) :
    t_L_law_1745 d L fz t Q c z x4 I J := by
  exact pm_go d pm_lcs 400 ⟨(h).1, ⟨((h).2).1, ⟨(((h).2).2).1, ⟨((((h).2).2).2).1, (pm_bt (pm_lg hc hz rfl (Nat.le_of_ble_eq_true rfl) (Nat.le_of_ble_eq_true rfl) rfl) ((((h).2).2).2).2)⟩⟩⟩⟩
set_option maxRecDepth 100000 in
theorem b_L_law_1837 {d L : Nat} {fz t : Bool} {Q : pm_R → pm_H → Prop} {c z : Nat} {x4 : Int32} {I : Nat → Nat → Int32} {J : Nat → Nat → Int64} (hc : c ≤ 600000) (hz : z ≤ 7200000)
    (h : (vp_in (x4 + (nI 1)) L ∧ pm_Ev d 308 [.ref 0, .int (I 2000000 ((x4 + (nI 1))).toNatClampNeg), .ref 117] (pm_hp L fz t I J) (K_L_law_1848 d fz t Q (c + 4) (z + 24) x4))) :
    t_L_law_1837 d L fz t Q c z x4 I J := by
  exact pm_go d pm_lcs 400 ⟨(h).1, (pm_bt (pm_lg hc hz rfl (Nat.le_of_ble_eq_true rfl) (Nat.le_of_ble_eq_true rfl) rfl) (h).2)⟩
set_option maxRecDepth 100000 in
theorem b_L_law_1893 {d L : Nat} {fz t : Bool} {Q : pm_R → pm_H → Prop} {c z : Nat} {x4 : Int32} {I : Nat → Nat → Int32} {J : Nat → Nat → Int64} (hc : c ≤ 600000) (hz : z ≤ 7200000)
    (h : (vp_in (x4 + (nI 1)) L ∧ (vp_in (x4 + (nI 2)) L ∧ (vp_in (x4 + (nI 3)) L ∧ pm_Ev d 309 [.ref 0, .int (I 2000000 ((x4 + (nI 1))).toNatClampNeg), .int (I 2000000 ((x4 + (nI 2))).toNatClampNeg), .int (I 2000000 ((x4 + (nI 3))).toNatClampNeg), .ref 117] (pm_hp L fz t I J) (K_L_law_1916 d fz t Q (c + 4) (z + 24) x4))))) :
    t_L_law_1893 d L fz t Q c z x4 I J := by
  exact pm_go d pm_lcs 400 ⟨(h).1, ⟨((h).2).1, ⟨(((h).2).2).1, (pm_bt (pm_lg hc hz rfl (Nat.le_of_ble_eq_true rfl) (Nat.le_of_ble_eq_true rfl) rfl) (((h).2).2).2)⟩⟩⟩
set_option maxRecDepth 100000 in
theorem b_L_law_1973 {d L : Nat} {fz t : Bool} {Q : pm_R → pm_H → Prop} {c z : Nat} {x4 : Int32} {I : Nat → Nat → Int32} {J : Nat → Nat → Int64} (hc : c ≤ 600000) (hz : z ≤ 7200000)
    (h : (vp_in (x4 + (nI 1)) L ∧ (vp_in (x4 + (nI 2)) L ∧ (vp_in (x4 + (nI 3)) L ∧ pm_Ev d 310 [.ref 0, .int (I 2000000 ((x4 + (nI 1))).toNatClampNeg), .int (I 2000000 ((x4 + (nI 2))).toNatClampNeg), .int (I 2000000 ((x4 + (nI 3))).toNatClampNeg), .ref 117] (pm_hp L fz t I J) (K_L_law_1996 d fz t Q (c + 4) (z + 24) x4))))) :
    t_L_law_1973 d L fz t Q c z x4 I J := by
  exact pm_go d pm_lcs 400 ⟨(h).1, ⟨((h).2).1, ⟨(((h).2).2).1, (pm_bt (pm_lg hc hz rfl (Nat.le_of_ble_eq_true rfl) (Nat.le_of_ble_eq_true rfl) rfl) (((h).2).2).2)⟩⟩⟩
set_option maxRecDepth 100000 in
theorem b_L_law_2053 {d L : Nat} {fz t : Bool} {Q : pm_R → pm_H → Prop} {c z : Nat} {x4 : Int32} {I : Nat → Nat → Int32} {J : Nat → Nat → Int64} (hc : c ≤ 600000) (hz : z ≤ 7200000)
    (h : (vp_in (x4 + (nI 1)) L ∧ (vp_in (x4 + (nI 2)) L ∧ pm_Ev d 311 [.ref 0, .int (I 2000000 ((x4 + (nI 1))).toNatClampNeg), .int (I 2000000 ((x4 + (nI 2))).toNatClampNeg), .ref 117] (pm_hp L fz t I J) (K_L_law_2070 d fz t Q (c + 4) (z + 24) x4)))) :
    t_L_law_2053 d L fz t Q c z x4 I J := by
  exact pm_go d pm_lcs 400 ⟨(h).1, ⟨((h).2).1, (pm_bt (pm_lg hc hz rfl (Nat.le_of_ble_eq_true rfl) (Nat.le_of_ble_eq_true rfl) rfl) ((h).2).2)⟩⟩
set_option maxRecDepth 100000 in
theorem b_L_law_2121 {d L : Nat} {fz t : Bool} {Q : pm_R → pm_H → Prop} {c z : Nat} {x4 : Int32} {I : Nat → Nat → Int32} {J : Nat → Nat → Int64} (hc : c ≤ 600000) (hz : z ≤ 7200000)
    (h : (vp_in (x4 + (nI 1)) L ∧ (vp_in (x4 + (nI 2)) L ∧ pm_Ev d 312 [.ref 0, .int (I 2000000 ((x4 + (nI 1))).toNatClampNeg), .int (I 2000000 ((x4 + (nI 2))).toNatClampNeg), .ref 117] (pm_hp L fz t I J) (K_L_law_2138 d fz t Q (c + 4) (z + 24) x4)))) :
    t_L_law_2121 d L fz t Q c z x4 I J := by
  exact pm_go d pm_lcs 400 ⟨(h).1, ⟨((h).2).1, (pm_bt (pm_lg hc hz rfl (Nat.le_of_ble_eq_true rfl) (Nat.le_of_ble_eq_true rfl) rfl) ((h).2).2)⟩⟩
set_option maxRecDepth 100000 in
theorem b_L_law_2189 {d L : Nat} {fz t : Bool} {Q : pm_R → pm_H → Prop} {c z : Nat} {x4 : Int32} {I : Nat → Nat → Int32} {J : Nat → Nat → Int64} (hc : c ≤ 600000) (hz : z ≤ 7200000)
    (h : (vp_in (x4 + (nI 1)) L ∧ pm_Ev d 313 [.ref 0, .int (I 2000000 ((x4 + (nI 1))).toNatClampNeg), .ref 117] (pm_hp L fz t I J) (K_L_law_2200 d fz t Q (c + 4) (z + 24) x4))) :
    t_L_law_2189 d L fz t Q c z x4 I J := by
  exact pm_go d pm_lcs 400 ⟨(h).1, (pm_bt (pm_lg hc hz rfl (Nat.le_of_ble_eq_true rfl) (Nat.le_of_ble_eq_true rfl) rfl) (h).2)⟩
set_option maxRecDepth 100000 in
theorem b_L_law_2245 {d L : Nat} {fz t : Bool} {Q : pm_R → pm_H → Prop} {c z : Nat} {x4 : Int32} {I : Nat → Nat → Int32} {J : Nat → Nat → Int64} (hc : c ≤ 600000) (hz : z ≤ 7200000)
    (h : (vp_in (x4 + (nI 1)) L ∧ pm_Ev d 314 [.ref 0, .int (I 2000000 ((x4 + (nI 1))).toNatClampNeg), .ref 117] (pm_hp L fz t I J) (K_L_law_2256 d fz t Q (c + 4) (z + 24) x4))) :
    t_L_law_2245 d L fz t Q c z x4 I J := by
  exact pm_go d pm_lcs 400 ⟨(h).1, (pm_bt (pm_lg hc hz rfl (Nat.le_of_ble_eq_true rfl) (Nat.le_of_ble_eq_true rfl) rfl) (h).2)⟩
set_option maxRecDepth 100000 in
theorem b_L_law_2301 {d L : Nat} {fz t : Bool} {Q : pm_R → pm_H → Prop} {c z : Nat} {x4 : Int32} {I : Nat → Nat → Int32} {J : Nat → Nat → Int64} (hc : c ≤ 600000) (hz : z ≤ 7200000)
    (h : (vp_in (x4 + (nI 1)) L ∧ pm_Ev d 315 [.ref 0, .int (I 2000000 ((x4 + (nI 1))).toNatClampNeg), .ref 117] (pm_hp L fz t I J) (K_L_law_2312 d fz t Q (c + 4) (z + 24) x4))) :
    t_L_law_2301 d L fz t Q c z x4 I J := by
  exact pm_go d pm_lcs 400 ⟨(h).1, (pm_bt (pm_lg hc hz rfl (Nat.le_of_ble_eq_true rfl) (Nat.le_of_ble_eq_true rfl) rfl) (h).2)⟩
set_option maxRecDepth 100000 in
theorem b_L_law_2357 {d L : Nat} {fz t : Bool} {Q : pm_R → pm_H → Prop} {c z : Nat} {x4 : Int32} {I : Nat → Nat → Int32} {J : Nat → Nat → Int64} (hc : c ≤ 600000) (hz : z ≤ 7200000)
    (h : (vp_in (x4 + (nI 1)) L ∧ pm_Ev d 316 [.ref 0, .int (I 2000000 ((x4 + (nI 1))).toNatClampNeg), .ref 117] (pm_hp L fz t I J) (K_L_law_2368 d fz t Q (c + 4) (z + 24) x4))) :
    t_L_law_2357 d L fz t Q c z x4 I J := by
  exact pm_go d pm_lcs 400 ⟨(h).1, (pm_bt (pm_lg hc hz rfl (Nat.le_of_ble_eq_true rfl) (Nat.le_of_ble_eq_true rfl) rfl) (h).2)⟩
set_option maxRecDepth 100000 in
theorem b_L_law_2413 {d L : Nat} {fz t : Bool} {Q : pm_R → pm_H → Prop} {c z : Nat} {x4 : Int32} {I : Nat → Nat → Int32} {J : Nat → Nat → Int64} (hc : c ≤ 600000) (hz : z ≤ 7200000)
    (h : (vp_in (x4 + (nI 1)) L ∧ pm_Ev d 317 [.ref 0, .int (I 2000000 ((x4 + (nI 1))).toNatClampNeg), .ref 117] (pm_hp L fz t I J) (K_L_law_2424 d fz t Q (c + 4) (z + 24) x4))) :
    t_L_law_2413 d L fz t Q c z x4 I J := by
  exact pm_go d pm_lcs 400 ⟨(h).1, (pm_bt (pm_lg hc hz rfl (Nat.le_of_ble_eq_true rfl) (Nat.le_of_ble_eq_true rfl) rfl) (h).2)⟩
set_option maxRecDepth 100000 in
theorem b_L_law_2476 {d L : Nat} {fz t : Bool} {Q : pm_R → pm_H → Prop} {c z : Nat} {x4 : Int32} {I : Nat → Nat → Int32} {J : Nat → Nat → Int64} (hc : c ≤ 600000) (hz : z ≤ 7200000)
    (h : pm_Ev d 92 [.ref 0] (pm_hp L fz t I J) (K_L_law_2480 d fz t Q c z x4)) :
    t_L_law_2476 d L fz t Q c z x4 I J := by
  exact pm_go d pm_lcs 400 (pm_bt (pm_lg hc hz rfl (Nat.le_of_ble_eq_true rfl) (Nat.le_of_ble_eq_true rfl) rfl) h)
set_option maxRecDepth 100000 in
theorem b_L_law_2489 {d L : Nat} {fz t : Bool} {Q : pm_R → pm_H → Prop} {c z : Nat} {x4 : Int32} {I : Nat → Nat → Int32} {J : Nat → Nat → Int64} (hc : c ≤ 600000) (hz : z ≤ 7200000)
    (h : pm_Ev d 93 [.ref 0] (pm_hp L fz t I J) (K_L_law_2493 d fz t Q c z x4)) :
    t_L_law_2489 d L fz t Q c z x4 I J := by
  exact pm_go d pm_lcs 400 (pm_bt (pm_lg hc hz rfl (Nat.le_of_ble_eq_true rfl) (Nat.le_of_ble_eq_true rfl) rfl) h)
set_option maxRecDepth 100000 in
theorem b_L_law_2500 {d L : Nat} {fz t : Bool} {Q : pm_R → pm_H → Prop} {c z : Nat} {x4 : Int32} {I : Nat → Nat → Int32} {J : Nat → Nat → Int64} (hc : c ≤ 600000) (hz : z ≤ 7200000)
    (h : pm_Ev d 94 [.ref 0] (pm_hp L fz t I J) (K_L_law_2504 d fz t Q c z x4)) :
    t_L_law_2500 d L fz t Q c z x4 I J := by
  exact pm_go d pm_lcs 400 (pm_bt (pm_lg hc hz rfl (Nat.le_of_ble_eq_true rfl) (Nat.le_of_ble_eq_true rfl) rfl) h)
set_option maxRecDepth 100000 in
theorem b_L_law_258 {d L : Nat} {fz t : Bool} {Q : pm_R → pm_H → Prop} {c z : Nat} {x4 : Int32} {r : Int32} {I : Nat → Nat → Int32} {J : Nat → Nat → Int64} (hc : c ≤ 600000) (hz : z ≤ 7200000)
    (h : (vp_in (x4 + (nI 1)) L ∧ (vp_in (x4 + (nI 2)) L ∧ (vp_in (x4 + (nI 3)) L ∧ (vp_in (x4 + (nI 4)) L ∧ (vp_in (x4 + (nI 5)) L ∧ pm_Ev d 124 [.ref 85, .int (I 2000000 ((x4 + (nI 1))).toNatClampNeg), .int (I 2000000 ((x4 + (nI 2))).toNatClampNeg), .int (I 2000000 ((x4 + (nI 3))).toNatClampNeg), .int (I 2000000 ((x4 + (nI 4))).toNatClampNeg), .int (I 2000000 ((x4 + (nI 5))).toNatClampNeg)] (pm_hp L fz t I J) (K_L_law_292 d fz t Q c z x4 r))))))) :
    t_L_law_258 d L fz t Q c z x4 r I J := by
  exact pm_go d pm_lcs 400 ⟨(h).1, ⟨((h).2).1, ⟨(((h).2).2).1, ⟨((((h).2).2).2).1, ⟨(((((h).2).2).2).2).1, (pm_bt (pm_lg hc hz rfl (Nat.le_of_ble_eq_true rfl) (Nat.le_of_ble_eq_true rfl) rfl) (((((h).2).2).2).2).2)⟩⟩⟩⟩⟩
theorem kb_L_law_258 {d L : Nat} {fz t : Bool} {Q : pm_R → pm_H → Prop} {c z : Nat} {x4 : Int32} {r : Int32} {fz1 : Bool} {I : Nat → Nat → Int32} {J : Nat → Nat → Int64} (hc : c ≤ 600000) (hz : z ≤ 7200000)
    (h : (vp_in (x4 + (nI 1)) L ∧ (vp_in (x4 + (nI 2)) L ∧ (vp_in (x4 + (nI 3)) L ∧ (vp_in (x4 + (nI 4)) L ∧ (vp_in (x4 + (nI 5)) L ∧ pm_Ev d 124 [.ref 85, .int (I 2000000 ((x4 + (nI 1))).toNatClampNeg), .int (I 2000000 ((x4 + (nI 2))).toNatClampNeg), .int (I 2000000 ((x4 + (nI 3))).toNatClampNeg), .int (I 2000000 ((x4 + (nI 4))).toNatClampNeg), .int (I 2000000 ((x4 + (nI 5))).toNatClampNeg)] (pm_hp L fz t I J) (K_L_law_292 d fz t Q c z x4 r))))))) :
    K_L_law_258 d fz t Q c z x4 (.inl (some (.int r))) (pm_hp L fz1 t I J) := b_L_law_258 hc hz h
set_option maxRecDepth 100000 in
theorem b_L_law_308 {d L : Nat} {fz t : Bool} {Q : pm_R → pm_H → Prop} {c z : Nat} {x4 : Int32} {r : Int32} {I : Nat → Nat → Int32} {J : Nat → Nat → Int64} (hc : c ≤ 600000) (hz : z ≤ 7200000)
    (h : (vp_in (x4 + (nI 1)) L ∧ pm_Ev d 155 [.ref 85, .int (I 2000000 ((x4 + (nI 1))).toNatClampNeg)] (pm_hp L fz t I J) (K_L_law_320 d fz t Q c z x4 r))) :
    t_L_law_308 d L fz t Q c z x4 r I J := by
  exact pm_go d pm_lcs 400 ⟨(h).1, (pm_bt (pm_lg hc hz rfl (Nat.le_of_ble_eq_true rfl) (Nat.le_of_ble_eq_true rfl) rfl) (h).2)⟩
theorem kb_L_law_308 {d L : Nat} {fz t : Bool} {Q : pm_R → pm_H → Prop} {c z : Nat} {x4 : Int32} {r : Int32} {fz1 : Bool} {I : Nat → Nat → Int32} {J : Nat → Nat → Int64} (hc : c ≤ 600000) (hz : z ≤ 7200000)
    (h : (vp_in (x4 + (nI 1)) L ∧ pm_Ev d 155 [.ref 85, .int (I 2000000 ((x4 + (nI 1))).toNatClampNeg)] (pm_hp L true t I J) (K_L_law_320 d true t Q c z x4 r))) :
    K_L_law_308 d fz t Q c z x4 (.inl (some (.int r))) (pm_hp L fz1 t I J) := b_L_law_308 hc hz h
set_option maxRecDepth 100000 in
theorem b_L_law_357 {d L : Nat} {fz t : Bool} {Q : pm_R → pm_H → Prop} {c z : Nat} {x4 : Int32} {r : Int32} {I : Nat → Nat → Int32} {J : Nat → Nat → Int64} (hc : c ≤ 600000) (hz : z ≤ 7200000)
    (h : pm_Ev d 156 [.ref 85] (pm_hp L fz t I J) (K_L_law_361 d fz t Q c z x4 r)) :
    t_L_law_357 d L fz t Q c z x4 r I J := by
  exact pm_go d pm_lcs 400 (pm_bt (pm_lg hc hz rfl (Nat.le_of_ble_eq_true rfl) (Nat.le_of_ble_eq_true rfl) rfl) h)
theorem kb_L_law_357 {d L : Nat} {fz t : Bool} {Q : pm_R → pm_H → Prop} {c z : Nat} {x4 : Int32} {r : Int32} {fz1 : Bool} {I : Nat → Nat → Int32} {J : Nat → Nat → Int64} (hc : c ≤ 600000) (hz : z ≤ 7200000)
    (h : pm_Ev d 156 [.ref 85] (pm_hp L fz t I J) (K_L_law_361 d fz t Q c z x4 r)) :
    K_L_law_357 d fz t Q c z x4 (.inl (some (.int r))) (pm_hp L fz1 t I J) := b_L_law_357 hc hz h
set_option maxRecDepth 100000 in
theorem b_L_law_377 {d L : Nat} {fz t : Bool} {Q : pm_R → pm_H → Prop} {c z : Nat} {x4 : Int32} {r : Int32} {I : Nat → Nat → Int32} {J : Nat → Nat → Int64} (hc : c ≤ 600000) (hz : z ≤ 7200000)
    (h : (vp_in (x4 + (nI 1)) L ∧ pm_Ev d 179 [.ref 85, .int (I 2000000 ((x4 + (nI 1))).toNatClampNeg)] (pm_hp L fz t I J) (K_L_law_389 d fz t Q c z x4 r))) :
    t_L_law_377 d L fz t Q c z x4 r I J := by
  exact pm_go d pm_lcs 400 ⟨(h).1, (pm_bt (pm_lg hc hz rfl (Nat.le_of_ble_eq_true rfl) (Nat.le_of_ble_eq_true rfl) rfl) (h).2)⟩
theorem kb_L_law_377 {d L : Nat} {fz t : Bool} {Q : pm_R → pm_H → Prop} {c z : Nat} {x4 : Int32} {r : Int32} {fz1 : Bool} {I : Nat → Nat → Int32} {J : Nat → Nat → Int64} (hc : c ≤ 600000) (hz : z ≤ 7200000)
    (h : (vp_in (x4 + (nI 1)) L ∧ pm_Ev d 179 [.ref 85, .int (I 2000000 ((x4 + (nI 1))).toNatClampNeg)] (pm_hp L true t I J) (K_L_law_389 d true t Q c z x4 r))) :
    K_L_law_377 d fz t Q c z x4 (.inl (some (.int r))) (pm_hp L fz1 t I J) := b_L_law_377 hc hz h
set_option maxRecDepth 100000 in
theorem b_L_law_439 {d L : Nat} {fz t : Bool} {Q : pm_R → pm_H → Prop} {c z : Nat} {x4 : Int32} {r : Int32} {I : Nat → Nat → Int32} {J : Nat → Nat → Int64} (hc : c ≤ 600000) (hz : z ≤ 7200000)
    (h : (vp_in (x4 + (nI 1)) L ∧ (vp_in (x4 + (nI 2)) L ∧ pm_Ev d 184 [.ref 85, .int (I 2000000 ((x4 + (nI 1))).toNatClampNeg), .int (I 2000000 ((x4 + (nI 2))).toNatClampNeg)] (pm_hp L fz t I J) (K_L_law_457 d fz t Q c z x4 r)))) :
    t_L_law_439 d L fz t Q c z x4 r I J := by
  exact pm_go d pm_lcs 400 ⟨(h).1, ⟨((h).2).1, (pm_bt (pm_lg hc hz rfl (Nat.le_of_ble_eq_true rfl) (Nat.le_of_ble_eq_true rfl) rfl) ((h).2).2)⟩⟩
theorem kb_L_law_439 {d L : Nat} {fz t : Bool} {Q : pm_R → pm_H → Prop} {c z : Nat} {x4 : Int32} {r : Int32} {fz1 : Bool} {I : Nat → Nat → Int32} {J : Nat → Nat → Int64} (hc : c ≤ 600000) (hz : z ≤ 7200000)
    (h : (vp_in (x4 + (nI 1)) L ∧ (vp_in (x4 + (nI 2)) L ∧ pm_Ev d 184 [.ref 85, .int (I 2000000 ((x4 + (nI 1))).toNatClampNeg), .int (I 2000000 ((x4 + (nI 2))).toNatClampNeg)] (pm_hp L true t I J) (K_L_law_457 d true t Q c z x4 r)))) :
    K_L_law_439 d fz t Q c z x4 (.inl (some (.int r))) (pm_hp L fz1 t I J) := b_L_law_439 hc hz h
set_option maxRecDepth 100000 in
theorem b_L_law_501 {d L : Nat} {fz t : Bool} {Q : pm_R → pm_H → Prop} {c z : Nat} {x4 : Int32} {r : Int32} {I : Nat → Nat → Int32} {J : Nat → Nat → Int64} (hc : c ≤ 600000) (hz : z ≤ 7200000)
    (h : (vp_in (x4 + (nI 1)) L ∧ pm_Ev d 185 [.ref 85, .int (I 2000000 ((x4 + (nI 1))).toNatClampNeg)] (pm_hp L fz t I J) (K_L_law_513 d fz t Q c z x4 r))) :
    t_L_law_501 d L fz t Q c z x4 r I J := by
  exact pm_go d pm_lcs 400 ⟨(h).1, (pm_bt (pm_lg hc hz rfl (Nat.le_of_ble_eq_true rfl) (Nat.le_of_ble_eq_true rfl) rfl) (h).2)⟩
theorem kb_L_law_501 {d L : Nat} {fz t : Bool} {Q : pm_R → pm_H → Prop} {c z : Nat} {x4 : Int32} {r : Int32} {fz1 : Bool} {I : Nat → Nat → Int32} {J : Nat → Nat → Int64} (hc : c ≤ 600000) (hz : z ≤ 7200000)
    (h : (vp_in (x4 + (nI 1)) L ∧ pm_Ev d 185 [.ref 85, .int (I 2000000 ((x4 + (nI 1))).toNatClampNeg)] (pm_hp L true t I J) (K_L_law_513 d true t Q c z x4 r))) :
    K_L_law_501 d fz t Q c z x4 (.inl (some (.int r))) (pm_hp L fz1 t I J) := b_L_law_501 hc hz h
set_option maxRecDepth 100000 in
theorem b_L_law_563 {d L : Nat} {fz t : Bool} {Q : pm_R → pm_H → Prop} {c z : Nat} {x4 : Int32} {r : Int32} {I : Nat → Nat → Int32} {J : Nat → Nat → Int64} (hc : c ≤ 600000) (hz : z ≤ 7200000)
    (h : (vp_in (x4 + (nI 1)) L ∧ (vp_in (x4 + (nI 2)) L ∧ pm_Ev d 186 [.ref 85, .int (I 2000000 ((x4 + (nI 1))).toNatClampNeg), .int (I 2000000 ((x4 + (nI 2))).toNatClampNeg)] (pm_hp L fz t I J) (K_L_law_581 d fz t Q c z x4 r)))) :
    t_L_law_563 d L fz t Q c z x4 r I J := by
  exact pm_go d pm_lcs 400 ⟨(h).1, ⟨((h).2).1, (pm_bt (pm_lg hc hz rfl (Nat.le_of_ble_eq_true rfl) (Nat.le_of_ble_eq_true rfl) rfl) ((h).2).2)⟩⟩
theorem kb_L_law_563 {d L : Nat} {fz t : Bool} {Q : pm_R → pm_H → Prop} {c z : Nat} {x4 : Int32} {r : Int32} {fz1 : Bool} {I : Nat → Nat → Int32} {J : Nat → Nat → Int64} (hc : c ≤ 600000) (hz : z ≤ 7200000)
    (h : (vp_in (x4 + (nI 1)) L ∧ (vp_in (x4 + (nI 2)) L ∧ pm_Ev d 186 [.ref 85, .int (I 2000000 ((x4 + (nI 1))).toNatClampNeg), .int (I 2000000 ((x4 + (nI 2))).toNatClampNeg)] (pm_hp L true t I J) (K_L_law_581 d true t Q c z x4 r)))) :
    K_L_law_563 d fz t Q c z x4 (.inl (some (.int r))) (pm_hp L fz1 t I J) := b_L_law_563 hc hz h
set_option maxRecDepth 100000 in
theorem b_L_law_631 {d L : Nat} {fz t : Bool} {Q : pm_R → pm_H → Prop} {c z : Nat} {x4 : Int32} {r : Int32} {I : Nat → Nat → Int32} {J : Nat → Nat → Int64} (hc : c ≤ 600000) (hz : z ≤ 7200000)
    (h : (vp_in (x4 + (nI 1)) L ∧ (vp_in (x4 + (nI 2)) L ∧ pm_Ev d 187 [.ref 85, .int (I 2000000 ((x4 + (nI 1))).toNatClampNeg), .int (I 2000000 ((x4 + (nI 2))).toNatClampNeg)] (pm_hp L fz t I J) (K_L_law_649 d fz t Q c z x4 r)))) :
    t_L_law_631 d L fz t Q c z x4 r I J := by
  exact pm_go d pm_lcs 400 ⟨(h).1, ⟨((h).2).1, (pm_bt (pm_lg hc hz rfl (Nat.le_of_ble_eq_true rfl) (Nat.le_of_ble_eq_true rfl) rfl) ((h).2).2)⟩⟩
theorem kb_L_law_631 {d L : Nat} {fz t : Bool} {Q : pm_R → pm_H → Prop} {c z : Nat} {x4 : Int32} {r : Int32} {fz1 : Bool} {I : Nat → Nat → Int32} {J : Nat → Nat → Int64} (hc : c ≤ 600000) (hz : z ≤ 7200000)
    (h : (vp_in (x4 + (nI 1)) L ∧ (vp_in (x4 + (nI 2)) L ∧ pm_Ev d 187 [.ref 85, .int (I 2000000 ((x4 + (nI 1))).toNatClampNeg), .int (I 2000000 ((x4 + (nI 2))).toNatClampNeg)] (pm_hp L true t I J) (K_L_law_649 d true t Q c z x4 r)))) :
    K_L_law_631 d fz t Q c z x4 (.inl (some (.int r))) (pm_hp L fz1 t I J) := b_L_law_631 hc hz h
set_option maxRecDepth 100000 in
theorem b_L_law_692 {d L : Nat} {fz t : Bool} {Q : pm_R → pm_H → Prop} {c z : Nat} {x4 : Int32} {r : Int32} {I : Nat → Nat → Int32} {J : Nat → Nat → Int64} (hc : c ≤ 600000) (hz : z ≤ 7200000)
    (h : (vp_in (x4 + (nI 1)) L ∧ pm_Ev d 188 [.ref 85, .int (I 2000000 ((x4 + (nI 1))).toNatClampNeg)] (pm_hp L fz t I J) (K_L_law_702 d fz t Q c z x4 r))) :
    t_L_law_692 d L fz t Q c z x4 r I J := by
  exact pm_go d pm_lcs 400 ⟨(h).1, (pm_bt (pm_lg hc hz rfl (Nat.le_of_ble_eq_true rfl) (Nat.le_of_ble_eq_true rfl) rfl) (h).2)⟩
theorem kb_L_law_692 {d L : Nat} {fz t : Bool} {Q : pm_R → pm_H → Prop} {c z : Nat} {x4 : Int32} {r : Int32} {fz1 : Bool} {I : Nat → Nat → Int32} {J : Nat → Nat → Int64} (hc : c ≤ 600000) (hz : z ≤ 7200000)
    (h : (vp_in (x4 + (nI 1)) L ∧ pm_Ev d 188 [.ref 85, .int (I 2000000 ((x4 + (nI 1))).toNatClampNeg)] (pm_hp L fz t I J) (K_L_law_702 d fz t Q c z x4 r))) :
    K_L_law_692 d fz t Q c z x4 (.inl (some (.int r))) (pm_hp L fz1 t I J) := b_L_law_692 hc hz h
set_option maxRecDepth 100000 in
theorem b_L_law_724 {d L : Nat} {fz t : Bool} {Q : pm_R → pm_H → Prop} {c z : Nat} {x4 : Int32} {r : Int32} {I : Nat → Nat → Int32} {J : Nat → Nat → Int64} (hc : c ≤ 600000) (hz : z ≤ 7200000)
    (h : (vp_in (x4 + (nI 1)) L ∧ (vp_in (x4 + (nI 2)) L ∧ pm_Ev d 189 [.ref 85, .int (I 2000000 ((x4 + (nI 1))).toNatClampNeg), .int (I 2000000 ((x4 + (nI 2))).toNatClampNeg)] (pm_hp L fz t I J) (K_L_law_742 d fz t Q c z x4 r)))) :
    t_L_law_724 d L fz t Q c z x4 r I J := by
  exact pm_go d pm_lcs 400 ⟨(h).1, ⟨((h).2).1, (pm_bt (pm_lg hc hz rfl (Nat.le_of_ble_eq_true rfl) (Nat.le_of_ble_eq_true rfl) rfl) ((h).2).2)⟩⟩
theorem kb_L_law_724 {d L : Nat} {fz t : Bool} {Q : pm_R → pm_H → Prop} {c z : Nat} {x4 : Int32} {r : Int32} {fz1 : Bool} {I : Nat → Nat → Int32} {J : Nat → Nat → Int64} (hc : c ≤ 600000) (hz : z ≤ 7200000)
    (h : (vp_in (x4 + (nI 1)) L ∧ (vp_in (x4 + (nI 2)) L ∧ pm_Ev d 189 [.ref 85, .int (I 2000000 ((x4 + (nI 1))).toNatClampNeg), .int (I 2000000 ((x4 + (nI 2))).toNatClampNeg)] (pm_hp L true t I J) (K_L_law_742 d true t Q c z x4 r)))) :
    K_L_law_724 d fz t Q c z x4 (.inl (some (.int r))) (pm_hp L fz1 t I J) := b_L_law_724 hc hz h
set_option maxRecDepth 100000 in
theorem b_L_law_786 {d L : Nat} {fz t : Bool} {Q : pm_R → pm_H → Prop} {c z : Nat} {x4 : Int32} {r : Int32} {I : Nat → Nat → Int32} {J : Nat → Nat → Int64} (hc : c ≤ 600000) (hz : z ≤ 7200000)
    (h : (vp_in (x4 + (nI 1)) L ∧ pm_Ev d 191 [.ref 85, .int (I 2000000 ((x4 + (nI 1))).toNatClampNeg)] (pm_hp L fz t I J) (K_L_law_798 d fz t Q c z x4 r))) :
    t_L_law_786 d L fz t Q c z x4 r I J := by
  exact pm_go d pm_lcs 400 ⟨(h).1, (pm_bt (pm_lg hc hz rfl (Nat.le_of_ble_eq_true rfl) (Nat.le_of_ble_eq_true rfl) rfl) (h).2)⟩
theorem kb_L_law_786 {d L : Nat} {fz t : Bool} {Q : pm_R → pm_H → Prop} {c z : Nat} {x4 : Int32} {r : Int32} {fz1 : Bool} {I : Nat → Nat → Int32} {J : Nat → Nat → Int64} (hc : c ≤ 600000) (hz : z ≤ 7200000)
    (h : (vp_in (x4 + (nI 1)) L ∧ pm_Ev d 191 [.ref 85, .int (I 2000000 ((x4 + (nI 1))).toNatClampNeg)] (pm_hp L true t I J) (K_L_law_798 d true t Q c z x4 r))) :
    K_L_law_786 d fz t Q c z x4 (.inl (some (.int r))) (pm_hp L fz1 t I J) := b_L_law_786 hc hz h
set_option maxRecDepth 100000 in
theorem b_L_law_842 {d L : Nat} {fz t : Bool} {Q : pm_R → pm_H → Prop} {c z : Nat} {x4 : Int32} {r : Int32} {I : Nat → Nat → Int32} {J : Nat → Nat → Int64} (hc : c ≤ 600000) (hz : z ≤ 7200000)
    (h : (vp_in (x4 + (nI 1)) L ∧ pm_Ev d 192 [.ref 85, .int (I 2000000 ((x4 + (nI 1))).toNatClampNeg)] (pm_hp L fz t I J) (K_L_law_854 d fz t Q c z x4 r))) :
    t_L_law_842 d L fz t Q c z x4 r I J := by
  exact pm_go d pm_lcs 400 ⟨(h).1, (pm_bt (pm_lg hc hz rfl (Nat.le_of_ble_eq_true rfl) (Nat.le_of_ble_eq_true rfl) rfl) (h).2)⟩
theorem kb_L_law_842 {d L : Nat} {fz t : Bool} {Q : pm_R → pm_H → Prop} {c z : Nat} {x4 : Int32} {r : Int32} {fz1 : Bool} {I : Nat → Nat → Int32} {J : Nat → Nat → Int64} (hc : c ≤ 600000) (hz : z ≤ 7200000)
    (h : (vp_in (x4 + (nI 1)) L ∧ pm_Ev d 192 [.ref 85, .int (I 2000000 ((x4 + (nI 1))).toNatClampNeg)] (pm_hp L true t I J) (K_L_law_854 d true t Q c z x4 r))) :
    K_L_law_842 d fz t Q c z x4 (.inl (some (.int r))) (pm_hp L fz1 t I J) := b_L_law_842 hc hz h
set_option maxRecDepth 100000 in
theorem b_L_law_903 {d L : Nat} {fz t : Bool} {Q : pm_R → pm_H → Prop} {c z : Nat} {x4 : Int32} {r : Int32} {I : Nat → Nat → Int32} {J : Nat → Nat → Int64} (hc : c ≤ 600000) (hz : z ≤ 7200000)
    (h : (vp_in (x4 + (nI 1)) L ∧ (vp_in (x4 + (nI 2)) L ∧ pm_Ev d 194 [.ref 85, .int (I 2000000 ((x4 + (nI 1))).toNatClampNeg), .int (I 2000000 ((x4 + (nI 2))).toNatClampNeg)] (pm_hp L fz t I J) (K_L_law_919 d fz t Q c z x4 r)))) :
    t_L_law_903 d L fz t Q c z x4 r I J := by
  exact pm_go d pm_lcs 400 ⟨(h).1, ⟨((h).2).1, (pm_bt (pm_lg hc hz rfl (Nat.le_of_ble_eq_true rfl) (Nat.le_of_ble_eq_true rfl) rfl) ((h).2).2)⟩⟩
theorem kb_L_law_903 {d L : Nat} {fz t : Bool} {Q : pm_R → pm_H → Prop} {c z : Nat} {x4 : Int32} {r : Int32} {fz1 : Bool} {I : Nat → Nat → Int32} {J : Nat → Nat → Int64} (hc : c ≤ 600000) (hz : z ≤ 7200000)
    (h : (vp_in (x4 + (nI 1)) L ∧ (vp_in (x4 + (nI 2)) L ∧ pm_Ev d 194 [.ref 85, .int (I 2000000 ((x4 + (nI 1))).toNatClampNeg), .int (I 2000000 ((x4 + (nI 2))).toNatClampNeg)] (pm_hp L fz t I J) (K_L_law_919 d fz t Q c z x4 r)))) :
    K_L_law_903 d fz t Q c z x4 (.inl (some (.int r))) (pm_hp L fz1 t I J) := b_L_law_903 hc hz h
set_option maxRecDepth 100000 in
theorem b_L_law_928 {d L : Nat} {fz t : Bool} {Q : pm_R → pm_H → Prop} {c z : Nat} {x4 : Int32} {r : Int32} {I : Nat → Nat → Int32} {J : Nat → Nat → Int64} (hc : c ≤ 600000) (hz : z ≤ 7200000)
    (h : pm_Ev d 159 [.ref 85] (pm_hp L fz t I J) (K_L_law_932 d fz t Q c z x4 r)) :
    t_L_law_928 d L fz t Q c z x4 r I J := by
  exact pm_go d pm_lcs 400 (pm_bt (pm_lg hc hz rfl (Nat.le_of_ble_eq_true rfl) (Nat.le_of_ble_eq_true rfl) rfl) h)
theorem kb_L_law_928 {d L : Nat} {fz t : Bool} {Q : pm_R → pm_H → Prop} {c z : Nat} {x4 : Int32} {r : Int32} {fz1 : Bool} {I : Nat → Nat → Int32} {J : Nat → Nat → Int64} (hc : c ≤ 600000) (hz : z ≤ 7200000)
    (h : pm_Ev d 159 [.ref 85] (pm_hp L fz t I J) (K_L_law_932 d fz t Q c z x4 r)) :
    K_L_law_928 d fz t Q c z x4 (.inl (some (.int r))) (pm_hp L fz1 t I J) := b_L_law_928 hc hz h
set_option maxRecDepth 100000 in
theorem b_L_law_954 {d L : Nat} {fz t : Bool} {Q : pm_R → pm_H → Prop} {c z : Nat} {x4 : Int32} {r : Int32} {I : Nat → Nat → Int32} {J : Nat → Nat → Int64} (hc : c ≤ 600000) (hz : z ≤ 7200000)
    (h : (vp_in (x4 + (nI 1)) L ∧ (vp_in (x4 + (nI 2)) L ∧ pm_Ev d 196 [.ref 85, .int (I 2000000 ((x4 + (nI 1))).toNatClampNeg), .int (I 2000000 ((x4 + (nI 2))).toNatClampNeg)] (pm_hp L fz t I J) (K_L_law_972 d fz t Q c z x4 r)))) :
    t_L_law_954 d L fz t Q c z x4 r I J := by
  exact pm_go d pm_lcs 400 ⟨(h).1, ⟨((h).2).1, (pm_bt (pm_lg hc hz rfl (Nat.le_of_ble_eq_true rfl) (Nat.le_of_ble_eq_true rfl) rfl) ((h).2).2)⟩⟩
theorem kb_L_law_954 {d L : Nat} {fz t : Bool} {Q : pm_R → pm_H → Prop} {c z : Nat} {x4 : Int32} {r : Int32} {fz1 : Bool} {I : Nat → Nat → Int32} {J : Nat → Nat → Int64} (hc : c ≤ 600000) (hz : z ≤ 7200000)
    (h : (vp_in (x4 + (nI 1)) L ∧ (vp_in (x4 + (nI 2)) L ∧ pm_Ev d 196 [.ref 85, .int (I 2000000 ((x4 + (nI 1))).toNatClampNeg), .int (I 2000000 ((x4 + (nI 2))).toNatClampNeg)] (pm_hp L true t I J) (K_L_law_972 d true t Q c z x4 r)))) :
    K_L_law_954 d fz t Q c z x4 (.inl (some (.int r))) (pm_hp L fz1 t I J) := b_L_law_954 hc hz h
set_option maxRecDepth 100000 in
theorem b_L_law_1016 {d L : Nat} {fz t : Bool} {Q : pm_R → pm_H → Prop} {c z : Nat} {x4 : Int32} {r : Int32} {I : Nat → Nat → Int32} {J : Nat → Nat → Int64} (hc : c ≤ 600000) (hz : z ≤ 7200000)
    (h : (vp_in (x4 + (nI 1)) L ∧ pm_Ev d 197 [.ref 85, .int (I 2000000 ((x4 + (nI 1))).toNatClampNeg)] (pm_hp L fz t I J) (K_L_law_1028 d fz t Q c z x4 r))) :
    t_L_law_1016 d L fz t Q c z x4 r I J := by
  exact pm_go d pm_lcs 400 ⟨(h).1, (pm_bt (pm_lg hc hz rfl (Nat.le_of_ble_eq_true rfl) (Nat.le_of_ble_eq_true rfl) rfl) (h).2)⟩
theorem kb_L_law_1016 {d L : Nat} {fz t : Bool} {Q : pm_R → pm_H → Prop} {c z : Nat} {x4 : Int32} {r : Int32} {fz1 : Bool} {I : Nat → Nat → Int32} {J : Nat → Nat → Int64} (hc : c ≤ 600000) (hz : z ≤ 7200000)
    (h : (vp_in (x4 + (nI 1)) L ∧ pm_Ev d 197 [.ref 85, .int (I 2000000 ((x4 + (nI 1))).toNatClampNeg)] (pm_hp L true t I J) (K_L_law_1028 d true t Q c z x4 r))) :
    K_L_law_1016 d fz t Q c z x4 (.inl (some (.int r))) (pm_hp L fz1 t I J) := b_L_law_1016 hc hz h
set_option maxRecDepth 100000 in
theorem b_L_law_1072 {d L : Nat} {fz t : Bool} {Q : pm_R → pm_H → Prop} {c z : Nat} {x4 : Int32} {r : Int32} {I : Nat → Nat → Int32} {J : Nat → Nat → Int64} (hc : c ≤ 600000) (hz : z ≤ 7200000)
    (h : (vp_in (x4 + (nI 1)) L ∧ pm_Ev d 198 [.ref 85, .int (I 2000000 ((x4 + (nI 1))).toNatClampNeg)] (pm_hp L fz t I J) (K_L_law_1084 d fz t Q c z x4 r))) :
    t_L_law_1072 d L fz t Q c z x4 r I J := by
  exact pm_go d pm_lcs 400 ⟨(h).1, (pm_bt (pm_lg hc hz rfl (Nat.le_of_ble_eq_true rfl) (Nat.le_of_ble_eq_true rfl) rfl) (h).2)⟩
theorem kb_L_law_1072 {d L : Nat} {fz t : Bool} {Q : pm_R → pm_H → Prop} {c z : Nat} {x4 : Int32} {r : Int32} {fz1 : Bool} {I : Nat → Nat → Int32} {J : Nat → Nat → Int64} (hc : c ≤ 600000) (hz : z ≤ 7200000)
    (h : (vp_in (x4 + (nI 1)) L ∧ pm_Ev d 198 [.ref 85, .int (I 2000000 ((x4 + (nI 1))).toNatClampNeg)] (pm_hp L true t I J) (K_L_law_1084 d true t Q c z x4 r))) :
    K_L_law_1072 d fz t Q c z x4 (.inl (some (.int r))) (pm_hp L fz1 t I J) := b_L_law_1072 hc hz h
set_option maxRecDepth 100000 in
theorem b_L_law_1121 {d L : Nat} {fz t : Bool} {Q : pm_R → pm_H → Prop} {c z : Nat} {x4 : Int32} {r : Int32} {I : Nat → Nat → Int32} {J : Nat → Nat → Int64} (hc : c ≤ 600000) (hz : z ≤ 7200000)
    (h : pm_Ev d 201 [.ref 85] (pm_hp L fz t I J) (K_L_law_1125 d fz t Q c z x4 r)) :
    t_L_law_1121 d L fz t Q c z x4 r I J := by
  exact pm_go d pm_lcs 400 (pm_bt (pm_lg hc hz rfl (Nat.le_of_ble_eq_true rfl) (Nat.le_of_ble_eq_true rfl) rfl) h)
theorem kb_L_law_1121 {d L : Nat} {fz t : Bool} {Q : pm_R → pm_H → Prop} {c z : Nat} {x4 : Int32} {r : Int32} {fz1 : Bool} {I : Nat → Nat → Int32} {J : Nat → Nat → Int64} (hc : c ≤ 600000) (hz : z ≤ 7200000)
    (h : pm_Ev d 201 [.ref 85] (pm_hp L fz t I J) (K_L_law_1125 d fz t Q c z x4 r)) :
    K_L_law_1121 d fz t Q c z x4 (.inl (some (.int r))) (pm_hp L fz1 t I J) := b_L_law_1121 hc hz h
set_option maxRecDepth 100000 in
theorem b_L_law_1141 {d L : Nat} {fz t : Bool} {Q : pm_R → pm_H → Prop} {c z : Nat} {x4 : Int32} {r : Int32} {I : Nat → Nat → Int32} {J : Nat → Nat → Int64} (hc : c ≤ 600000) (hz : z ≤ 7200000)
    (h : (vp_in (x4 + (nI 1)) L ∧ pm_Ev d 203 [.ref 85, .int (I 2000000 ((x4 + (nI 1))).toNatClampNeg)] (pm_hp L fz t I J) (K_L_law_1153 d fz t Q c z x4 r))) :
    t_L_law_1141 d L fz t Q c z x4 r I J := by
  exact pm_go d pm_lcs 400 ⟨(h).1, (pm_bt (pm_lg hc hz rfl (Nat.le_of_ble_eq_true rfl) (Nat.le_of_ble_eq_true rfl) rfl) (h).2)⟩
theorem kb_L_law_1141 {d L : Nat} {fz t : Bool} {Q : pm_R → pm_H → Prop} {c z : Nat} {x4 : Int32} {r : Int32} {fz1 : Bool} {I : Nat → Nat → Int32} {J : Nat → Nat → Int64} (hc : c ≤ 600000) (hz : z ≤ 7200000)
    (h : (vp_in (x4 + (nI 1)) L ∧ pm_Ev d 203 [.ref 85, .int (I 2000000 ((x4 + (nI 1))).toNatClampNeg)] (pm_hp L true t I J) (K_L_law_1153 d true t Q c z x4 r))) :
    K_L_law_1141 d fz t Q c z x4 (.inl (some (.int r))) (pm_hp L fz1 t I J) := b_L_law_1141 hc hz h
set_option maxRecDepth 100000 in
theorem b_L_law_1203 {d L : Nat} {fz t : Bool} {Q : pm_R → pm_H → Prop} {c z : Nat} {x4 : Int32} {r : Int32} {I : Nat → Nat → Int32} {J : Nat → Nat → Int64} (hc : c ≤ 600000) (hz : z ≤ 7200000)
    (h : (vp_in (x4 + (nI 1)) L ∧ (vp_in (x4 + (nI 2)) L ∧ pm_Ev d 204 [.ref 85, .int (I 2000000 ((x4 + (nI 1))).toNatClampNeg), .int (I 2000000 ((x4 + (nI 2))).toNatClampNeg)] (pm_hp L fz t I J) (K_L_law_1221 d fz t Q c z x4 r)))) :
    t_L_law_1203 d L fz t Q c z x4 r I J := by
  exact pm_go d pm_lcs 400 ⟨(h).1, ⟨((h).2).1, (pm_bt (pm_lg hc hz rfl (Nat.le_of_ble_eq_true rfl) (Nat.le_of_ble_eq_true rfl) rfl) ((h).2).2)⟩⟩
theorem kb_L_law_1203 {d L : Nat} {fz t : Bool} {Q : pm_R → pm_H → Prop} {c z : Nat} {x4 : Int32} {r : Int32} {fz1 : Bool} {I : Nat → Nat → Int32} {J : Nat → Nat → Int64} (hc : c ≤ 600000) (hz : z ≤ 7200000)
    (h : (vp_in (x4 + (nI 1)) L ∧ (vp_in (x4 + (nI 2)) L ∧ pm_Ev d 204 [.ref 85, .int (I 2000000 ((x4 + (nI 1))).toNatClampNeg), .int (I 2000000 ((x4 + (nI 2))).toNatClampNeg)] (pm_hp L true t I J) (K_L_law_1221 d true t Q c z x4 r)))) :
    K_L_law_1203 d fz t Q c z x4 (.inl (some (.int r))) (pm_hp L fz1 t I J) := b_L_law_1203 hc hz h
set_option maxRecDepth 100000 in
theorem b_L_law_1265 {d L : Nat} {fz t : Bool} {Q : pm_R → pm_H → Prop} {c z : Nat} {x4 : Int32} {r : Int32} {I : Nat → Nat → Int32} {J : Nat → Nat → Int64} (hc : c ≤ 600000) (hz : z ≤ 7200000)
    (h : (vp_in (x4 + (nI 1)) L ∧ pm_Ev d 206 [.ref 85, .int (I 2000000 ((x4 + (nI 1))).toNatClampNeg)] (pm_hp L fz t I J) (K_L_law_1277 d fz t Q c z x4 r))) :
    t_L_law_1265 d L fz t Q c z x4 r I J := by
  exact pm_go d pm_lcs 400 ⟨(h).1, (pm_bt (pm_lg hc hz rfl (Nat.le_of_ble_eq_true rfl) (Nat.le_of_ble_eq_true rfl) rfl) (h).2)⟩
theorem kb_L_law_1265 {d L : Nat} {fz t : Bool} {Q : pm_R → pm_H → Prop} {c z : Nat} {x4 : Int32} {r : Int32} {fz1 : Bool} {I : Nat → Nat → Int32} {J : Nat → Nat → Int64} (hc : c ≤ 600000) (hz : z ≤ 7200000)
    (h : (vp_in (x4 + (nI 1)) L ∧ pm_Ev d 206 [.ref 85, .int (I 2000000 ((x4 + (nI 1))).toNatClampNeg)] (pm_hp L true t I J) (K_L_law_1277 d true t Q c z x4 r))) :
    K_L_law_1265 d fz t Q c z x4 (.inl (some (.int r))) (pm_hp L fz1 t I J) := b_L_law_1265 hc hz h
set_option maxRecDepth 100000 in
theorem b_L_law_1333 {d L : Nat} {fz t : Bool} {Q : pm_R → pm_H → Prop} {c z : Nat} {x4 : Int32} {r : Int32} {I : Nat → Nat → Int32} {J : Nat → Nat → Int64} (hc : c ≤ 600000) (hz : z ≤ 7200000)
    (h : (vp_in (x4 + (nI 1)) L ∧ (vp_in (x4 + (nI 2)) L ∧ (vp_in (x4 + (nI 3)) L ∧ pm_Ev d 207 [.ref 85, .int (I 2000000 ((x4 + (nI 1))).toNatClampNeg), .int (I 2000000 ((x4 + (nI 2))).toNatClampNeg), .int (I 2000000 ((x4 + (nI 3))).toNatClampNeg)] (pm_hp L fz t I J) (K_L_law_1357 d fz t Q c z x4 r))))) :
    t_L_law_1333 d L fz t Q c z x4 r I J := by
  exact pm_go d pm_lcs 400 ⟨(h).1, ⟨((h).2).1, ⟨(((h).2).2).1, (pm_bt (pm_lg hc hz rfl (Nat.le_of_ble_eq_true rfl) (Nat.le_of_ble_eq_true rfl) rfl) (((h).2).2).2)⟩⟩⟩
theorem kb_L_law_1333 {d L : Nat} {fz t : Bool} {Q : pm_R → pm_H → Prop} {c z : Nat} {x4 : Int32} {r : Int32} {fz1 : Bool} {I : Nat → Nat → Int32} {J : Nat → Nat → Int64} (hc : c ≤ 600000) (hz : z ≤ 7200000)
    (h : (vp_in (x4 + (nI 1)) L ∧ (vp_in (x4 + (nI 2)) L ∧ (vp_in (x4 + (nI 3)) L ∧ pm_Ev d 207 [.ref 85, .int (I 2000000 ((x4 + (nI 1))).toNatClampNeg), .int (I 2000000 ((x4 + (nI 2))).toNatClampNeg), .int (I 2000000 ((x4 + (nI 3))).toNatClampNeg)] (pm_hp L true t I J) (K_L_law_1357 d true t Q c z x4 r))))) :
    K_L_law_1333 d fz t Q c z x4 (.inl (some (.int r))) (pm_hp L fz1 t I J) := b_L_law_1333 hc hz h
set_option maxRecDepth 100000 in
theorem b_L_law_1401 {d L : Nat} {fz t : Bool} {Q : pm_R → pm_H → Prop} {c z : Nat} {x4 : Int32} {r : Int32} {I : Nat → Nat → Int32} {J : Nat → Nat → Int64} (hc : c ≤ 600000) (hz : z ≤ 7200000)
    (h : (vp_in (x4 + (nI 1)) L ∧ pm_Ev d 208 [.ref 85, .int (I 2000000 ((x4 + (nI 1))).toNatClampNeg)] (pm_hp L fz t I J) (K_L_law_1413 d fz t Q c z x4 r))) :
    t_L_law_1401 d L fz t Q c z x4 r I J := by
  exact pm_go d pm_lcs 400 ⟨(h).1, (pm_bt (pm_lg hc hz rfl (Nat.le_of_ble_eq_true rfl) (Nat.le_of_ble_eq_true rfl) rfl) (h).2)⟩
theorem kb_L_law_1401 {d L : Nat} {fz t : Bool} {Q : pm_R → pm_H → Prop} {c z : Nat} {x4 : Int32} {r : Int32} {fz1 : Bool} {I : Nat → Nat → Int32} {J : Nat → Nat → Int64} (hc : c ≤ 600000) (hz : z ≤ 7200000)
    (h : (vp_in (x4 + (nI 1)) L ∧ pm_Ev d 208 [.ref 85, .int (I 2000000 ((x4 + (nI 1))).toNatClampNeg)] (pm_hp L true t I J) (K_L_law_1413 d true t Q c z x4 r))) :
    K_L_law_1401 d fz t Q c z x4 (.inl (some (.int r))) (pm_hp L fz1 t I J) := b_L_law_1401 hc hz h
set_option maxRecDepth 100000 in
theorem b_L_law_1483 {d L : Nat} {fz t : Bool} {Q : pm_R → pm_H → Prop} {c z : Nat} {x4 : Int32} {r : Int32} {I : Nat → Nat → Int32} {J : Nat → Nat → Int64} (hc : c ≤ 600000) (hz : z ≤ 7200000)
    (h : (vp_in (x4 + (nI 1)) L ∧ (vp_in (x4 + (nI 2)) L ∧ (vp_in (x4 + (nI 3)) L ∧ (vp_in (x4 + (nI 4)) L ∧ (((I 2000000 ((x4 + (nI 4))).toNatClampNeg) = (nI 0) → pm_Ev d 209 [.ref 85, .int (I 2000000 ((x4 + (nI 1))).toNatClampNeg), .int (I 2000000 ((x4 + (nI 2))).toNatClampNeg), .int (I 2000000 ((x4 + (nI 3))).toNatClampNeg), .int (nI 0)] (pm_hp L fz t I J) (K_L_law_1521 d fz t Q c z x4 r)) ∧ (¬ (I 2000000 ((x4 + (nI 4))).toNatClampNeg) = (nI 0) → pm_Ev d 209 [.ref 85, .int (I 2000000 ((x4 + (nI 1))).toNatClampNeg), .int (I 2000000 ((x4 + (nI 2))).toNatClampNeg), .int (I 2000000 ((x4 + (nI 3))).toNatClampNeg), .int (nI 1)] (pm_hp L fz t I J) (K_L_law_1521 d fz t Q c z x4 r)))))))) :
    t_L_law_1483 d L fz t Q c z x4 r I J := by
  exact pm_go d pm_lcs 400 ⟨(h).1, ⟨((h).2).1, ⟨(((h).2).2).1, ⟨((((h).2).2).2).1, ⟨fun q0 => (pm_bt (pm_lg hc hz rfl (Nat.le_of_ble_eq_true rfl) (Nat.le_of_ble_eq_true rfl) rfl) ((((((h).2).2).2).2).1 q0)), fun q0 => (pm_bt (pm_lg hc hz rfl (Nat.le_of_ble_eq_true rfl) (Nat.le_of_ble_eq_true rfl) rfl) ((((((h).2).2).2).2).2 q0))⟩⟩⟩⟩⟩
theorem kb_L_law_1483 {d L : Nat} {fz t : Bool} {Q : pm_R → pm_H → Prop} {c z : Nat} {x4 : Int32} {r : Int32} {fz1 : Bool} {I : Nat → Nat → Int32} {J : Nat → Nat → Int64} (hc : c ≤ 600000) (hz : z ≤ 7200000)
    (h : (vp_in (x4 + (nI 1)) L ∧ (vp_in (x4 + (nI 2)) L ∧ (vp_in (x4 + (nI 3)) L ∧ (vp_in (x4 + (nI 4)) L ∧ (((I 2000000 ((x4 + (nI 4))).toNatClampNeg) = (nI 0) → pm_Ev d 209 [.ref 85, .int (I 2000000 ((x4 + (nI 1))).toNatClampNeg), .int (I 2000000 ((x4 + (nI 2))).toNatClampNeg), .int (I 2000000 ((x4 + (nI 3))).toNatClampNeg), .int (nI 0)] (pm_hp L true t I J) (K_L_law_1521 d true t Q c z x4 r)) ∧ (¬ (I 2000000 ((x4 + (nI 4))).toNatClampNeg) = (nI 0) → pm_Ev d 209 [.ref 85, .int (I 2000000 ((x4 + (nI 1))).toNatClampNeg), .int (I 2000000 ((x4 + (nI 2))).toNatClampNeg), .int (I 2000000 ((x4 + (nI 3))).toNatClampNeg), .int (nI 1)] (pm_hp L true t I J) (K_L_law_1521 d true t Q c z x4 r)))))))) :
    K_L_law_1483 d fz t Q c z x4 (.inl (some (.int r))) (pm_hp L fz1 t I J) := b_L_law_1483 hc hz h
set_option maxRecDepth 100000 in
theorem b_L_law_1558 {d L : Nat} {fz t : Bool} {Q : pm_R → pm_H → Prop} {c z : Nat} {x4 : Int32} {I : Nat → Nat → Int32} {J : Nat → Nat → Int64} (hc : c ≤ 600000) (hz : z ≤ 7200000)
    (h : pm_Ev d 210 [.ref 85] (pm_hp L fz t I J) (K_L_law_1562 d fz t Q c z x4)) :
    t_L_law_1558 d L fz t Q c z x4 I J := by
  exact pm_go d pm_lcs 400 (pm_bt (pm_lg hc hz rfl (Nat.le_of_ble_eq_true rfl) (Nat.le_of_ble_eq_true rfl) rfl) h)
theorem kb_L_law_1558 {d L : Nat} {fz t : Bool} {Q : pm_R → pm_H → Prop} {c z : Nat} {x4 : Int32} {fz1 : Bool} {I : Nat → Nat → Int32} {J : Nat → Nat → Int64} (hc : c ≤ 600000) (hz : z ≤ 7200000)
    (h : pm_Ev d 210 [.ref 85] (pm_hp L fz t I J) (K_L_law_1562 d fz t Q c z x4)) :
    K_L_law_1558 d fz t Q c z x4 (.inl none) (pm_hp L fz1 t I J) := b_L_law_1558 hc hz h
set_option maxRecDepth 100000 in
theorem b_L_law_1576 {d L : Nat} {fz t : Bool} {Q : pm_R → pm_H → Prop} {c z : Nat} {x4 : Int32} {r : Int32} {I : Nat → Nat → Int32} {J : Nat → Nat → Int64} (hc : c ≤ 600000) (hz : z ≤ 7200000)
    (h : (vp_in (x4 + (nI 1)) L ∧ pm_Ev d 213 [.ref 85, .int (I 2000000 ((x4 + (nI 1))).toNatClampNeg)] (pm_hp L fz t I J) (K_L_law_1588 d fz t Q c z x4 r))) :
    t_L_law_1576 d L fz t Q c z x4 r I J := by
  exact pm_go d pm_lcs 400 ⟨(h).1, (pm_bt (pm_lg hc hz rfl (Nat.le_of_ble_eq_true rfl) (Nat.le_of_ble_eq_true rfl) rfl) (h).2)⟩
theorem kb_L_law_1576 {d L : Nat} {fz t : Bool} {Q : pm_R → pm_H → Prop} {c z : Nat} {x4 : Int32} {r : Int32} {fz1 : Bool} {I : Nat → Nat → Int32} {J : Nat → Nat → Int64} (hc : c ≤ 600000) (hz : z ≤ 7200000)
    (h : (vp_in (x4 + (nI 1)) L ∧ pm_Ev d 213 [.ref 85, .int (I 2000000 ((x4 + (nI 1))).toNatClampNeg)] (pm_hp L true t I J) (K_L_law_1588 d true t Q c z x4 r))) :
    K_L_law_1576 d fz t Q c z x4 (.inl (some (.int r))) (pm_hp L fz1 t I J) := b_L_law_1576 hc hz h
set_option maxRecDepth 100000 in
theorem b_L_law_1638 {d L : Nat} {fz t : Bool} {Q : pm_R → pm_H → Prop} {c z : Nat} {x4 : Int32} {r : Int32} {I : Nat → Nat → Int32} {J : Nat → Nat → Int64} (hc : c ≤ 600000) (hz : z ≤ 7200000)
    (h : (vp_in (x4 + (nI 1)) L ∧ (vp_in (x4 + (nI 2)) L ∧ pm_Ev d 214 [.ref 85, .int (I 2000000 ((x4 + (nI 1))).toNatClampNeg), .int (I 2000000 ((x4 + (nI 2))).toNatClampNeg)] (pm_hp L fz t I J) (K_L_law_1656 d fz t Q c z x4 r)))) :
    t_L_law_1638 d L fz t Q c z x4 r I J := by
  exact pm_go d pm_lcs 400 ⟨(h).1, ⟨((h).2).1, (pm_bt (pm_lg hc hz rfl (Nat.le_of_ble_eq_true rfl) (Nat.le_of_ble_eq_true rfl) rfl) ((h).2).2)⟩⟩
theorem kb_L_law_1638 {d L : Nat} {fz t : Bool} {Q : pm_R → pm_H → Prop} {c z : Nat} {x4 : Int32} {r : Int32} {fz1 : Bool} {I : Nat → Nat → Int32} {J : Nat → Nat → Int64} (hc : c ≤ 600000) (hz : z ≤ 7200000)
    (h : (vp_in (x4 + (nI 1)) L ∧ (vp_in (x4 + (nI 2)) L ∧ pm_Ev d 214 [.ref 85, .int (I 2000000 ((x4 + (nI 1))).toNatClampNeg), .int (I 2000000 ((x4 + (nI 2))).toNatClampNeg)] (pm_hp L true t I J) (K_L_law_1656 d true t Q c z x4 r)))) :
    K_L_law_1638 d fz t Q c z x4 (.inl (some (.int r))) (pm_hp L fz1 t I J) := b_L_law_1638 hc hz h
set_option maxRecDepth 100000 in
theorem b_L_law_1700 {d L : Nat} {fz t : Bool} {Q : pm_R → pm_H → Prop} {c z : Nat} {x4 : Int32} {r : Int32} {I : Nat → Nat → Int32} {J : Nat → Nat → Int64} (hc : c ≤ 600000) (hz : z ≤ 7200000)
    (h : (vp_in (x4 + (nI 1)) L ∧ pm_Ev d 215 [.ref 85, .int (I 2000000 ((x4 + (nI 1))).toNatClampNeg)] (pm_hp L fz t I J) (K_L_law_1712 d fz t Q c z x4 r))) :
    t_L_law_1700 d L fz t Q c z x4 r I J := by
  exact pm_go d pm_lcs 400 ⟨(h).1, (pm_bt (pm_lg hc hz rfl (Nat.le_of_ble_eq_true rfl) (Nat.le_of_ble_eq_true rfl) rfl) (h).2)⟩
theorem kb_L_law_1700 {d L : Nat} {fz t : Bool} {Q : pm_R → pm_H → Prop} {c z : Nat} {x4 : Int32} {r : Int32} {fz1 : Bool} {I : Nat → Nat → Int32} {J : Nat → Nat → Int64} (hc : c ≤ 600000) (hz : z ≤ 7200000)
    (h : (vp_in (x4 + (nI 1)) L ∧ pm_Ev d 215 [.ref 85, .int (I 2000000 ((x4 + (nI 1))).toNatClampNeg)] (pm_hp L true t I J) (K_L_law_1712 d true t Q c z x4 r))) :
    K_L_law_1700 d fz t Q c z x4 (.inl (some (.int r))) (pm_hp L fz1 t I J) := b_L_law_1700 hc hz h
set_option maxRecDepth 100000 in
theorem b_L_law_1774 {d L : Nat} {fz t : Bool} {Q : pm_R → pm_H → Prop} {c z : Nat} {x4 : Int32} {r : Int32} {I : Nat → Nat → Int32} {J : Nat → Nat → Int64} (hc : c ≤ 600000) (hz : z ≤ 7200000)
    (h : (vp_in (x4 + (nI 1)) L ∧ (vp_in (x4 + (nI 2)) L ∧ (vp_in (x4 + (nI 3)) L ∧ (vp_in (x4 + (nI 4)) L ∧ pm_Ev d 216 [.ref 85, .int (I 2000000 ((x4 + (nI 1))).toNatClampNeg), .int (I 2000000 ((x4 + (nI 2))).toNatClampNeg), .int (I 2000000 ((x4 + (nI 3))).toNatClampNeg), .int (I 2000000 ((x4 + (nI 4))).toNatClampNeg)] (pm_hp L fz t I J) (K_L_law_1804 d fz t Q c z x4 r)))))) :
    t_L_law_1774 d L fz t Q c z x4 r I J := by
  exact pm_go d pm_lcs 400 ⟨(h).1, ⟨((h).2).1, ⟨(((h).2).2).1, ⟨((((h).2).2).2).1, (pm_bt (pm_lg hc hz rfl (Nat.le_of_ble_eq_true rfl) (Nat.le_of_ble_eq_true rfl) rfl) ((((h).2).2).2).2)⟩⟩⟩⟩
theorem kb_L_law_1774 {d L : Nat} {fz t : Bool} {Q : pm_R → pm_H → Prop} {c z : Nat} {x4 : Int32} {r : Int32} {fz1 : Bool} {I : Nat → Nat → Int32} {J : Nat → Nat → Int64} (hc : c ≤ 600000) (hz : z ≤ 7200000)
    (h : (vp_in (x4 + (nI 1)) L ∧ (vp_in (x4 + (nI 2)) L ∧ (vp_in (x4 + (nI 3)) L ∧ (vp_in (x4 + (nI 4)) L ∧ pm_Ev d 216 [.ref 85, .int (I 2000000 ((x4 + (nI 1))).toNatClampNeg), .int (I 2000000 ((x4 + (nI 2))).toNatClampNeg), .int (I 2000000 ((x4 + (nI 3))).toNatClampNeg), .int (I 2000000 ((x4 + (nI 4))).toNatClampNeg)] (pm_hp L true t I J) (K_L_law_1804 d true t Q c z x4 r)))))) :
    K_L_law_1774 d fz t Q c z x4 (.inl (some (.int r))) (pm_hp L fz1 t I J) := b_L_law_1774 hc hz h
set_option maxRecDepth 100000 in
theorem b_L_law_1848 {d L : Nat} {fz t : Bool} {Q : pm_R → pm_H → Prop} {c z : Nat} {x4 : Int32} {r : Int32} {I : Nat → Nat → Int32} {J : Nat → Nat → Int64} (hc : c ≤ 600000) (hz : z ≤ 7200000)
    (h : (vp_in (x4 + (nI 1)) L ∧ pm_Ev d 219 [.ref 85, .int (I 2000000 ((x4 + (nI 1))).toNatClampNeg)] (pm_hp L fz t I J) (K_L_law_1860 d fz t Q c z x4 r))) :
    t_L_law_1848 d L fz t Q c z x4 r I J := by
  exact pm_go d pm_lcs 400 ⟨(h).1, (pm_bt (pm_lg hc hz rfl (Nat.le_of_ble_eq_true rfl) (Nat.le_of_ble_eq_true rfl) rfl) (h).2)⟩
theorem kb_L_law_1848 {d L : Nat} {fz t : Bool} {Q : pm_R → pm_H → Prop} {c z : Nat} {x4 : Int32} {r : Int32} {fz1 : Bool} {I : Nat → Nat → Int32} {J : Nat → Nat → Int64} (hc : c ≤ 600000) (hz : z ≤ 7200000)
    (h : (vp_in (x4 + (nI 1)) L ∧ pm_Ev d 219 [.ref 85, .int (I 2000000 ((x4 + (nI 1))).toNatClampNeg)] (pm_hp L true t I J) (K_L_law_1860 d true t Q c z x4 r))) :
    K_L_law_1848 d fz t Q c z x4 (.inl (some (.int r))) (pm_hp L fz1 t I J) := b_L_law_1848 hc hz h
set_option maxRecDepth 100000 in
theorem b_L_law_1916 {d L : Nat} {fz t : Bool} {Q : pm_R → pm_H → Prop} {c z : Nat} {x4 : Int32} {r : Int32} {I : Nat → Nat → Int32} {J : Nat → Nat → Int64} (hc : c ≤ 600000) (hz : z ≤ 7200000)
    (h : (vp_in (x4 + (nI 1)) L ∧ (vp_in (x4 + (nI 2)) L ∧ (vp_in (x4 + (nI 3)) L ∧ pm_Ev d 222 [.ref 85, .int (I 2000000 ((x4 + (nI 1))).toNatClampNeg), .int (I 2000000 ((x4 + (nI 2))).toNatClampNeg), .int (I 2000000 ((x4 + (nI 3))).toNatClampNeg)] (pm_hp L fz t I J) (K_L_law_1940 d fz t Q c z x4 r))))) :
    t_L_law_1916 d L fz t Q c z x4 r I J := by
  exact pm_go d pm_lcs 400 ⟨(h).1, ⟨((h).2).1, ⟨(((h).2).2).1, (pm_bt (pm_lg hc hz rfl (Nat.le_of_ble_eq_true rfl) (Nat.le_of_ble_eq_true rfl) rfl) (((h).2).2).2)⟩⟩⟩
theorem kb_L_law_1916 {d L : Nat} {fz t : Bool} {Q : pm_R → pm_H → Prop} {c z : Nat} {x4 : Int32} {r : Int32} {fz1 : Bool} {I : Nat → Nat → Int32} {J : Nat → Nat → Int64} (hc : c ≤ 600000) (hz : z ≤ 7200000)
    (h : (vp_in (x4 + (nI 1)) L ∧ (vp_in (x4 + (nI 2)) L ∧ (vp_in (x4 + (nI 3)) L ∧ pm_Ev d 222 [.ref 85, .int (I 2000000 ((x4 + (nI 1))).toNatClampNeg), .int (I 2000000 ((x4 + (nI 2))).toNatClampNeg), .int (I 2000000 ((x4 + (nI 3))).toNatClampNeg)] (pm_hp L true t I J) (K_L_law_1940 d true t Q c z x4 r))))) :
    K_L_law_1916 d fz t Q c z x4 (.inl (some (.int r))) (pm_hp L fz1 t I J) := b_L_law_1916 hc hz h
set_option maxRecDepth 100000 in
theorem b_L_law_1996 {d L : Nat} {fz t : Bool} {Q : pm_R → pm_H → Prop} {c z : Nat} {x4 : Int32} {r : Int32} {I : Nat → Nat → Int32} {J : Nat → Nat → Int64} (hc : c ≤ 600000) (hz : z ≤ 7200000)
    (h : (vp_in (x4 + (nI 1)) L ∧ (vp_in (x4 + (nI 2)) L ∧ (vp_in (x4 + (nI 3)) L ∧ pm_Ev d 225 [.ref 85, .int (I 2000000 ((x4 + (nI 1))).toNatClampNeg), .int (I 2000000 ((x4 + (nI 2))).toNatClampNeg), .int (I 2000000 ((x4 + (nI 3))).toNatClampNeg)] (pm_hp L fz t I J) (K_L_law_2020 d fz t Q c z x4 r))))) :
    t_L_law_1996 d L fz t Q c z x4 r I J := by
  exact pm_go d pm_lcs 400 ⟨(h).1, ⟨((h).2).1, ⟨(((h).2).2).1, (pm_bt (pm_lg hc hz rfl (Nat.le_of_ble_eq_true rfl) (Nat.le_of_ble_eq_true rfl) rfl) (((h).2).2).2)⟩⟩⟩
theorem kb_L_law_1996 {d L : Nat} {fz t : Bool} {Q : pm_R → pm_H → Prop} {c z : Nat} {x4 : Int32} {r : Int32} {fz1 : Bool} {I : Nat → Nat → Int32} {J : Nat → Nat → Int64} (hc : c ≤ 600000) (hz : z ≤ 7200000)
    (h : (vp_in (x4 + (nI 1)) L ∧ (vp_in (x4 + (nI 2)) L ∧ (vp_in (x4 + (nI 3)) L ∧ pm_Ev d 225 [.ref 85, .int (I 2000000 ((x4 + (nI 1))).toNatClampNeg), .int (I 2000000 ((x4 + (nI 2))).toNatClampNeg), .int (I 2000000 ((x4 + (nI 3))).toNatClampNeg)] (pm_hp L true t I J) (K_L_law_2020 d true t Q c z x4 r))))) :
    K_L_law_1996 d fz t Q c z x4 (.inl (some (.int r))) (pm_hp L fz1 t I J) := b_L_law_1996 hc hz h
set_option maxRecDepth 100000 in
theorem b_L_law_2070 {d L : Nat} {fz t : Bool} {Q : pm_R → pm_H → Prop} {c z : Nat} {x4 : Int32} {r : Int32} {I : Nat → Nat → Int32} {J : Nat → Nat → Int64} (hc : c ≤ 600000) (hz : z ≤ 7200000)
    (h : (vp_in (x4 + (nI 1)) L ∧ (vp_in (x4 + (nI 2)) L ∧ pm_Ev d 226 [.ref 85, .int (I 2000000 ((x4 + (nI 1))).toNatClampNeg), .int (I 2000000 ((x4 + (nI 2))).toNatClampNeg)] (pm_hp L fz t I J) (K_L_law_2088 d fz t Q c z x4 r)))) :
    t_L_law_2070 d L fz t Q c z x4 r I J := by
  exact pm_go d pm_lcs 400 ⟨(h).1, ⟨((h).2).1, (pm_bt (pm_lg hc hz rfl (Nat.le_of_ble_eq_true rfl) (Nat.le_of_ble_eq_true rfl) rfl) ((h).2).2)⟩⟩
theorem kb_L_law_2070 {d L : Nat} {fz t : Bool} {Q : pm_R → pm_H → Prop} {c z : Nat} {x4 : Int32} {r : Int32} {fz1 : Bool} {I : Nat → Nat → Int32} {J : Nat → Nat → Int64} (hc : c ≤ 600000) (hz : z ≤ 7200000)
    (h : (vp_in (x4 + (nI 1)) L ∧ (vp_in (x4 + (nI 2)) L ∧ pm_Ev d 226 [.ref 85, .int (I 2000000 ((x4 + (nI 1))).toNatClampNeg), .int (I 2000000 ((x4 + (nI 2))).toNatClampNeg)] (pm_hp L true t I J) (K_L_law_2088 d true t Q c z x4 r)))) :
    K_L_law_2070 d fz t Q c z x4 (.inl (some (.int r))) (pm_hp L fz1 t I J) := b_L_law_2070 hc hz h
set_option maxRecDepth 100000 in
theorem b_L_law_2138 {d L : Nat} {fz t : Bool} {Q : pm_R → pm_H → Prop} {c z : Nat} {x4 : Int32} {r : Int32} {I : Nat → Nat → Int32} {J : Nat → Nat → Int64} (hc : c ≤ 600000) (hz : z ≤ 7200000)
    (h : (vp_in (x4 + (nI 1)) L ∧ (vp_in (x4 + (nI 2)) L ∧ pm_Ev d 227 [.ref 85, .int (I 2000000 ((x4 + (nI 1))).toNatClampNeg), .int (I 2000000 ((x4 + (nI 2))).toNatClampNeg)] (pm_hp L fz t I J) (K_L_law_2156 d fz t Q c z x4 r)))) :
    t_L_law_2138 d L fz t Q c z x4 r I J := by
  exact pm_go d pm_lcs 400 ⟨(h).1, ⟨((h).2).1, (pm_bt (pm_lg hc hz rfl (Nat.le_of_ble_eq_true rfl) (Nat.le_of_ble_eq_true rfl) rfl) ((h).2).2)⟩⟩
theorem kb_L_law_2138 {d L : Nat} {fz t : Bool} {Q : pm_R → pm_H → Prop} {c z : Nat} {x4 : Int32} {r : Int32} {fz1 : Bool} {I : Nat → Nat → Int32} {J : Nat → Nat → Int64} (hc : c ≤ 600000) (hz : z ≤ 7200000)
    (h : (vp_in (x4 + (nI 1)) L ∧ (vp_in (x4 + (nI 2)) L ∧ pm_Ev d 227 [.ref 85, .int (I 2000000 ((x4 + (nI 1))).toNatClampNeg), .int (I 2000000 ((x4 + (nI 2))).toNatClampNeg)] (pm_hp L true t I J) (K_L_law_2156 d true t Q c z x4 r)))) :
    K_L_law_2138 d fz t Q c z x4 (.inl (some (.int r))) (pm_hp L fz1 t I J) := b_L_law_2138 hc hz h
set_option maxRecDepth 100000 in
theorem b_L_law_2200 {d L : Nat} {fz t : Bool} {Q : pm_R → pm_H → Prop} {c z : Nat} {x4 : Int32} {r : Int32} {I : Nat → Nat → Int32} {J : Nat → Nat → Int64} (hc : c ≤ 600000) (hz : z ≤ 7200000)
    (h : (vp_in (x4 + (nI 1)) L ∧ pm_Ev d 228 [.ref 85, .int (I 2000000 ((x4 + (nI 1))).toNatClampNeg)] (pm_hp L fz t I J) (K_L_law_2212 d fz t Q c z x4 r))) :
    t_L_law_2200 d L fz t Q c z x4 r I J := by
  exact pm_go d pm_lcs 400 ⟨(h).1, (pm_bt (pm_lg hc hz rfl (Nat.le_of_ble_eq_true rfl) (Nat.le_of_ble_eq_true rfl) rfl) (h).2)⟩
theorem kb_L_law_2200 {d L : Nat} {fz t : Bool} {Q : pm_R → pm_H → Prop} {c z : Nat} {x4 : Int32} {r : Int32} {fz1 : Bool} {I : Nat → Nat → Int32} {J : Nat → Nat → Int64} (hc : c ≤ 600000) (hz : z ≤ 7200000)
    (h : (vp_in (x4 + (nI 1)) L ∧ pm_Ev d 228 [.ref 85, .int (I 2000000 ((x4 + (nI 1))).toNatClampNeg)] (pm_hp L true t I J) (K_L_law_2212 d true t Q c z x4 r))) :
    K_L_law_2200 d fz t Q c z x4 (.inl (some (.int r))) (pm_hp L fz1 t I J) := b_L_law_2200 hc hz h
set_option maxRecDepth 100000 in
theorem b_L_law_2256 {d L : Nat} {fz t : Bool} {Q : pm_R → pm_H → Prop} {c z : Nat} {x4 : Int32} {r : Int32} {I : Nat → Nat → Int32} {J : Nat → Nat → Int64} (hc : c ≤ 600000) (hz : z ≤ 7200000)
    (h : (vp_in (x4 + (nI 1)) L ∧ pm_Ev d 229 [.ref 85, .int (I 2000000 ((x4 + (nI 1))).toNatClampNeg)] (pm_hp L fz t I J) (K_L_law_2268 d fz t Q c z x4 r))) :
    t_L_law_2256 d L fz t Q c z x4 r I J := by
  exact pm_go d pm_lcs 400 ⟨(h).1, (pm_bt (pm_lg hc hz rfl (Nat.le_of_ble_eq_true rfl) (Nat.le_of_ble_eq_true rfl) rfl) (h).2)⟩
theorem kb_L_law_2256 {d L : Nat} {fz t : Bool} {Q : pm_R → pm_H → Prop} {c z : Nat} {x4 : Int32} {r : Int32} {fz1 : Bool} {I : Nat → Nat → Int32} {J : Nat → Nat → Int64} (hc : c ≤ 600000) (hz : z ≤ 7200000)
    (h : (vp_in (x4 + (nI 1)) L ∧ pm_Ev d 229 [.ref 85, .int (I 2000000 ((x4 + (nI 1))).toNatClampNeg)] (pm_hp L true t I J) (K_L_law_2268 d true t Q c z x4 r))) :
    K_L_law_2256 d fz t Q c z x4 (.inl (some (.int r))) (pm_hp L fz1 t I J) := b_L_law_2256 hc hz h
set_option maxRecDepth 100000 in
theorem b_L_law_2312 {d L : Nat} {fz t : Bool} {Q : pm_R → pm_H → Prop} {c z : Nat} {x4 : Int32} {r : Int32} {I : Nat → Nat → Int32} {J : Nat → Nat → Int64} (hc : c ≤ 600000) (hz : z ≤ 7200000)
    (h : (vp_in (x4 + (nI 1)) L ∧ pm_Ev d 230 [.ref 85, .int (I 2000000 ((x4 + (nI 1))).toNatClampNeg)] (pm_hp L fz t I J) (K_L_law_2324 d fz t Q c z x4 r))) :
    t_L_law_2312 d L fz t Q c z x4 r I J := by
  exact pm_go d pm_lcs 400 ⟨(h).1, (pm_bt (pm_lg hc hz rfl (Nat.le_of_ble_eq_true rfl) (Nat.le_of_ble_eq_true rfl) rfl) (h).2)⟩
theorem kb_L_law_2312 {d L : Nat} {fz t : Bool} {Q : pm_R → pm_H → Prop} {c z : Nat} {x4 : Int32} {r : Int32} {fz1 : Bool} {I : Nat → Nat → Int32} {J : Nat → Nat → Int64} (hc : c ≤ 600000) (hz : z ≤ 7200000)
    (h : (vp_in (x4 + (nI 1)) L ∧ pm_Ev d 230 [.ref 85, .int (I 2000000 ((x4 + (nI 1))).toNatClampNeg)] (pm_hp L true t I J) (K_L_law_2324 d true t Q c z x4 r))) :
    K_L_law_2312 d fz t Q c z x4 (.inl (some (.int r))) (pm_hp L fz1 t I J) := b_L_law_2312 hc hz h
set_option maxRecDepth 100000 in
theorem b_L_law_2368 {d L : Nat} {fz t : Bool} {Q : pm_R → pm_H → Prop} {c z : Nat} {x4 : Int32} {r : Int32} {I : Nat → Nat → Int32} {J : Nat → Nat → Int64} (hc : c ≤ 600000) (hz : z ≤ 7200000)
    (h : (vp_in (x4 + (nI 1)) L ∧ pm_Ev d 231 [.ref 85, .int (I 2000000 ((x4 + (nI 1))).toNatClampNeg)] (pm_hp L fz t I J) (K_L_law_2380 d fz t Q c z x4 r))) :
    t_L_law_2368 d L fz t Q c z x4 r I J := by
  exact pm_go d pm_lcs 400 ⟨(h).1, (pm_bt (pm_lg hc hz rfl (Nat.le_of_ble_eq_true rfl) (Nat.le_of_ble_eq_true rfl) rfl) (h).2)⟩
theorem kb_L_law_2368 {d L : Nat} {fz t : Bool} {Q : pm_R → pm_H → Prop} {c z : Nat} {x4 : Int32} {r : Int32} {fz1 : Bool} {I : Nat → Nat → Int32} {J : Nat → Nat → Int64} (hc : c ≤ 600000) (hz : z ≤ 7200000)
    (h : (vp_in (x4 + (nI 1)) L ∧ pm_Ev d 231 [.ref 85, .int (I 2000000 ((x4 + (nI 1))).toNatClampNeg)] (pm_hp L true t I J) (K_L_law_2380 d true t Q c z x4 r))) :
    K_L_law_2368 d fz t Q c z x4 (.inl (some (.int r))) (pm_hp L fz1 t I J) := b_L_law_2368 hc hz h
set_option maxRecDepth 100000 in
theorem b_L_law_2424 {d L : Nat} {fz t : Bool} {Q : pm_R → pm_H → Prop} {c z : Nat} {x4 : Int32} {r : Int32} {I : Nat → Nat → Int32} {J : Nat → Nat → Int64} (hc : c ≤ 600000) (hz : z ≤ 7200000)
    (h : (vp_in (x4 + (nI 1)) L ∧ pm_Ev d 232 [.ref 85, .int (I 2000000 ((x4 + (nI 1))).toNatClampNeg)] (pm_hp L fz t I J) (K_L_law_2436 d fz t Q c z x4 r))) :
    t_L_law_2424 d L fz t Q c z x4 r I J := by
  exact pm_go d pm_lcs 400 ⟨(h).1, (pm_bt (pm_lg hc hz rfl (Nat.le_of_ble_eq_true rfl) (Nat.le_of_ble_eq_true rfl) rfl) (h).2)⟩
theorem kb_L_law_2424 {d L : Nat} {fz t : Bool} {Q : pm_R → pm_H → Prop} {c z : Nat} {x4 : Int32} {r : Int32} {fz1 : Bool} {I : Nat → Nat → Int32} {J : Nat → Nat → Int64} (hc : c ≤ 600000) (hz : z ≤ 7200000)
    (h : (vp_in (x4 + (nI 1)) L ∧ pm_Ev d 232 [.ref 85, .int (I 2000000 ((x4 + (nI 1))).toNatClampNeg)] (pm_hp L true t I J) (K_L_law_2436 d true t Q c z x4 r))) :
    K_L_law_2424 d fz t Q c z x4 (.inl (some (.int r))) (pm_hp L fz1 t I J) := b_L_law_2424 hc hz h
set_option maxRecDepth 100000 in
theorem b_L_law_2480 {d L : Nat} {fz t : Bool} {Q : pm_R → pm_H → Prop} {c z : Nat} {x4 : Int32} {r : Int32} {I : Nat → Nat → Int32} {J : Nat → Nat → Int64} (hc : c ≤ 600000) (hz : z ≤ 7200000)
    (h : pm_Ev d 233 [.ref 85] (pm_hp L fz t I J) (K_L_law_2484 d fz t Q c z x4 r)) :
    t_L_law_2480 d L fz t Q c z x4 r I J := by
  exact pm_go d pm_lcs 400 (pm_bt (pm_lg hc hz rfl (Nat.le_of_ble_eq_true rfl) (Nat.le_of_ble_eq_true rfl) rfl) h)
theorem kb_L_law_2480 {d L : Nat} {fz t : Bool} {Q : pm_R → pm_H → Prop} {c z : Nat} {x4 : Int32} {r : Int32} {fz1 : Bool} {I : Nat → Nat → Int32} {J : Nat → Nat → Int64} (hc : c ≤ 600000) (hz : z ≤ 7200000)
    (h : pm_Ev d 233 [.ref 85] (pm_hp L fz t I J) (K_L_law_2484 d fz t Q c z x4 r)) :
    K_L_law_2480 d fz t Q c z x4 (.inl (some (.int r))) (pm_hp L fz1 t I J) := b_L_law_2480 hc hz h
set_option maxRecDepth 100000 in
theorem b_L_law_2493 {d L : Nat} {fz t : Bool} {Q : pm_R → pm_H → Prop} {c z : Nat} {x4 : Int32} {I : Nat → Nat → Int32} {J : Nat → Nat → Int64} (hc : c ≤ 600000) (hz : z ≤ 7200000)
    (h : pm_Ev d 234 [.ref 85] (pm_hp L fz t I J) (K_L_law_2497 d fz t Q c z x4)) :
    t_L_law_2493 d L fz t Q c z x4 I J := by
  exact pm_go d pm_lcs 400 (pm_bt (pm_lg hc hz rfl (Nat.le_of_ble_eq_true rfl) (Nat.le_of_ble_eq_true rfl) rfl) h)
theorem kb_L_law_2493 {d L : Nat} {fz t : Bool} {Q : pm_R → pm_H → Prop} {c z : Nat} {x4 : Int32} {fz1 : Bool} {I : Nat → Nat → Int32} {J : Nat → Nat → Int64} (hc : c ≤ 600000) (hz : z ≤ 7200000)
    (h : pm_Ev d 234 [.ref 85] (pm_hp L fz t I J) (K_L_law_2497 d fz t Q c z x4)) :
    K_L_law_2493 d fz t Q c z x4 (.inl none) (pm_hp L fz1 t I J) := b_L_law_2493 hc hz h
set_option maxRecDepth 100000 in
theorem b_L_law_2504 {d L : Nat} {fz t : Bool} {Q : pm_R → pm_H → Prop} {c z : Nat} {x4 : Int32} {r : Int32} {I : Nat → Nat → Int32} {J : Nat → Nat → Int64} (hc : c ≤ 600000) (hz : z ≤ 7200000)
    (h : pm_Ev d 235 [.ref 85] (pm_hp L fz t I J) (K_L_law_2508 d fz t Q c z x4 r)) :
    t_L_law_2504 d L fz t Q c z x4 r I J := by
  exact pm_go d pm_lcs 400 (pm_bt (pm_lg hc hz rfl (Nat.le_of_ble_eq_true rfl) (Nat.le_of_ble_eq_true rfl) rfl) h)
theorem kb_L_law_2504 {d L : Nat} {fz t : Bool} {Q : pm_R → pm_H → Prop} {c z : Nat} {x4 : Int32} {r : Int32} {fz1 : Bool} {I : Nat → Nat → Int32} {J : Nat → Nat → Int64} (hc : c ≤ 600000) (hz : z ≤ 7200000)
    (h : pm_Ev d 235 [.ref 85] (pm_hp L fz t I J) (K_L_law_2508 d fz t Q c z x4 r)) :
    K_L_law_2504 d fz t Q c z x4 (.inl (some (.int r))) (pm_hp L fz1 t I J) := b_L_law_2504 hc hz h
set_option maxRecDepth 100000 in
theorem b_L_law_292 {d L : Nat} {fz t : Bool} {Q : pm_R → pm_H → Prop} {c z : Nat} {x4 : Int32} {s0 : Int32} {r : Int32} {I : Nat → Nat → Int32} {J : Nat → Nat → Int64} (hc : c ≤ 600000) (hz : z ≤ 7200000)
    (h : ((s0 = r → t_L_law_2513 d L fz t Q c z x4 I J) ∧ (¬ s0 = r → Q (.inl (some (.int (nI 0)))) (pm_hp L fz t I J)))) :
    t_L_law_292 d L fz t Q c z x4 s0 r I J := by
  exact pm_go d pm_lcs 400 ⟨fun q0 => ((h).1 q0), fun q0 => ⟨Or.inl rfl, (pm_bt (pm_lr hc hz) ((h).2 q0))⟩⟩
theorem kb_L_law_292 {d L : Nat} {fz t : Bool} {Q : pm_R → pm_H → Prop} {c z : Nat} {x4 : Int32} {s0 : Int32} {r : Int32} {fz1 : Bool} {I : Nat → Nat → Int32} {J : Nat → Nat → Int64} (hc : c ≤ 600000) (hz : z ≤ 7200000)
    (h : ((s0 = r → t_L_law_2513 d L fz t Q c z x4 I J) ∧ (¬ s0 = r → Q (.inl (some (.int (nI 0)))) (pm_hp L fz t I J)))) :
    K_L_law_292 d fz t Q c z x4 s0 (.inl (some (.int r))) (pm_hp L fz1 t I J) := b_L_law_292 hc hz h
set_option maxRecDepth 100000 in
theorem b_L_law_320 {d L : Nat} {fz t : Bool} {Q : pm_R → pm_H → Prop} {c z : Nat} {x4 : Int32} {x5 : Int32} {r : Int32} {I : Nat → Nat → Int32} {J : Nat → Nat → Int64} (hc : c ≤ 600000) (hz : z ≤ 7200000)
    (h : pm_Ev d 117 [.ref 85] (pm_hp L fz t I J) (K_L_law_326 d fz t Q c z x4 x5 r)) :
    t_L_law_320 d L fz t Q c z x4 x5 r I J := by
  exact pm_go d pm_lcs 400 (pm_bt (pm_lg hc hz rfl (Nat.le_of_ble_eq_true rfl) (Nat.le_of_ble_eq_true rfl) rfl) h)
theorem kb_L_law_320 {d L : Nat} {fz t : Bool} {Q : pm_R → pm_H → Prop} {c z : Nat} {x4 : Int32} {x5 : Int32} {r : Int32} {fz1 : Bool} {I : Nat → Nat → Int32} {J : Nat → Nat → Int64} (hc : c ≤ 600000) (hz : z ≤ 7200000)
    (h : pm_Ev d 117 [.ref 85] (pm_hp L fz t I J) (K_L_law_326 d fz t Q c z x4 x5 r)) :
    K_L_law_320 d fz t Q c z x4 x5 (.inl (some (.int r))) (pm_hp L fz1 t I J) := b_L_law_320 hc hz h
set_option maxRecDepth 100000 in
theorem b_L_law_361 {d L : Nat} {fz t : Bool} {Q : pm_R → pm_H → Prop} {c z : Nat} {x4 : Int32} {s0 : Int32} {r : Int32} {I : Nat → Nat → Int32} {J : Nat → Nat → Int64} (hc : c ≤ 600000) (hz : z ≤ 7200000)
    (h : ((s0 = r → t_L_law_2513 d L fz t Q c z x4 I J) ∧ (¬ s0 = r → Q (.inl (some (.int (nI 0)))) (pm_hp L fz t I J)))) :
    t_L_law_361 d L fz t Q c z x4 s0 r I J := by
  exact pm_go d pm_lcs 400 ⟨fun q0 => ((h).1 q0), fun q0 => ⟨Or.inl rfl, (pm_bt (pm_lr hc hz) ((h).2 q0))⟩⟩
theorem kb_L_law_361 {d L : Nat} {fz t : Bool} {Q : pm_R → pm_H → Prop} {c z : Nat} {x4 : Int32} {s0 : Int32} {r : Int32} {fz1 : Bool} {I : Nat → Nat → Int32} {J : Nat → Nat → Int64} (hc : c ≤ 600000) (hz : z ≤ 7200000)
    (h : ((s0 = r → t_L_law_2513 d L fz t Q c z x4 I J) ∧ (¬ s0 = r → Q (.inl (some (.int (nI 0)))) (pm_hp L fz t I J)))) :
    K_L_law_361 d fz t Q c z x4 s0 (.inl (some (.int r))) (pm_hp L fz1 t I J) := b_L_law_361 hc hz h
set_option maxRecDepth 100000 in
theorem b_L_law_389 {d L : Nat} {fz t : Bool} {Q : pm_R → pm_H → Prop} {c z : Nat} {x4 : Int32} {x5 : Int32} {r : Int32} {I : Nat → Nat → Int32} {J : Nat → Nat → Int64} (hc : c ≤ 600000) (hz : z ≤ 7200000)
    (h : pm_Ev d 117 [.ref 85] (pm_hp L fz t I J) (K_L_law_395 d fz t Q c z x4 x5 r)) :
    t_L_law_389 d L fz t Q c z x4 x5 r I J := by
  exact pm_go d pm_lcs 400 (pm_bt (pm_lg hc hz rfl (Nat.le_of_ble_eq_true rfl) (Nat.le_of_ble_eq_true rfl) rfl) h)
theorem kb_L_law_389 {d L : Nat} {fz t : Bool} {Q : pm_R → pm_H → Prop} {c z : Nat} {x4 : Int32} {x5 : Int32} {r : Int32} {fz1 : Bool} {I : Nat → Nat → Int32} {J : Nat → Nat → Int64} (hc : c ≤ 600000) (hz : z ≤ 7200000)
    (h : pm_Ev d 117 [.ref 85] (pm_hp L fz t I J) (K_L_law_395 d fz t Q c z x4 x5 r)) :
    K_L_law_389 d fz t Q c z x4 x5 (.inl (some (.int r))) (pm_hp L fz1 t I J) := b_L_law_389 hc hz h
set_option maxRecDepth 100000 in
theorem b_L_law_457 {d L : Nat} {fz t : Bool} {Q : pm_R → pm_H → Prop} {c z : Nat} {x4 : Int32} {x5 : Int32} {r : Int32} {I : Nat → Nat → Int32} {J : Nat → Nat → Int64} (hc : c ≤ 600000) (hz : z ≤ 7200000)
    (h : pm_Ev d 117 [.ref 85] (pm_hp L fz t I J) (K_L_law_463 d fz t Q c z x4 x5 r)) :
    t_L_law_457 d L fz t Q c z x4 x5 r I J := by
  exact pm_go d pm_lcs 400 (pm_bt (pm_lg hc hz rfl (Nat.le_of_ble_eq_true rfl) (Nat.le_of_ble_eq_true rfl) rfl) h)
theorem kb_L_law_457 {d L : Nat} {fz t : Bool} {Q : pm_R → pm_H → Prop} {c z : Nat} {x4 : Int32} {x5 : Int32} {r : Int32} {fz1 : Bool} {I : Nat → Nat → Int32} {J : Nat → Nat → Int64} (hc : c ≤ 600000) (hz : z ≤ 7200000)
    (h : pm_Ev d 117 [.ref 85] (pm_hp L fz t I J) (K_L_law_463 d fz t Q c z x4 x5 r)) :
    K_L_law_457 d fz t Q c z x4 x5 (.inl (some (.int r))) (pm_hp L fz1 t I J) := b_L_law_457 hc hz h
set_option maxRecDepth 100000 in
theorem b_L_law_513 {d L : Nat} {fz t : Bool} {Q : pm_R → pm_H → Prop} {c z : Nat} {x4 : Int32} {x5 : Int32} {r : Int32} {I : Nat → Nat → Int32} {J : Nat → Nat → Int64} (hc : c ≤ 600000) (hz : z ≤ 7200000)
    (h : pm_Ev d 117 [.ref 85] (pm_hp L fz t I J) (K_L_law_519 d fz t Q c z x4 x5 r)) :
    t_L_law_513 d L fz t Q c z x4 x5 r I J := by
  exact pm_go d pm_lcs 400 (pm_bt (pm_lg hc hz rfl (Nat.le_of_ble_eq_true rfl) (Nat.le_of_ble_eq_true rfl) rfl) h)
theorem kb_L_law_513 {d L : Nat} {fz t : Bool} {Q : pm_R → pm_H → Prop} {c z : Nat} {x4 : Int32} {x5 : Int32} {r : Int32} {fz1 : Bool} {I : Nat → Nat → Int32} {J : Nat → Nat → Int64} (hc : c ≤ 600000) (hz : z ≤ 7200000)
    (h : pm_Ev d 117 [.ref 85] (pm_hp L fz t I J) (K_L_law_519 d fz t Q c z x4 x5 r)) :
    K_L_law_513 d fz t Q c z x4 x5 (.inl (some (.int r))) (pm_hp L fz1 t I J) := b_L_law_513 hc hz h
set_option maxRecDepth 100000 in
theorem b_L_law_581 {d L : Nat} {fz t : Bool} {Q : pm_R → pm_H → Prop} {c z : Nat} {x4 : Int32} {x5 : Int32} {r : Int32} {I : Nat → Nat → Int32} {J : Nat → Nat → Int64} (hc : c ≤ 600000) (hz : z ≤ 7200000)
    (h : pm_Ev d 117 [.ref 85] (pm_hp L fz t I J) (K_L_law_587 d fz t Q c z x4 x5 r)) :
    t_L_law_581 d L fz t Q c z x4 x5 r I J := by
  exact pm_go d pm_lcs 400 (pm_bt (pm_lg hc hz rfl (Nat.le_of_ble_eq_true rfl) (Nat.le_of_ble_eq_true rfl) rfl) h)
theorem kb_L_law_581 {d L : Nat} {fz t : Bool} {Q : pm_R → pm_H → Prop} {c z : Nat} {x4 : Int32} {x5 : Int32} {r : Int32} {fz1 : Bool} {I : Nat → Nat → Int32} {J : Nat → Nat → Int64} (hc : c ≤ 600000) (hz : z ≤ 7200000)
    (h : pm_Ev d 117 [.ref 85] (pm_hp L fz t I J) (K_L_law_587 d fz t Q c z x4 x5 r)) :
    K_L_law_581 d fz t Q c z x4 x5 (.inl (some (.int r))) (pm_hp L fz1 t I J) := b_L_law_581 hc hz h
set_option maxRecDepth 100000 in
theorem b_L_law_649 {d L : Nat} {fz t : Bool} {Q : pm_R → pm_H → Prop} {c z : Nat} {x4 : Int32} {x5 : Int32} {r : Int32} {I : Nat → Nat → Int32} {J : Nat → Nat → Int64} (hc : c ≤ 600000) (hz : z ≤ 7200000)
    (h : pm_Ev d 117 [.ref 85] (pm_hp L fz t I J) (K_L_law_655 d fz t Q c z x4 x5 r)) :
    t_L_law_649 d L fz t Q c z x4 x5 r I J := by
  exact pm_go d pm_lcs 400 (pm_bt (pm_lg hc hz rfl (Nat.le_of_ble_eq_true rfl) (Nat.le_of_ble_eq_true rfl) rfl) h)
theorem kb_L_law_649 {d L : Nat} {fz t : Bool} {Q : pm_R → pm_H → Prop} {c z : Nat} {x4 : Int32} {x5 : Int32} {r : Int32} {fz1 : Bool} {I : Nat → Nat → Int32} {J : Nat → Nat → Int64} (hc : c ≤ 600000) (hz : z ≤ 7200000)
    (h : pm_Ev d 117 [.ref 85] (pm_hp L fz t I J) (K_L_law_655 d fz t Q c z x4 x5 r)) :
    K_L_law_649 d fz t Q c z x4 x5 (.inl (some (.int r))) (pm_hp L fz1 t I J) := b_L_law_649 hc hz h
set_option maxRecDepth 100000 in
theorem b_L_law_702 {d L : Nat} {fz t : Bool} {Q : pm_R → pm_H → Prop} {c z : Nat} {x4 : Int32} {s0 : Int32} {r : Int32} {I : Nat → Nat → Int32} {J : Nat → Nat → Int64} (hc : c ≤ 600000) (hz : z ≤ 7200000)
    (h : ((s0 = r → t_L_law_2513 d L fz t Q c z x4 I J) ∧ (¬ s0 = r → Q (.inl (some (.int (nI 0)))) (pm_hp L fz t I J)))) :
    t_L_law_702 d L fz t Q c z x4 s0 r I J := by
  exact pm_go d pm_lcs 400 ⟨fun q0 => ((h).1 q0), fun q0 => ⟨Or.inl rfl, (pm_bt (pm_lr hc hz) ((h).2 q0))⟩⟩
theorem kb_L_law_702 {d L : Nat} {fz t : Bool} {Q : pm_R → pm_H → Prop} {c z : Nat} {x4 : Int32} {s0 : Int32} {r : Int32} {fz1 : Bool} {I : Nat → Nat → Int32} {J : Nat → Nat → Int64} (hc : c ≤ 600000) (hz : z ≤ 7200000)
    (h : ((s0 = r → t_L_law_2513 d L fz t Q c z x4 I J) ∧ (¬ s0 = r → Q (.inl (some (.int (nI 0)))) (pm_hp L fz t I J)))) :
    K_L_law_702 d fz t Q c z x4 s0 (.inl (some (.int r))) (pm_hp L fz1 t I J) := b_L_law_702 hc hz h
set_option maxRecDepth 100000 in
theorem b_L_law_742 {d L : Nat} {fz t : Bool} {Q : pm_R → pm_H → Prop} {c z : Nat} {x4 : Int32} {x5 : Int32} {r : Int32} {I : Nat → Nat → Int32} {J : Nat → Nat → Int64} (hc : c ≤ 600000) (hz : z ≤ 7200000)
    (h : pm_Ev d 117 [.ref 85] (pm_hp L fz t I J) (K_L_law_748 d fz t Q c z x4 x5 r)) :
    t_L_law_742 d L fz t Q c z x4 x5 r I J := by
  exact pm_go d pm_lcs 400 (pm_bt (pm_lg hc hz rfl (Nat.le_of_ble_eq_true rfl) (Nat.le_of_ble_eq_true rfl) rfl) h)
theorem kb_L_law_742 {d L : Nat} {fz t : Bool} {Q : pm_R → pm_H → Prop} {c z : Nat} {x4 : Int32} {x5 : Int32} {r : Int32} {fz1 : Bool} {I : Nat → Nat → Int32} {J : Nat → Nat → Int64} (hc : c ≤ 600000) (hz : z ≤ 7200000)
    (h : pm_Ev d 117 [.ref 85] (pm_hp L fz t I J) (K_L_law_748 d fz t Q c z x4 x5 r)) :
    K_L_law_742 d fz t Q c z x4 x5 (.inl (some (.int r))) (pm_hp L fz1 t I J) := b_L_law_742 hc hz h
set_option maxRecDepth 100000 in
theorem b_L_law_798 {d L : Nat} {fz t : Bool} {Q : pm_R → pm_H → Prop} {c z : Nat} {x4 : Int32} {x5 : Int32} {r : Int32} {I : Nat → Nat → Int32} {J : Nat → Nat → Int64} (hc : c ≤ 600000) (hz : z ≤ 7200000)
    (h : pm_Ev d 117 [.ref 85] (pm_hp L fz t I J) (K_L_law_804 d fz t Q c z x4 x5 r)) :
    t_L_law_798 d L fz t Q c z x4 x5 r I J := by
  exact pm_go d pm_lcs 400 (pm_bt (pm_lg hc hz rfl (Nat.le_of_ble_eq_true rfl) (Nat.le_of_ble_eq_true rfl) rfl) h)
theorem kb_L_law_798 {d L : Nat} {fz t : Bool} {Q : pm_R → pm_H → Prop} {c z : Nat} {x4 : Int32} {x5 : Int32} {r : Int32} {fz1 : Bool} {I : Nat → Nat → Int32} {J : Nat → Nat → Int64} (hc : c ≤ 600000) (hz : z ≤ 7200000)
    (h : pm_Ev d 117 [.ref 85] (pm_hp L fz t I J) (K_L_law_804 d fz t Q c z x4 x5 r)) :
    K_L_law_798 d fz t Q c z x4 x5 (.inl (some (.int r))) (pm_hp L fz1 t I J) := b_L_law_798 hc hz h
set_option maxRecDepth 100000 in
theorem b_L_law_854 {d L : Nat} {fz t : Bool} {Q : pm_R → pm_H → Prop} {c z : Nat} {x4 : Int32} {x5 : Int32} {r : Int32} {I : Nat → Nat → Int32} {J : Nat → Nat → Int64} (hc : c ≤ 600000) (hz : z ≤ 7200000)
    (h : pm_Ev d 117 [.ref 85] (pm_hp L fz t I J) (K_L_law_860 d fz t Q c z x4 x5 r)) :
    t_L_law_854 d L fz t Q c z x4 x5 r I J := by
  exact pm_go d pm_lcs 400 (pm_bt (pm_lg hc hz rfl (Nat.le_of_ble_eq_true rfl) (Nat.le_of_ble_eq_true rfl) rfl) h)
theorem kb_L_law_854 {d L : Nat} {fz t : Bool} {Q : pm_R → pm_H → Prop} {c z : Nat} {x4 : Int32} {x5 : Int32} {r : Int32} {fz1 : Bool} {I : Nat → Nat → Int32} {J : Nat → Nat → Int64} (hc : c ≤ 600000) (hz : z ≤ 7200000)
    (h : pm_Ev d 117 [.ref 85] (pm_hp L fz t I J) (K_L_law_860 d fz t Q c z x4 x5 r)) :
    K_L_law_854 d fz t Q c z x4 x5 (.inl (some (.int r))) (pm_hp L fz1 t I J) := b_L_law_854 hc hz h
set_option maxRecDepth 100000 in
theorem b_L_law_919 {d L : Nat} {fz t : Bool} {Q : pm_R → pm_H → Prop} {c z : Nat} {x4 : Int32} {s0 : Int32} {r : Int32} {I : Nat → Nat → Int32} {J : Nat → Nat → Int64} (hc : c ≤ 600000) (hz : z ≤ 7200000)
    (h : ((s0 = r → t_L_law_2513 d L fz t Q c z x4 I J) ∧ (¬ s0 = r → Q (.inl (some (.int (nI 0)))) (pm_hp L fz t I J)))) :
    t_L_law_919 d L fz t Q c z x4 s0 r I J := by
  exact pm_go d pm_lcs 400 ⟨fun q0 => ((h).1 q0), fun q0 => ⟨Or.inl rfl, (pm_bt (pm_lr hc hz) ((h).2 q0))⟩⟩
theorem kb_L_law_919 {d L : Nat} {fz t : Bool} {Q : pm_R → pm_H → Prop} {c z : Nat} {x4 : Int32} {s0 : Int32} {r : Int32} {fz1 : Bool} {I : Nat → Nat → Int32} {J : Nat → Nat → Int64} (hc : c ≤ 600000) (hz : z ≤ 7200000)
    (h : ((s0 = r → t_L_law_2513 d L fz t Q c z x4 I J) ∧ (¬ s0 = r → Q (.inl (some (.int (nI 0)))) (pm_hp L fz t I J)))) :
    K_L_law_919 d fz t Q c z x4 s0 (.inl (some (.int r))) (pm_hp L fz1 t I J) := b_L_law_919 hc hz h
set_option maxRecDepth 100000 in
theorem b_L_law_932 {d L : Nat} {fz t : Bool} {Q : pm_R → pm_H → Prop} {c z : Nat} {x4 : Int32} {s0 : Int32} {r : Int32} {I : Nat → Nat → Int32} {J : Nat → Nat → Int64} (hc : c ≤ 600000) (hz : z ≤ 7200000)
    (h : ((s0 = r → t_L_law_2513 d L fz t Q c z x4 I J) ∧ (¬ s0 = r → Q (.inl (some (.int (nI 0)))) (pm_hp L fz t I J)))) :
    t_L_law_932 d L fz t Q c z x4 s0 r I J := by
  exact pm_go d pm_lcs 400 ⟨fun q0 => ((h).1 q0), fun q0 => ⟨Or.inl rfl, (pm_bt (pm_lr hc hz) ((h).2 q0))⟩⟩
theorem kb_L_law_932 {d L : Nat} {fz t : Bool} {Q : pm_R → pm_H → Prop} {c z : Nat} {x4 : Int32} {s0 : Int32} {r : Int32} {fz1 : Bool} {I : Nat → Nat → Int32} {J : Nat → Nat → Int64} (hc : c ≤ 600000) (hz : z ≤ 7200000)
    (h : ((s0 = r → t_L_law_2513 d L fz t Q c z x4 I J) ∧ (¬ s0 = r → Q (.inl (some (.int (nI 0)))) (pm_hp L fz t I J)))) :
    K_L_law_932 d fz t Q c z x4 s0 (.inl (some (.int r))) (pm_hp L fz1 t I J) := b_L_law_932 hc hz h
set_option maxRecDepth 100000 in
theorem b_L_law_972 {d L : Nat} {fz t : Bool} {Q : pm_R → pm_H → Prop} {c z : Nat} {x4 : Int32} {x5 : Int32} {r : Int32} {I : Nat → Nat → Int32} {J : Nat → Nat → Int64} (hc : c ≤ 600000) (hz : z ≤ 7200000)
    (h : pm_Ev d 117 [.ref 85] (pm_hp L fz t I J) (K_L_law_978 d fz t Q c z x4 x5 r)) :
    t_L_law_972 d L fz t Q c z x4 x5 r I J := by
  exact pm_go d pm_lcs 400 (pm_bt (pm_lg hc hz rfl (Nat.le_of_ble_eq_true rfl) (Nat.le_of_ble_eq_true rfl) rfl) h)
theorem kb_L_law_972 {d L : Nat} {fz t : Bool} {Q : pm_R → pm_H → Prop} {c z : Nat} {x4 : Int32} {x5 : Int32} {r : Int32} {fz1 : Bool} {I : Nat → Nat → Int32} {J : Nat → Nat → Int64} (hc : c ≤ 600000) (hz : z ≤ 7200000)
    (h : pm_Ev d 117 [.ref 85] (pm_hp L fz t I J) (K_L_law_978 d fz t Q c z x4 x5 r)) :
    K_L_law_972 d fz t Q c z x4 x5 (.inl (some (.int r))) (pm_hp L fz1 t I J) := b_L_law_972 hc hz h
set_option maxRecDepth 100000 in
theorem b_L_law_1028 {d L : Nat} {fz t : Bool} {Q : pm_R → pm_H → Prop} {c z : Nat} {x4 : Int32} {x5 : Int32} {r : Int32} {I : Nat → Nat → Int32} {J : Nat → Nat → Int64} (hc : c ≤ 600000) (hz : z ≤ 7200000)
    (h : pm_Ev d 117 [.ref 85] (pm_hp L fz t I J) (K_L_law_1034 d fz t Q c z x4 x5 r)) :
    t_L_law_1028 d L fz t Q c z x4 x5 r I J := by
  exact pm_go d pm_lcs 400 (pm_bt (pm_lg hc hz rfl (Nat.le_of_ble_eq_true rfl) (Nat.le_of_ble_eq_true rfl) rfl) h)
theorem kb_L_law_1028 {d L : Nat} {fz t : Bool} {Q : pm_R → pm_H → Prop} {c z : Nat} {x4 : Int32} {x5 : Int32} {r : Int32} {fz1 : Bool} {I : Nat → Nat → Int32} {J : Nat → Nat → Int64} (hc : c ≤ 600000) (hz : z ≤ 7200000)
    (h : pm_Ev d 117 [.ref 85] (pm_hp L fz t I J) (K_L_law_1034 d fz t Q c z x4 x5 r)) :
    K_L_law_1028 d fz t Q c z x4 x5 (.inl (some (.int r))) (pm_hp L fz1 t I J) := b_L_law_1028 hc hz h
set_option maxRecDepth 100000 in
theorem b_L_law_1084 {d L : Nat} {fz t : Bool} {Q : pm_R → pm_H → Prop} {c z : Nat} {x4 : Int32} {x5 : Int32} {r : Int32} {I : Nat → Nat → Int32} {J : Nat → Nat → Int64} (hc : c ≤ 600000) (hz : z ≤ 7200000)
    (h : pm_Ev d 117 [.ref 85] (pm_hp L fz t I J) (K_L_law_1090 d fz t Q c z x4 x5 r)) :
    t_L_law_1084 d L fz t Q c z x4 x5 r I J := by
  exact pm_go d pm_lcs 400 (pm_bt (pm_lg hc hz rfl (Nat.le_of_ble_eq_true rfl) (Nat.le_of_ble_eq_true rfl) rfl) h)
theorem kb_L_law_1084 {d L : Nat} {fz t : Bool} {Q : pm_R → pm_H → Prop} {c z : Nat} {x4 : Int32} {x5 : Int32} {r : Int32} {fz1 : Bool} {I : Nat → Nat → Int32} {J : Nat → Nat → Int64} (hc : c ≤ 600000) (hz : z ≤ 7200000)
    (h : pm_Ev d 117 [.ref 85] (pm_hp L fz t I J) (K_L_law_1090 d fz t Q c z x4 x5 r)) :
    K_L_law_1084 d fz t Q c z x4 x5 (.inl (some (.int r))) (pm_hp L fz1 t I J) := b_L_law_1084 hc hz h
set_option maxRecDepth 100000 in
theorem b_L_law_1125 {d L : Nat} {fz t : Bool} {Q : pm_R → pm_H → Prop} {c z : Nat} {x4 : Int32} {s0 : Int32} {r : Int32} {I : Nat → Nat → Int32} {J : Nat → Nat → Int64} (hc : c ≤ 600000) (hz : z ≤ 7200000)
    (h : ((s0 = r → t_L_law_2513 d L fz t Q c z x4 I J) ∧ (¬ s0 = r → Q (.inl (some (.int (nI 0)))) (pm_hp L fz t I J)))) :
    t_L_law_1125 d L fz t Q c z x4 s0 r I J := by
  exact pm_go d pm_lcs 400 ⟨fun q0 => ((h).1 q0), fun q0 => ⟨Or.inl rfl, (pm_bt (pm_lr hc hz) ((h).2 q0))⟩⟩
theorem kb_L_law_1125 {d L : Nat} {fz t : Bool} {Q : pm_R → pm_H → Prop} {c z : Nat} {x4 : Int32} {s0 : Int32} {r : Int32} {fz1 : Bool} {I : Nat → Nat → Int32} {J : Nat → Nat → Int64} (hc : c ≤ 600000) (hz : z ≤ 7200000)
    (h : ((s0 = r → t_L_law_2513 d L fz t Q c z x4 I J) ∧ (¬ s0 = r → Q (.inl (some (.int (nI 0)))) (pm_hp L fz t I J)))) :
    K_L_law_1125 d fz t Q c z x4 s0 (.inl (some (.int r))) (pm_hp L fz1 t I J) := b_L_law_1125 hc hz h
set_option maxRecDepth 100000 in
theorem b_L_law_1153 {d L : Nat} {fz t : Bool} {Q : pm_R → pm_H → Prop} {c z : Nat} {x4 : Int32} {x5 : Int32} {r : Int32} {I : Nat → Nat → Int32} {J : Nat → Nat → Int64} (hc : c ≤ 600000) (hz : z ≤ 7200000)
    (h : pm_Ev d 117 [.ref 85] (pm_hp L fz t I J) (K_L_law_1159 d fz t Q c z x4 x5 r)) :
    t_L_law_1153 d L fz t Q c z x4 x5 r I J := by
  exact pm_go d pm_lcs 400 (pm_bt (pm_lg hc hz rfl (Nat.le_of_ble_eq_true rfl) (Nat.le_of_ble_eq_true rfl) rfl) h)
theorem kb_L_law_1153 {d L : Nat} {fz t : Bool} {Q : pm_R → pm_H → Prop} {c z : Nat} {x4 : Int32} {x5 : Int32} {r : Int32} {fz1 : Bool} {I : Nat → Nat → Int32} {J : Nat → Nat → Int64} (hc : c ≤ 600000) (hz : z ≤ 7200000)
    (h : pm_Ev d 117 [.ref 85] (pm_hp L fz t I J) (K_L_law_1159 d fz t Q c z x4 x5 r)) :
    K_L_law_1153 d fz t Q c z x4 x5 (.inl (some (.int r))) (pm_hp L fz1 t I J) := b_L_law_1153 hc hz h
set_option maxRecDepth 100000 in
theorem b_L_law_1221 {d L : Nat} {fz t : Bool} {Q : pm_R → pm_H → Prop} {c z : Nat} {x4 : Int32} {x5 : Int32} {r : Int32} {I : Nat → Nat → Int32} {J : Nat → Nat → Int64} (hc : c ≤ 600000) (hz : z ≤ 7200000)
    (h : pm_Ev d 117 [.ref 85] (pm_hp L fz t I J) (K_L_law_1227 d fz t Q c z x4 x5 r)) :
    t_L_law_1221 d L fz t Q c z x4 x5 r I J := by
  exact pm_go d pm_lcs 400 (pm_bt (pm_lg hc hz rfl (Nat.le_of_ble_eq_true rfl) (Nat.le_of_ble_eq_true rfl) rfl) h)
theorem kb_L_law_1221 {d L : Nat} {fz t : Bool} {Q : pm_R → pm_H → Prop} {c z : Nat} {x4 : Int32} {x5 : Int32} {r : Int32} {fz1 : Bool} {I : Nat → Nat → Int32} {J : Nat → Nat → Int64} (hc : c ≤ 600000) (hz : z ≤ 7200000)
    (h : pm_Ev d 117 [.ref 85] (pm_hp L fz t I J) (K_L_law_1227 d fz t Q c z x4 x5 r)) :
    K_L_law_1221 d fz t Q c z x4 x5 (.inl (some (.int r))) (pm_hp L fz1 t I J) := b_L_law_1221 hc hz h
set_option maxRecDepth 100000 in
theorem b_L_law_1277 {d L : Nat} {fz t : Bool} {Q : pm_R → pm_H → Prop} {c z : Nat} {x4 : Int32} {x5 : Int32} {r : Int32} {I : Nat → Nat → Int32} {J : Nat → Nat → Int64} (hc : c ≤ 600000) (hz : z ≤ 7200000)
    (h : pm_Ev d 117 [.ref 85] (pm_hp L fz t I J) (K_L_law_1283 d fz t Q c z x4 x5 r)) :
    t_L_law_1277 d L fz t Q c z x4 x5 r I J := by
  exact pm_go d pm_lcs 400 (pm_bt (pm_lg hc hz rfl (Nat.le_of_ble_eq_true rfl) (Nat.le_of_ble_eq_true rfl) rfl) h)
theorem kb_L_law_1277 {d L : Nat} {fz t : Bool} {Q : pm_R → pm_H → Prop} {c z : Nat} {x4 : Int32} {x5 : Int32} {r : Int32} {fz1 : Bool} {I : Nat → Nat → Int32} {J : Nat → Nat → Int64} (hc : c ≤ 600000) (hz : z ≤ 7200000)
    (h : pm_Ev d 117 [.ref 85] (pm_hp L fz t I J) (K_L_law_1283 d fz t Q c z x4 x5 r)) :
    K_L_law_1277 d fz t Q c z x4 x5 (.inl (some (.int r))) (pm_hp L fz1 t I J) := b_L_law_1277 hc hz h
set_option maxRecDepth 100000 in
theorem b_L_law_1357 {d L : Nat} {fz t : Bool} {Q : pm_R → pm_H → Prop} {c z : Nat} {x4 : Int32} {x5 : Int32} {r : Int32} {I : Nat → Nat → Int32} {J : Nat → Nat → Int64} (hc : c ≤ 600000) (hz : z ≤ 7200000)
    (h : pm_Ev d 117 [.ref 85] (pm_hp L fz t I J) (K_L_law_1363 d fz t Q c z x4 x5 r)) :
    t_L_law_1357 d L fz t Q c z x4 x5 r I J := by
  exact pm_go d pm_lcs 400 (pm_bt (pm_lg hc hz rfl (Nat.le_of_ble_eq_true rfl) (Nat.le_of_ble_eq_true rfl) rfl) h)
theorem kb_L_law_1357 {d L : Nat} {fz t : Bool} {Q : pm_R → pm_H → Prop} {c z : Nat} {x4 : Int32} {x5 : Int32} {r : Int32} {fz1 : Bool} {I : Nat → Nat → Int32} {J : Nat → Nat → Int64} (hc : c ≤ 600000) (hz : z ≤ 7200000)
    (h : pm_Ev d 117 [.ref 85] (pm_hp L fz t I J) (K_L_law_1363 d fz t Q c z x4 x5 r)) :
    K_L_law_1357 d fz t Q c z x4 x5 (.inl (some (.int r))) (pm_hp L fz1 t I J) := b_L_law_1357 hc hz h
set_option maxRecDepth 100000 in
theorem b_L_law_1413 {d L : Nat} {fz t : Bool} {Q : pm_R → pm_H → Prop} {c z : Nat} {x4 : Int32} {x5 : Int32} {r : Int32} {I : Nat → Nat → Int32} {J : Nat → Nat → Int64} (hc : c ≤ 600000) (hz : z ≤ 7200000)
    (h : pm_Ev d 117 [.ref 85] (pm_hp L fz t I J) (K_L_law_1419 d fz t Q c z x4 x5 r)) :
    t_L_law_1413 d L fz t Q c z x4 x5 r I J := by
  exact pm_go d pm_lcs 400 (pm_bt (pm_lg hc hz rfl (Nat.le_of_ble_eq_true rfl) (Nat.le_of_ble_eq_true rfl) rfl) h)
theorem kb_L_law_1413 {d L : Nat} {fz t : Bool} {Q : pm_R → pm_H → Prop} {c z : Nat} {x4 : Int32} {x5 : Int32} {r : Int32} {fz1 : Bool} {I : Nat → Nat → Int32} {J : Nat → Nat → Int64} (hc : c ≤ 600000) (hz : z ≤ 7200000)
    (h : pm_Ev d 117 [.ref 85] (pm_hp L fz t I J) (K_L_law_1419 d fz t Q c z x4 x5 r)) :
    K_L_law_1413 d fz t Q c z x4 x5 (.inl (some (.int r))) (pm_hp L fz1 t I J) := b_L_law_1413 hc hz h
set_option maxRecDepth 100000 in
theorem b_L_law_1521 {d L : Nat} {fz t : Bool} {Q : pm_R → pm_H → Prop} {c z : Nat} {x4 : Int32} {x5 : Int32} {r : Int32} {I : Nat → Nat → Int32} {J : Nat → Nat → Int64} (hc : c ≤ 600000) (hz : z ≤ 7200000)
    (h : pm_Ev d 117 [.ref 85] (pm_hp L fz t I J) (K_L_law_1527 d fz t Q c z x4 x5 r)) :
    t_L_law_1521 d L fz t Q c z x4 x5 r I J := by
  exact pm_go d pm_lcs 400 (pm_bt (pm_lg hc hz rfl (Nat.le_of_ble_eq_true rfl) (Nat.le_of_ble_eq_true rfl) rfl) h)
theorem kb_L_law_1521 {d L : Nat} {fz t : Bool} {Q : pm_R → pm_H → Prop} {c z : Nat} {x4 : Int32} {x5 : Int32} {r : Int32} {fz1 : Bool} {I : Nat → Nat → Int32} {J : Nat → Nat → Int64} (hc : c ≤ 600000) (hz : z ≤ 7200000)
    (h : pm_Ev d 117 [.ref 85] (pm_hp L fz t I J) (K_L_law_1527 d fz t Q c z x4 x5 r)) :
    K_L_law_1521 d fz t Q c z x4 x5 (.inl (some (.int r))) (pm_hp L fz1 t I J) := b_L_law_1521 hc hz h
set_option maxRecDepth 100000 in
theorem b_L_law_1562 {d L : Nat} {fz t : Bool} {Q : pm_R → pm_H → Prop} {c z : Nat} {x4 : Int32} {I : Nat → Nat → Int32} {J : Nat → Nat → Int64} (hc : c ≤ 600000) (hz : z ≤ 7200000)
    (h : t_L_law_2513 d L fz t Q c z x4 I J) :
    t_L_law_1562 d L fz t Q c z x4 I J := by
  exact pm_go d pm_lcs 400 h
theorem kb_L_law_1562 {d L : Nat} {fz t : Bool} {Q : pm_R → pm_H → Prop} {c z : Nat} {x4 : Int32} {fz1 : Bool} {I : Nat → Nat → Int32} {J : Nat → Nat → Int64} (hc : c ≤ 600000) (hz : z ≤ 7200000)
    (h : t_L_law_2513 d L fz t Q c z x4 I J) :
    K_L_law_1562 d fz t Q c z x4 (.inl none) (pm_hp L fz1 t I J) := b_L_law_1562 hc hz h
set_option maxRecDepth 100000 in
theorem b_L_law_1588 {d L : Nat} {fz t : Bool} {Q : pm_R → pm_H → Prop} {c z : Nat} {x4 : Int32} {x5 : Int32} {r : Int32} {I : Nat → Nat → Int32} {J : Nat → Nat → Int64} (hc : c ≤ 600000) (hz : z ≤ 7200000)
    (h : pm_Ev d 117 [.ref 85] (pm_hp L fz t I J) (K_L_law_1594 d fz t Q c z x4 x5 r)) :
    t_L_law_1588 d L fz t Q c z x4 x5 r I J := by
  exact pm_go d pm_lcs 400 (pm_bt (pm_lg hc hz rfl (Nat.le_of_ble_eq_true rfl) (Nat.le_of_ble_eq_true rfl) rfl) h)
theorem kb_L_law_1588 {d L : Nat} {fz t : Bool} {Q : pm_R → pm_H → Prop} {c z : Nat} {x4 : Int32} {x5 : Int32} {r : Int32} {fz1 : Bool} {I : Nat → Nat → Int32} {J : Nat → Nat → Int64} (hc : c ≤ 600000) (hz : z ≤ 7200000)
    (h : pm_Ev d 117 [.ref 85] (pm_hp L fz t I J) (K_L_law_1594 d fz t Q c z x4 x5 r)) :
    K_L_law_1588 d fz t Q c z x4 x5 (.inl (some (.int r))) (pm_hp L fz1 t I J) := b_L_law_1588 hc hz h
set_option maxRecDepth 100000 in
theorem b_L_law_1656 {d L : Nat} {fz t : Bool} {Q : pm_R → pm_H → Prop} {c z : Nat} {x4 : Int32} {x5 : Int32} {r : Int32} {I : Nat → Nat → Int32} {J : Nat → Nat → Int64} (hc : c ≤ 600000) (hz : z ≤ 7200000)
    (h : pm_Ev d 117 [.ref 85] (pm_hp L fz t I J) (K_L_law_1662 d fz t Q c z x4 x5 r)) :
    t_L_law_1656 d L fz t Q c z x4 x5 r I J := by
  exact pm_go d pm_lcs 400 (pm_bt (pm_lg hc hz rfl (Nat.le_of_ble_eq_true rfl) (Nat.le_of_ble_eq_true rfl) rfl) h)
theorem kb_L_law_1656 {d L : Nat} {fz t : Bool} {Q : pm_R → pm_H → Prop} {c z : Nat} {x4 : Int32} {x5 : Int32} {r : Int32} {fz1 : Bool} {I : Nat → Nat → Int32} {J : Nat → Nat → Int64} (hc : c ≤ 600000) (hz : z ≤ 7200000)
    (h : pm_Ev d 117 [.ref 85] (pm_hp L fz t I J) (K_L_law_1662 d fz t Q c z x4 x5 r)) :
    K_L_law_1656 d fz t Q c z x4 x5 (.inl (some (.int r))) (pm_hp L fz1 t I J) := b_L_law_1656 hc hz h
set_option maxRecDepth 100000 in
theorem b_L_law_1712 {d L : Nat} {fz t : Bool} {Q : pm_R → pm_H → Prop} {c z : Nat} {x4 : Int32} {x5 : Int32} {r : Int32} {I : Nat → Nat → Int32} {J : Nat → Nat → Int64} (hc : c ≤ 600000) (hz : z ≤ 7200000)
    (h : pm_Ev d 117 [.ref 85] (pm_hp L fz t I J) (K_L_law_1718 d fz t Q c z x4 x5 r)) :
    t_L_law_1712 d L fz t Q c z x4 x5 r I J := by
  exact pm_go d pm_lcs 400 (pm_bt (pm_lg hc hz rfl (Nat.le_of_ble_eq_true rfl) (Nat.le_of_ble_eq_true rfl) rfl) h)
theorem kb_L_law_1712 {d L : Nat} {fz t : Bool} {Q : pm_R → pm_H → Prop} {c z : Nat} {x4 : Int32} {x5 : Int32} {r : Int32} {fz1 : Bool} {I : Nat → Nat → Int32} {J : Nat → Nat → Int64} (hc : c ≤ 600000) (hz : z ≤ 7200000)
    (h : pm_Ev d 117 [.ref 85] (pm_hp L fz t I J) (K_L_law_1718 d fz t Q c z x4 x5 r)) :
    K_L_law_1712 d fz t Q c z x4 x5 (.inl (some (.int r))) (pm_hp L fz1 t I J) := b_L_law_1712 hc hz h
set_option maxRecDepth 100000 in
theorem b_L_law_1804 {d L : Nat} {fz t : Bool} {Q : pm_R → pm_H → Prop} {c z : Nat} {x4 : Int32} {x5 : Int32} {r : Int32} {I : Nat → Nat → Int32} {J : Nat → Nat → Int64} (hc : c ≤ 600000) (hz : z ≤ 7200000)
    (h : pm_Ev d 117 [.ref 85] (pm_hp L fz t I J) (K_L_law_1810 d fz t Q c z x4 x5 r)) :
    t_L_law_1804 d L fz t Q c z x4 x5 r I J := by
  exact pm_go d pm_lcs 400 (pm_bt (pm_lg hc hz rfl (Nat.le_of_ble_eq_true rfl) (Nat.le_of_ble_eq_true rfl) rfl) h)
theorem kb_L_law_1804 {d L : Nat} {fz t : Bool} {Q : pm_R → pm_H → Prop} {c z : Nat} {x4 : Int32} {x5 : Int32} {r : Int32} {fz1 : Bool} {I : Nat → Nat → Int32} {J : Nat → Nat → Int64} (hc : c ≤ 600000) (hz : z ≤ 7200000)
    (h : pm_Ev d 117 [.ref 85] (pm_hp L fz t I J) (K_L_law_1810 d fz t Q c z x4 x5 r)) :
    K_L_law_1804 d fz t Q c z x4 x5 (.inl (some (.int r))) (pm_hp L fz1 t I J) := b_L_law_1804 hc hz h
set_option maxRecDepth 100000 in
theorem b_L_law_1860 {d L : Nat} {fz t : Bool} {Q : pm_R → pm_H → Prop} {c z : Nat} {x4 : Int32} {x5 : Int32} {r : Int32} {I : Nat → Nat → Int32} {J : Nat → Nat → Int64} (hc : c ≤ 600000) (hz : z ≤ 7200000)
    (h : pm_Ev d 117 [.ref 85] (pm_hp L fz t I J) (K_L_law_1866 d fz t Q c z x4 x5 r)) :
    t_L_law_1860 d L fz t Q c z x4 x5 r I J := by
  exact pm_go d pm_lcs 400 (pm_bt (pm_lg hc hz rfl (Nat.le_of_ble_eq_true rfl) (Nat.le_of_ble_eq_true rfl) rfl) h)
theorem kb_L_law_1860 {d L : Nat} {fz t : Bool} {Q : pm_R → pm_H → Prop} {c z : Nat} {x4 : Int32} {x5 : Int32} {r : Int32} {fz1 : Bool} {I : Nat → Nat → Int32} {J : Nat → Nat → Int64} (hc : c ≤ 600000) (hz : z ≤ 7200000)
    (h : pm_Ev d 117 [.ref 85] (pm_hp L fz t I J) (K_L_law_1866 d fz t Q c z x4 x5 r)) :
    K_L_law_1860 d fz t Q c z x4 x5 (.inl (some (.int r))) (pm_hp L fz1 t I J) := b_L_law_1860 hc hz h
set_option maxRecDepth 100000 in
theorem b_L_law_1940 {d L : Nat} {fz t : Bool} {Q : pm_R → pm_H → Prop} {c z : Nat} {x4 : Int32} {x5 : Int32} {r : Int32} {I : Nat → Nat → Int32} {J : Nat → Nat → Int64} (hc : c ≤ 600000) (hz : z ≤ 7200000)
    (h : pm_Ev d 117 [.ref 85] (pm_hp L fz t I J) (K_L_law_1946 d fz t Q c z x4 x5 r)) :
    t_L_law_1940 d L fz t Q c z x4 x5 r I J := by
  exact pm_go d pm_lcs 400 (pm_bt (pm_lg hc hz rfl (Nat.le_of_ble_eq_true rfl) (Nat.le_of_ble_eq_true rfl) rfl) h)
theorem kb_L_law_1940 {d L : Nat} {fz t : Bool} {Q : pm_R → pm_H → Prop} {c z : Nat} {x4 : Int32} {x5 : Int32} {r : Int32} {fz1 : Bool} {I : Nat → Nat → Int32} {J : Nat → Nat → Int64} (hc : c ≤ 600000) (hz : z ≤ 7200000)
    (h : pm_Ev d 117 [.ref 85] (pm_hp L fz t I J) (K_L_law_1946 d fz t Q c z x4 x5 r)) :
    K_L_law_1940 d fz t Q c z x4 x5 (.inl (some (.int r))) (pm_hp L fz1 t I J) := b_L_law_1940 hc hz h
set_option maxRecDepth 100000 in
theorem b_L_law_2020 {d L : Nat} {fz t : Bool} {Q : pm_R → pm_H → Prop} {c z : Nat} {x4 : Int32} {x5 : Int32} {r : Int32} {I : Nat → Nat → Int32} {J : Nat → Nat → Int64} (hc : c ≤ 600000) (hz : z ≤ 7200000)
    (h : pm_Ev d 117 [.ref 85] (pm_hp L fz t I J) (K_L_law_2026 d fz t Q c z x4 x5 r)) :
    t_L_law_2020 d L fz t Q c z x4 x5 r I J := by
  exact pm_go d pm_lcs 400 (pm_bt (pm_lg hc hz rfl (Nat.le_of_ble_eq_true rfl) (Nat.le_of_ble_eq_true rfl) rfl) h)
theorem kb_L_law_2020 {d L : Nat} {fz t : Bool} {Q : pm_R → pm_H → Prop} {c z : Nat} {x4 : Int32} {x5 : Int32} {r : Int32} {fz1 : Bool} {I : Nat → Nat → Int32} {J : Nat → Nat → Int64} (hc : c ≤ 600000) (hz : z ≤ 7200000)
    (h : pm_Ev d 117 [.ref 85] (pm_hp L fz t I J) (K_L_law_2026 d fz t Q c z x4 x5 r)) :
    K_L_law_2020 d fz t Q c z x4 x5 (.inl (some (.int r))) (pm_hp L fz1 t I J) := b_L_law_2020 hc hz h
set_option maxRecDepth 100000 in
theorem b_L_law_2088 {d L : Nat} {fz t : Bool} {Q : pm_R → pm_H → Prop} {c z : Nat} {x4 : Int32} {x5 : Int32} {r : Int32} {I : Nat → Nat → Int32} {J : Nat → Nat → Int64} (hc : c ≤ 600000) (hz : z ≤ 7200000)
    (h : pm_Ev d 117 [.ref 85] (pm_hp L fz t I J) (K_L_law_2094 d fz t Q c z x4 x5 r)) :
    t_L_law_2088 d L fz t Q c z x4 x5 r I J := by
  exact pm_go d pm_lcs 400 (pm_bt (pm_lg hc hz rfl (Nat.le_of_ble_eq_true rfl) (Nat.le_of_ble_eq_true rfl) rfl) h)
theorem kb_L_law_2088 {d L : Nat} {fz t : Bool} {Q : pm_R → pm_H → Prop} {c z : Nat} {x4 : Int32} {x5 : Int32} {r : Int32} {fz1 : Bool} {I : Nat → Nat → Int32} {J : Nat → Nat → Int64} (hc : c ≤ 600000) (hz : z ≤ 7200000)
    (h : pm_Ev d 117 [.ref 85] (pm_hp L fz t I J) (K_L_law_2094 d fz t Q c z x4 x5 r)) :
    K_L_law_2088 d fz t Q c z x4 x5 (.inl (some (.int r))) (pm_hp L fz1 t I J) := b_L_law_2088 hc hz h
set_option maxRecDepth 100000 in
theorem b_L_law_2156 {d L : Nat} {fz t : Bool} {Q : pm_R → pm_H → Prop} {c z : Nat} {x4 : Int32} {x5 : Int32} {r : Int32} {I : Nat → Nat → Int32} {J : Nat → Nat → Int64} (hc : c ≤ 600000) (hz : z ≤ 7200000)
    (h : pm_Ev d 117 [.ref 85] (pm_hp L fz t I J) (K_L_law_2162 d fz t Q c z x4 x5 r)) :
    t_L_law_2156 d L fz t Q c z x4 x5 r I J := by
  exact pm_go d pm_lcs 400 (pm_bt (pm_lg hc hz rfl (Nat.le_of_ble_eq_true rfl) (Nat.le_of_ble_eq_true rfl) rfl) h)
theorem kb_L_law_2156 {d L : Nat} {fz t : Bool} {Q : pm_R → pm_H → Prop} {c z : Nat} {x4 : Int32} {x5 : Int32} {r : Int32} {fz1 : Bool} {I : Nat → Nat → Int32} {J : Nat → Nat → Int64} (hc : c ≤ 600000) (hz : z ≤ 7200000)
    (h : pm_Ev d 117 [.ref 85] (pm_hp L fz t I J) (K_L_law_2162 d fz t Q c z x4 x5 r)) :
    K_L_law_2156 d fz t Q c z x4 x5 (.inl (some (.int r))) (pm_hp L fz1 t I J) := b_L_law_2156 hc hz h
set_option maxRecDepth 100000 in
theorem b_L_law_2212 {d L : Nat} {fz t : Bool} {Q : pm_R → pm_H → Prop} {c z : Nat} {x4 : Int32} {x5 : Int32} {r : Int32} {I : Nat → Nat → Int32} {J : Nat → Nat → Int64} (hc : c ≤ 600000) (hz : z ≤ 7200000)
    (h : pm_Ev d 117 [.ref 85] (pm_hp L fz t I J) (K_L_law_2218 d fz t Q c z x4 x5 r)) :
    t_L_law_2212 d L fz t Q c z x4 x5 r I J := by
  exact pm_go d pm_lcs 400 (pm_bt (pm_lg hc hz rfl (Nat.le_of_ble_eq_true rfl) (Nat.le_of_ble_eq_true rfl) rfl) h)
theorem kb_L_law_2212 {d L : Nat} {fz t : Bool} {Q : pm_R → pm_H → Prop} {c z : Nat} {x4 : Int32} {x5 : Int32} {r : Int32} {fz1 : Bool} {I : Nat → Nat → Int32} {J : Nat → Nat → Int64} (hc : c ≤ 600000) (hz : z ≤ 7200000)
    (h : pm_Ev d 117 [.ref 85] (pm_hp L fz t I J) (K_L_law_2218 d fz t Q c z x4 x5 r)) :
    K_L_law_2212 d fz t Q c z x4 x5 (.inl (some (.int r))) (pm_hp L fz1 t I J) := b_L_law_2212 hc hz h
set_option maxRecDepth 100000 in
theorem b_L_law_2268 {d L : Nat} {fz t : Bool} {Q : pm_R → pm_H → Prop} {c z : Nat} {x4 : Int32} {x5 : Int32} {r : Int32} {I : Nat → Nat → Int32} {J : Nat → Nat → Int64} (hc : c ≤ 600000) (hz : z ≤ 7200000)
    (h : pm_Ev d 117 [.ref 85] (pm_hp L fz t I J) (K_L_law_2274 d fz t Q c z x4 x5 r)) :
    t_L_law_2268 d L fz t Q c z x4 x5 r I J := by
  exact pm_go d pm_lcs 400 (pm_bt (pm_lg hc hz rfl (Nat.le_of_ble_eq_true rfl) (Nat.le_of_ble_eq_true rfl) rfl) h)
theorem kb_L_law_2268 {d L : Nat} {fz t : Bool} {Q : pm_R → pm_H → Prop} {c z : Nat} {x4 : Int32} {x5 : Int32} {r : Int32} {fz1 : Bool} {I : Nat → Nat → Int32} {J : Nat → Nat → Int64} (hc : c ≤ 600000) (hz : z ≤ 7200000)
    (h : pm_Ev d 117 [.ref 85] (pm_hp L fz t I J) (K_L_law_2274 d fz t Q c z x4 x5 r)) :
    K_L_law_2268 d fz t Q c z x4 x5 (.inl (some (.int r))) (pm_hp L fz1 t I J) := b_L_law_2268 hc hz h
set_option maxRecDepth 100000 in
theorem b_L_law_2324 {d L : Nat} {fz t : Bool} {Q : pm_R → pm_H → Prop} {c z : Nat} {x4 : Int32} {x5 : Int32} {r : Int32} {I : Nat → Nat → Int32} {J : Nat → Nat → Int64} (hc : c ≤ 600000) (hz : z ≤ 7200000)
    (h : pm_Ev d 117 [.ref 85] (pm_hp L fz t I J) (K_L_law_2330 d fz t Q c z x4 x5 r)) :
    t_L_law_2324 d L fz t Q c z x4 x5 r I J := by
  exact pm_go d pm_lcs 400 (pm_bt (pm_lg hc hz rfl (Nat.le_of_ble_eq_true rfl) (Nat.le_of_ble_eq_true rfl) rfl) h)
theorem kb_L_law_2324 {d L : Nat} {fz t : Bool} {Q : pm_R → pm_H → Prop} {c z : Nat} {x4 : Int32} {x5 : Int32} {r : Int32} {fz1 : Bool} {I : Nat → Nat → Int32} {J : Nat → Nat → Int64} (hc : c ≤ 600000) (hz : z ≤ 7200000)
    (h : pm_Ev d 117 [.ref 85] (pm_hp L fz t I J) (K_L_law_2330 d fz t Q c z x4 x5 r)) :
    K_L_law_2324 d fz t Q c z x4 x5 (.inl (some (.int r))) (pm_hp L fz1 t I J) := b_L_law_2324 hc hz h
set_option maxRecDepth 100000 in
theorem b_L_law_2380 {d L : Nat} {fz t : Bool} {Q : pm_R → pm_H → Prop} {c z : Nat} {x4 : Int32} {x5 : Int32} {r : Int32} {I : Nat → Nat → Int32} {J : Nat → Nat → Int64} (hc : c ≤ 600000) (hz : z ≤ 7200000)
    (h : pm_Ev d 117 [.ref 85] (pm_hp L fz t I J) (K_L_law_2386 d fz t Q c z x4 x5 r)) :
    t_L_law_2380 d L fz t Q c z x4 x5 r I J := by
  exact pm_go d pm_lcs 400 (pm_bt (pm_lg hc hz rfl (Nat.le_of_ble_eq_true rfl) (Nat.le_of_ble_eq_true rfl) rfl) h)
theorem kb_L_law_2380 {d L : Nat} {fz t : Bool} {Q : pm_R → pm_H → Prop} {c z : Nat} {x4 : Int32} {x5 : Int32} {r : Int32} {fz1 : Bool} {I : Nat → Nat → Int32} {J : Nat → Nat → Int64} (hc : c ≤ 600000) (hz : z ≤ 7200000)
    (h : pm_Ev d 117 [.ref 85] (pm_hp L fz t I J) (K_L_law_2386 d fz t Q c z x4 x5 r)) :
    K_L_law_2380 d fz t Q c z x4 x5 (.inl (some (.int r))) (pm_hp L fz1 t I J) := b_L_law_2380 hc hz h
set_option maxRecDepth 100000 in
theorem b_L_law_2436 {d L : Nat} {fz t : Bool} {Q : pm_R → pm_H → Prop} {c z : Nat} {x4 : Int32} {x5 : Int32} {r : Int32} {I : Nat → Nat → Int32} {J : Nat → Nat → Int64} (hc : c ≤ 600000) (hz : z ≤ 7200000)
    (h : pm_Ev d 117 [.ref 85] (pm_hp L fz t I J) (K_L_law_2442 d fz t Q c z x4 x5 r)) :
    t_L_law_2436 d L fz t Q c z x4 x5 r I J := by
  exact pm_go d pm_lcs 400 (pm_bt (pm_lg hc hz rfl (Nat.le_of_ble_eq_true rfl) (Nat.le_of_ble_eq_true rfl) rfl) h)
theorem kb_L_law_2436 {d L : Nat} {fz t : Bool} {Q : pm_R → pm_H → Prop} {c z : Nat} {x4 : Int32} {x5 : Int32} {r : Int32} {fz1 : Bool} {I : Nat → Nat → Int32} {J : Nat → Nat → Int64} (hc : c ≤ 600000) (hz : z ≤ 7200000)
    (h : pm_Ev d 117 [.ref 85] (pm_hp L fz t I J) (K_L_law_2442 d fz t Q c z x4 x5 r)) :
    K_L_law_2436 d fz t Q c z x4 x5 (.inl (some (.int r))) (pm_hp L fz1 t I J) := b_L_law_2436 hc hz h
set_option maxRecDepth 100000 in
theorem b_L_law_2484 {d L : Nat} {fz t : Bool} {Q : pm_R → pm_H → Prop} {c z : Nat} {x4 : Int32} {s0 : Int32} {r : Int32} {I : Nat → Nat → Int32} {J : Nat → Nat → Int64} (hc : c ≤ 600000) (hz : z ≤ 7200000)
    (h : ((s0 = r → t_L_law_2513 d L fz t Q c z x4 I J) ∧ (¬ s0 = r → Q (.inl (some (.int (nI 0)))) (pm_hp L fz t I J)))) :
    t_L_law_2484 d L fz t Q c z x4 s0 r I J := by
  exact pm_go d pm_lcs 400 ⟨fun q0 => ((h).1 q0), fun q0 => ⟨Or.inl rfl, (pm_bt (pm_lr hc hz) ((h).2 q0))⟩⟩
theorem kb_L_law_2484 {d L : Nat} {fz t : Bool} {Q : pm_R → pm_H → Prop} {c z : Nat} {x4 : Int32} {s0 : Int32} {r : Int32} {fz1 : Bool} {I : Nat → Nat → Int32} {J : Nat → Nat → Int64} (hc : c ≤ 600000) (hz : z ≤ 7200000)
    (h : ((s0 = r → t_L_law_2513 d L fz t Q c z x4 I J) ∧ (¬ s0 = r → Q (.inl (some (.int (nI 0)))) (pm_hp L fz t I J)))) :
    K_L_law_2484 d fz t Q c z x4 s0 (.inl (some (.int r))) (pm_hp L fz1 t I J) := b_L_law_2484 hc hz h
set_option maxRecDepth 100000 in
theorem b_L_law_2497 {d L : Nat} {fz t : Bool} {Q : pm_R → pm_H → Prop} {c z : Nat} {x4 : Int32} {I : Nat → Nat → Int32} {J : Nat → Nat → Int64} (hc : c ≤ 600000) (hz : z ≤ 7200000)
    (h : t_L_law_2513 d L fz t Q c z x4 I J) :
    t_L_law_2497 d L fz t Q c z x4 I J := by
  exact pm_go d pm_lcs 400 h
theorem kb_L_law_2497 {d L : Nat} {fz t : Bool} {Q : pm_R → pm_H → Prop} {c z : Nat} {x4 : Int32} {fz1 : Bool} {I : Nat → Nat → Int32} {J : Nat → Nat → Int64} (hc : c ≤ 600000) (hz : z ≤ 7200000)
    (h : t_L_law_2513 d L fz t Q c z x4 I J) :
    K_L_law_2497 d fz t Q c z x4 (.inl none) (pm_hp L fz1 t I J) := b_L_law_2497 hc hz h
set_option maxRecDepth 100000 in
theorem b_L_law_2508 {d L : Nat} {fz t : Bool} {Q : pm_R → pm_H → Prop} {c z : Nat} {x4 : Int32} {s0 : Int32} {r : Int32} {I : Nat → Nat → Int32} {J : Nat → Nat → Int64} (hc : c ≤ 600000) (hz : z ≤ 7200000)
    (h : ((s0 = r → t_L_law_2513 d L fz t Q c z x4 I J) ∧ (¬ s0 = r → Q (.inl (some (.int (nI 0)))) (pm_hp L fz t I J)))) :
    t_L_law_2508 d L fz t Q c z x4 s0 r I J := by
  exact pm_go d pm_lcs 400 ⟨fun q0 => ((h).1 q0), fun q0 => ⟨Or.inl rfl, (pm_bt (pm_lr hc hz) ((h).2 q0))⟩⟩
theorem kb_L_law_2508 {d L : Nat} {fz t : Bool} {Q : pm_R → pm_H → Prop} {c z : Nat} {x4 : Int32} {s0 : Int32} {r : Int32} {fz1 : Bool} {I : Nat → Nat → Int32} {J : Nat → Nat → Int64} (hc : c ≤ 600000) (hz : z ≤ 7200000)
    (h : ((s0 = r → t_L_law_2513 d L fz t Q c z x4 I J) ∧ (¬ s0 = r → Q (.inl (some (.int (nI 0)))) (pm_hp L fz t I J)))) :
    K_L_law_2508 d fz t Q c z x4 s0 (.inl (some (.int r))) (pm_hp L fz1 t I J) := b_L_law_2508 hc hz h
set_option maxRecDepth 100000 in
theorem b_L_law_326 {d L : Nat} {fz t : Bool} {Q : pm_R → pm_H → Prop} {c z : Nat} {x4 : Int32} {x5 : Int32} {x6 : Int32} {r : Int32} {I : Nat → Nat → Int32} {J : Nat → Nat → Int64} (hc : c ≤ 600000) (hz : z ≤ 7200000)
    (h : ((r = x5 → ((¬ x5 = (nI 0) → t_L_law_2513 d L fz t Q c z x4 I J) ∧ (x5 = (nI 0) → (((lg_cmp (J 117 0) ((x6).toInt64)) = (nI 0) → t_L_law_2513 d L fz t Q c z x4 I J) ∧ (¬ (lg_cmp (J 117 0) ((x6).toInt64)) = (nI 0) → Q (.inl (some (.int (nI 0)))) (pm_hp L fz t I J)))))) ∧ (¬ r = x5 → Q (.inl (some (.int (nI 0)))) (pm_hp L fz t I J)))) :
    t_L_law_326 d L fz t Q c z x4 x5 x6 r I J := by
  exact pm_go d pm_lcs 400 ⟨fun q0 => ⟨fun q1 => ((((h).1 q0)).1 q1), fun q1 => ⟨(vp_in_nI (by decide : 0 < 1) (by decide) : vp_in (nI 0) 1), ⟨fun q2 => ((((((h).1 q0)).2 q1)).1 q2), fun q2 => ⟨Or.inl rfl, (pm_bt (pm_lr hc hz) ((((((h).1 q0)).2 q1)).2 q2))⟩⟩⟩⟩, fun q0 => ⟨Or.inl rfl, (pm_bt (pm_lr hc hz) ((h).2 q0))⟩⟩
theorem kb_L_law_326 {d L : Nat} {fz t : Bool} {Q : pm_R → pm_H → Prop} {c z : Nat} {x4 : Int32} {x5 : Int32} {x6 : Int32} {r : Int32} {fz1 : Bool} {I : Nat → Nat → Int32} {J : Nat → Nat → Int64} (hc : c ≤ 600000) (hz : z ≤ 7200000)
    (h : ((r = x5 → ((¬ x5 = (nI 0) → t_L_law_2513 d L fz t Q c z x4 I J) ∧ (x5 = (nI 0) → (((lg_cmp (J 117 0) ((x6).toInt64)) = (nI 0) → t_L_law_2513 d L fz t Q c z x4 I J) ∧ (¬ (lg_cmp (J 117 0) ((x6).toInt64)) = (nI 0) → Q (.inl (some (.int (nI 0)))) (pm_hp L fz t I J)))))) ∧ (¬ r = x5 → Q (.inl (some (.int (nI 0)))) (pm_hp L fz t I J)))) :
    K_L_law_326 d fz t Q c z x4 x5 x6 (.inl (some (.int r))) (pm_hp L fz1 t I J) := b_L_law_326 hc hz h
set_option maxRecDepth 100000 in
theorem b_L_law_395 {d L : Nat} {fz t : Bool} {Q : pm_R → pm_H → Prop} {c z : Nat} {x4 : Int32} {x5 : Int32} {x6 : Int32} {r : Int32} {I : Nat → Nat → Int32} {J : Nat → Nat → Int64} (hc : c ≤ 600000) (hz : z ≤ 7200000)
    (h : ((r = x5 → ((¬ x5 = (nI 0) → t_L_law_2513 d L fz t Q c z x4 I J) ∧ (x5 = (nI 0) → (((lg_cmp (J 117 0) ((x6).toInt64)) = (nI 0) → t_L_law_2513 d L fz t Q c z x4 I J) ∧ (¬ (lg_cmp (J 117 0) ((x6).toInt64)) = (nI 0) → Q (.inl (some (.int (nI 0)))) (pm_hp L fz t I J)))))) ∧ (¬ r = x5 → Q (.inl (some (.int (nI 0)))) (pm_hp L fz t I J)))) :
    t_L_law_395 d L fz t Q c z x4 x5 x6 r I J := by
  exact pm_go d pm_lcs 400 ⟨fun q0 => ⟨fun q1 => ((((h).1 q0)).1 q1), fun q1 => ⟨(vp_in_nI (by decide : 0 < 1) (by decide) : vp_in (nI 0) 1), ⟨fun q2 => ((((((h).1 q0)).2 q1)).1 q2), fun q2 => ⟨Or.inl rfl, (pm_bt (pm_lr hc hz) ((((((h).1 q0)).2 q1)).2 q2))⟩⟩⟩⟩, fun q0 => ⟨Or.inl rfl, (pm_bt (pm_lr hc hz) ((h).2 q0))⟩⟩
theorem kb_L_law_395 {d L : Nat} {fz t : Bool} {Q : pm_R → pm_H → Prop} {c z : Nat} {x4 : Int32} {x5 : Int32} {x6 : Int32} {r : Int32} {fz1 : Bool} {I : Nat → Nat → Int32} {J : Nat → Nat → Int64} (hc : c ≤ 600000) (hz : z ≤ 7200000)
    (h : ((r = x5 → ((¬ x5 = (nI 0) → t_L_law_2513 d L fz t Q c z x4 I J) ∧ (x5 = (nI 0) → (((lg_cmp (J 117 0) ((x6).toInt64)) = (nI 0) → t_L_law_2513 d L fz t Q c z x4 I J) ∧ (¬ (lg_cmp (J 117 0) ((x6).toInt64)) = (nI 0) → Q (.inl (some (.int (nI 0)))) (pm_hp L fz t I J)))))) ∧ (¬ r = x5 → Q (.inl (some (.int (nI 0)))) (pm_hp L fz t I J)))) :
    K_L_law_395 d fz t Q c z x4 x5 x6 (.inl (some (.int r))) (pm_hp L fz1 t I J) := b_L_law_395 hc hz h
set_option maxRecDepth 100000 in
theorem b_L_law_463 {d L : Nat} {fz t : Bool} {Q : pm_R → pm_H → Prop} {c z : Nat} {x4 : Int32} {x5 : Int32} {x6 : Int32} {r : Int32} {I : Nat → Nat → Int32} {J : Nat → Nat → Int64} (hc : c ≤ 600000) (hz : z ≤ 7200000)
    (h : ((r = x5 → ((¬ x5 = (nI 0) → t_L_law_2513 d L fz t Q c z x4 I J) ∧ (x5 = (nI 0) → (((lg_cmp (J 117 0) ((x6).toInt64)) = (nI 0) → t_L_law_2513 d L fz t Q c z x4 I J) ∧ (¬ (lg_cmp (J 117 0) ((x6).toInt64)) = (nI 0) → Q (.inl (some (.int (nI 0)))) (pm_hp L fz t I J)))))) ∧ (¬ r = x5 → Q (.inl (some (.int (nI 0)))) (pm_hp L fz t I J)))) :
    t_L_law_463 d L fz t Q c z x4 x5 x6 r I J := by
  exact pm_go d pm_lcs 400 ⟨fun q0 => ⟨fun q1 => ((((h).1 q0)).1 q1), fun q1 => ⟨(vp_in_nI (by decide : 0 < 1) (by decide) : vp_in (nI 0) 1), ⟨fun q2 => ((((((h).1 q0)).2 q1)).1 q2), fun q2 => ⟨Or.inl rfl, (pm_bt (pm_lr hc hz) ((((((h).1 q0)).2 q1)).2 q2))⟩⟩⟩⟩, fun q0 => ⟨Or.inl rfl, (pm_bt (pm_lr hc hz) ((h).2 q0))⟩⟩
theorem kb_L_law_463 {d L : Nat} {fz t : Bool} {Q : pm_R → pm_H → Prop} {c z : Nat} {x4 : Int32} {x5 : Int32} {x6 : Int32} {r : Int32} {fz1 : Bool} {I : Nat → Nat → Int32} {J : Nat → Nat → Int64} (hc : c ≤ 600000) (hz : z ≤ 7200000)
    (h : ((r = x5 → ((¬ x5 = (nI 0) → t_L_law_2513 d L fz t Q c z x4 I J) ∧ (x5 = (nI 0) → (((lg_cmp (J 117 0) ((x6).toInt64)) = (nI 0) → t_L_law_2513 d L fz t Q c z x4 I J) ∧ (¬ (lg_cmp (J 117 0) ((x6).toInt64)) = (nI 0) → Q (.inl (some (.int (nI 0)))) (pm_hp L fz t I J)))))) ∧ (¬ r = x5 → Q (.inl (some (.int (nI 0)))) (pm_hp L fz t I J)))) :
    K_L_law_463 d fz t Q c z x4 x5 x6 (.inl (some (.int r))) (pm_hp L fz1 t I J) := b_L_law_463 hc hz h
set_option maxRecDepth 100000 in
theorem b_L_law_519 {d L : Nat} {fz t : Bool} {Q : pm_R → pm_H → Prop} {c z : Nat} {x4 : Int32} {x5 : Int32} {x6 : Int32} {r : Int32} {I : Nat → Nat → Int32} {J : Nat → Nat → Int64} (hc : c ≤ 600000) (hz : z ≤ 7200000)
    (h : ((r = x5 → ((¬ x5 = (nI 0) → t_L_law_2513 d L fz t Q c z x4 I J) ∧ (x5 = (nI 0) → (((lg_cmp (J 117 0) ((x6).toInt64)) = (nI 0) → t_L_law_2513 d L fz t Q c z x4 I J) ∧ (¬ (lg_cmp (J 117 0) ((x6).toInt64)) = (nI 0) → Q (.inl (some (.int (nI 0)))) (pm_hp L fz t I J)))))) ∧ (¬ r = x5 → Q (.inl (some (.int (nI 0)))) (pm_hp L fz t I J)))) :
    t_L_law_519 d L fz t Q c z x4 x5 x6 r I J := by
  exact pm_go d pm_lcs 400 ⟨fun q0 => ⟨fun q1 => ((((h).1 q0)).1 q1), fun q1 => ⟨(vp_in_nI (by decide : 0 < 1) (by decide) : vp_in (nI 0) 1), ⟨fun q2 => ((((((h).1 q0)).2 q1)).1 q2), fun q2 => ⟨Or.inl rfl, (pm_bt (pm_lr hc hz) ((((((h).1 q0)).2 q1)).2 q2))⟩⟩⟩⟩, fun q0 => ⟨Or.inl rfl, (pm_bt (pm_lr hc hz) ((h).2 q0))⟩⟩
theorem kb_L_law_519 {d L : Nat} {fz t : Bool} {Q : pm_R → pm_H → Prop} {c z : Nat} {x4 : Int32} {x5 : Int32} {x6 : Int32} {r : Int32} {fz1 : Bool} {I : Nat → Nat → Int32} {J : Nat → Nat → Int64} (hc : c ≤ 600000) (hz : z ≤ 7200000)
    (h : ((r = x5 → ((¬ x5 = (nI 0) → t_L_law_2513 d L fz t Q c z x4 I J) ∧ (x5 = (nI 0) → (((lg_cmp (J 117 0) ((x6).toInt64)) = (nI 0) → t_L_law_2513 d L fz t Q c z x4 I J) ∧ (¬ (lg_cmp (J 117 0) ((x6).toInt64)) = (nI 0) → Q (.inl (some (.int (nI 0)))) (pm_hp L fz t I J)))))) ∧ (¬ r = x5 → Q (.inl (some (.int (nI 0)))) (pm_hp L fz t I J)))) :
    K_L_law_519 d fz t Q c z x4 x5 x6 (.inl (some (.int r))) (pm_hp L fz1 t I J) := b_L_law_519 hc hz h
set_option maxRecDepth 100000 in
theorem b_L_law_587 {d L : Nat} {fz t : Bool} {Q : pm_R → pm_H → Prop} {c z : Nat} {x4 : Int32} {x5 : Int32} {x6 : Int32} {r : Int32} {I : Nat → Nat → Int32} {J : Nat → Nat → Int64} (hc : c ≤ 600000) (hz : z ≤ 7200000)
    (h : ((r = x5 → ((¬ x5 = (nI 0) → t_L_law_2513 d L fz t Q c z x4 I J) ∧ (x5 = (nI 0) → (((lg_cmp (J 117 0) ((x6).toInt64)) = (nI 0) → t_L_law_2513 d L fz t Q c z x4 I J) ∧ (¬ (lg_cmp (J 117 0) ((x6).toInt64)) = (nI 0) → Q (.inl (some (.int (nI 0)))) (pm_hp L fz t I J)))))) ∧ (¬ r = x5 → Q (.inl (some (.int (nI 0)))) (pm_hp L fz t I J)))) :
    t_L_law_587 d L fz t Q c z x4 x5 x6 r I J := by
  exact pm_go d pm_lcs 400 ⟨fun q0 => ⟨fun q1 => ((((h).1 q0)).1 q1), fun q1 => ⟨(vp_in_nI (by decide : 0 < 1) (by decide) : vp_in (nI 0) 1), ⟨fun q2 => ((((((h).1 q0)).2 q1)).1 q2), fun q2 => ⟨Or.inl rfl, (pm_bt (pm_lr hc hz) ((((((h).1 q0)).2 q1)).2 q2))⟩⟩⟩⟩, fun q0 => ⟨Or.inl rfl, (pm_bt (pm_lr hc hz) ((h).2 q0))⟩⟩
theorem kb_L_law_587 {d L : Nat} {fz t : Bool} {Q : pm_R → pm_H → Prop} {c z : Nat} {x4 : Int32} {x5 : Int32} {x6 : Int32} {r : Int32} {fz1 : Bool} {I : Nat → Nat → Int32} {J : Nat → Nat → Int64} (hc : c ≤ 600000) (hz : z ≤ 7200000)
    (h : ((r = x5 → ((¬ x5 = (nI 0) → t_L_law_2513 d L fz t Q c z x4 I J) ∧ (x5 = (nI 0) → (((lg_cmp (J 117 0) ((x6).toInt64)) = (nI 0) → t_L_law_2513 d L fz t Q c z x4 I J) ∧ (¬ (lg_cmp (J 117 0) ((x6).toInt64)) = (nI 0) → Q (.inl (some (.int (nI 0)))) (pm_hp L fz t I J)))))) ∧ (¬ r = x5 → Q (.inl (some (.int (nI 0)))) (pm_hp L fz t I J)))) :
    K_L_law_587 d fz t Q c z x4 x5 x6 (.inl (some (.int r))) (pm_hp L fz1 t I J) := b_L_law_587 hc hz h
set_option maxRecDepth 100000 in
theorem b_L_law_655 {d L : Nat} {fz t : Bool} {Q : pm_R → pm_H → Prop} {c z : Nat} {x4 : Int32} {x5 : Int32} {x6 : Int32} {r : Int32} {I : Nat → Nat → Int32} {J : Nat → Nat → Int64} (hc : c ≤ 600000) (hz : z ≤ 7200000)
    (h : ((r = x5 → ((¬ x5 = (nI 0) → t_L_law_2513 d L fz t Q c z x4 I J) ∧ (x5 = (nI 0) → (((lg_cmp (J 117 0) ((x6).toInt64)) = (nI 0) → t_L_law_2513 d L fz t Q c z x4 I J) ∧ (¬ (lg_cmp (J 117 0) ((x6).toInt64)) = (nI 0) → Q (.inl (some (.int (nI 0)))) (pm_hp L fz t I J)))))) ∧ (¬ r = x5 → Q (.inl (some (.int (nI 0)))) (pm_hp L fz t I J)))) :
    t_L_law_655 d L fz t Q c z x4 x5 x6 r I J := by
  exact pm_go d pm_lcs 400 ⟨fun q0 => ⟨fun q1 => ((((h).1 q0)).1 q1), fun q1 => ⟨(vp_in_nI (by decide : 0 < 1) (by decide) : vp_in (nI 0) 1), ⟨fun q2 => ((((((h).1 q0)).2 q1)).1 q2), fun q2 => ⟨Or.inl rfl, (pm_bt (pm_lr hc hz) ((((((h).1 q0)).2 q1)).2 q2))⟩⟩⟩⟩, fun q0 => ⟨Or.inl rfl, (pm_bt (pm_lr hc hz) ((h).2 q0))⟩⟩
theorem kb_L_law_655 {d L : Nat} {fz t : Bool} {Q : pm_R → pm_H → Prop} {c z : Nat} {x4 : Int32} {x5 : Int32} {x6 : Int32} {r : Int32} {fz1 : Bool} {I : Nat → Nat → Int32} {J : Nat → Nat → Int64} (hc : c ≤ 600000) (hz : z ≤ 7200000)
    (h : ((r = x5 → ((¬ x5 = (nI 0) → t_L_law_2513 d L fz t Q c z x4 I J) ∧ (x5 = (nI 0) → (((lg_cmp (J 117 0) ((x6).toInt64)) = (nI 0) → t_L_law_2513 d L fz t Q c z x4 I J) ∧ (¬ (lg_cmp (J 117 0) ((x6).toInt64)) = (nI 0) → Q (.inl (some (.int (nI 0)))) (pm_hp L fz t I J)))))) ∧ (¬ r = x5 → Q (.inl (some (.int (nI 0)))) (pm_hp L fz t I J)))) :
    K_L_law_655 d fz t Q c z x4 x5 x6 (.inl (some (.int r))) (pm_hp L fz1 t I J) := b_L_law_655 hc hz h
set_option maxRecDepth 100000 in
theorem b_L_law_748 {d L : Nat} {fz t : Bool} {Q : pm_R → pm_H → Prop} {c z : Nat} {x4 : Int32} {x5 : Int32} {x6 : Int32} {r : Int32} {I : Nat → Nat → Int32} {J : Nat → Nat → Int64} (hc : c ≤ 600000) (hz : z ≤ 7200000)
    (h : ((r = x5 → ((¬ x5 = (nI 0) → t_L_law_2513 d L fz t Q c z x4 I J) ∧ (x5 = (nI 0) → (((lg_cmp (J 117 0) ((x6).toInt64)) = (nI 0) → t_L_law_2513 d L fz t Q c z x4 I J) ∧ (¬ (lg_cmp (J 117 0) ((x6).toInt64)) = (nI 0) → Q (.inl (some (.int (nI 0)))) (pm_hp L fz t I J)))))) ∧ (¬ r = x5 → Q (.inl (some (.int (nI 0)))) (pm_hp L fz t I J)))) :
    t_L_law_748 d L fz t Q c z x4 x5 x6 r I J := by
  exact pm_go d pm_lcs 400 ⟨fun q0 => ⟨fun q1 => ((((h).1 q0)).1 q1), fun q1 => ⟨(vp_in_nI (by decide : 0 < 1) (by decide) : vp_in (nI 0) 1), ⟨fun q2 => ((((((h).1 q0)).2 q1)).1 q2), fun q2 => ⟨Or.inl rfl, (pm_bt (pm_lr hc hz) ((((((h).1 q0)).2 q1)).2 q2))⟩⟩⟩⟩, fun q0 => ⟨Or.inl rfl, (pm_bt (pm_lr hc hz) ((h).2 q0))⟩⟩
theorem kb_L_law_748 {d L : Nat} {fz t : Bool} {Q : pm_R → pm_H → Prop} {c z : Nat} {x4 : Int32} {x5 : Int32} {x6 : Int32} {r : Int32} {fz1 : Bool} {I : Nat → Nat → Int32} {J : Nat → Nat → Int64} (hc : c ≤ 600000) (hz : z ≤ 7200000)
    (h : ((r = x5 → ((¬ x5 = (nI 0) → t_L_law_2513 d L fz t Q c z x4 I J) ∧ (x5 = (nI 0) → (((lg_cmp (J 117 0) ((x6).toInt64)) = (nI 0) → t_L_law_2513 d L fz t Q c z x4 I J) ∧ (¬ (lg_cmp (J 117 0) ((x6).toInt64)) = (nI 0) → Q (.inl (some (.int (nI 0)))) (pm_hp L fz t I J)))))) ∧ (¬ r = x5 → Q (.inl (some (.int (nI 0)))) (pm_hp L fz t I J)))) :
    K_L_law_748 d fz t Q c z x4 x5 x6 (.inl (some (.int r))) (pm_hp L fz1 t I J) := b_L_law_748 hc hz h
set_option maxRecDepth 100000 in
theorem b_L_law_804 {d L : Nat} {fz t : Bool} {Q : pm_R → pm_H → Prop} {c z : Nat} {x4 : Int32} {x5 : Int32} {x6 : Int32} {r : Int32} {I : Nat → Nat → Int32} {J : Nat → Nat → Int64} (hc : c ≤ 600000) (hz : z ≤ 7200000)
    (h : ((r = x5 → ((¬ x5 = (nI 0) → t_L_law_2513 d L fz t Q c z x4 I J) ∧ (x5 = (nI 0) → (((lg_cmp (J 117 0) ((x6).toInt64)) = (nI 0) → t_L_law_2513 d L fz t Q c z x4 I J) ∧ (¬ (lg_cmp (J 117 0) ((x6).toInt64)) = (nI 0) → Q (.inl (some (.int (nI 0)))) (pm_hp L fz t I J)))))) ∧ (¬ r = x5 → Q (.inl (some (.int (nI 0)))) (pm_hp L fz t I J)))) :
    t_L_law_804 d L fz t Q c z x4 x5 x6 r I J := by
  exact pm_go d pm_lcs 400 ⟨fun q0 => ⟨fun q1 => ((((h).1 q0)).1 q1), fun q1 => ⟨(vp_in_nI (by decide : 0 < 1) (by decide) : vp_in (nI 0) 1), ⟨fun q2 => ((((((h).1 q0)).2 q1)).1 q2), fun q2 => ⟨Or.inl rfl, (pm_bt (pm_lr hc hz) ((((((h).1 q0)).2 q1)).2 q2))⟩⟩⟩⟩, fun q0 => ⟨Or.inl rfl, (pm_bt (pm_lr hc hz) ((h).2 q0))⟩⟩
theorem kb_L_law_804 {d L : Nat} {fz t : Bool} {Q : pm_R → pm_H → Prop} {c z : Nat} {x4 : Int32} {x5 : Int32} {x6 : Int32} {r : Int32} {fz1 : Bool} {I : Nat → Nat → Int32} {J : Nat → Nat → Int64} (hc : c ≤ 600000) (hz : z ≤ 7200000)
    (h : ((r = x5 → ((¬ x5 = (nI 0) → t_L_law_2513 d L fz t Q c z x4 I J) ∧ (x5 = (nI 0) → (((lg_cmp (J 117 0) ((x6).toInt64)) = (nI 0) → t_L_law_2513 d L fz t Q c z x4 I J) ∧ (¬ (lg_cmp (J 117 0) ((x6).toInt64)) = (nI 0) → Q (.inl (some (.int (nI 0)))) (pm_hp L fz t I J)))))) ∧ (¬ r = x5 → Q (.inl (some (.int (nI 0)))) (pm_hp L fz t I J)))) :
    K_L_law_804 d fz t Q c z x4 x5 x6 (.inl (some (.int r))) (pm_hp L fz1 t I J) := b_L_law_804 hc hz h
set_option maxRecDepth 100000 in
theorem b_L_law_860 {d L : Nat} {fz t : Bool} {Q : pm_R → pm_H → Prop} {c z : Nat} {x4 : Int32} {x5 : Int32} {x6 : Int32} {r : Int32} {I : Nat → Nat → Int32} {J : Nat → Nat → Int64} (hc : c ≤ 600000) (hz : z ≤ 7200000)
    (h : ((r = x5 → ((¬ x5 = (nI 0) → t_L_law_2513 d L fz t Q c z x4 I J) ∧ (x5 = (nI 0) → (((lg_cmp (J 117 0) ((x6).toInt64)) = (nI 0) → t_L_law_2513 d L fz t Q c z x4 I J) ∧ (¬ (lg_cmp (J 117 0) ((x6).toInt64)) = (nI 0) → Q (.inl (some (.int (nI 0)))) (pm_hp L fz t I J)))))) ∧ (¬ r = x5 → Q (.inl (some (.int (nI 0)))) (pm_hp L fz t I J)))) :
    t_L_law_860 d L fz t Q c z x4 x5 x6 r I J := by
  exact pm_go d pm_lcs 400 ⟨fun q0 => ⟨fun q1 => ((((h).1 q0)).1 q1), fun q1 => ⟨(vp_in_nI (by decide : 0 < 1) (by decide) : vp_in (nI 0) 1), ⟨fun q2 => ((((((h).1 q0)).2 q1)).1 q2), fun q2 => ⟨Or.inl rfl, (pm_bt (pm_lr hc hz) ((((((h).1 q0)).2 q1)).2 q2))⟩⟩⟩⟩, fun q0 => ⟨Or.inl rfl, (pm_bt (pm_lr hc hz) ((h).2 q0))⟩⟩
theorem kb_L_law_860 {d L : Nat} {fz t : Bool} {Q : pm_R → pm_H → Prop} {c z : Nat} {x4 : Int32} {x5 : Int32} {x6 : Int32} {r : Int32} {fz1 : Bool} {I : Nat → Nat → Int32} {J : Nat → Nat → Int64} (hc : c ≤ 600000) (hz : z ≤ 7200000)
    (h : ((r = x5 → ((¬ x5 = (nI 0) → t_L_law_2513 d L fz t Q c z x4 I J) ∧ (x5 = (nI 0) → (((lg_cmp (J 117 0) ((x6).toInt64)) = (nI 0) → t_L_law_2513 d L fz t Q c z x4 I J) ∧ (¬ (lg_cmp (J 117 0) ((x6).toInt64)) = (nI 0) → Q (.inl (some (.int (nI 0)))) (pm_hp L fz t I J)))))) ∧ (¬ r = x5 → Q (.inl (some (.int (nI 0)))) (pm_hp L fz t I J)))) :
    K_L_law_860 d fz t Q c z x4 x5 x6 (.inl (some (.int r))) (pm_hp L fz1 t I J) := b_L_law_860 hc hz h
set_option maxRecDepth 100000 in
theorem b_L_law_978 {d L : Nat} {fz t : Bool} {Q : pm_R → pm_H → Prop} {c z : Nat} {x4 : Int32} {x5 : Int32} {x6 : Int32} {r : Int32} {I : Nat → Nat → Int32} {J : Nat → Nat → Int64} (hc : c ≤ 600000) (hz : z ≤ 7200000)
    (h : ((r = x5 → ((¬ x5 = (nI 0) → t_L_law_2513 d L fz t Q c z x4 I J) ∧ (x5 = (nI 0) → (((lg_cmp (J 117 0) ((x6).toInt64)) = (nI 0) → t_L_law_2513 d L fz t Q c z x4 I J) ∧ (¬ (lg_cmp (J 117 0) ((x6).toInt64)) = (nI 0) → Q (.inl (some (.int (nI 0)))) (pm_hp L fz t I J)))))) ∧ (¬ r = x5 → Q (.inl (some (.int (nI 0)))) (pm_hp L fz t I J)))) :
    t_L_law_978 d L fz t Q c z x4 x5 x6 r I J := by
  exact pm_go d pm_lcs 400 ⟨fun q0 => ⟨fun q1 => ((((h).1 q0)).1 q1), fun q1 => ⟨(vp_in_nI (by decide : 0 < 1) (by decide) : vp_in (nI 0) 1), ⟨fun q2 => ((((((h).1 q0)).2 q1)).1 q2), fun q2 => ⟨Or.inl rfl, (pm_bt (pm_lr hc hz) ((((((h).1 q0)).2 q1)).2 q2))⟩⟩⟩⟩, fun q0 => ⟨Or.inl rfl, (pm_bt (pm_lr hc hz) ((h).2 q0))⟩⟩
theorem kb_L_law_978 {d L : Nat} {fz t : Bool} {Q : pm_R → pm_H → Prop} {c z : Nat} {x4 : Int32} {x5 : Int32} {x6 : Int32} {r : Int32} {fz1 : Bool} {I : Nat → Nat → Int32} {J : Nat → Nat → Int64} (hc : c ≤ 600000) (hz : z ≤ 7200000)
    (h : ((r = x5 → ((¬ x5 = (nI 0) → t_L_law_2513 d L fz t Q c z x4 I J) ∧ (x5 = (nI 0) → (((lg_cmp (J 117 0) ((x6).toInt64)) = (nI 0) → t_L_law_2513 d L fz t Q c z x4 I J) ∧ (¬ (lg_cmp (J 117 0) ((x6).toInt64)) = (nI 0) → Q (.inl (some (.int (nI 0)))) (pm_hp L fz t I J)))))) ∧ (¬ r = x5 → Q (.inl (some (.int (nI 0)))) (pm_hp L fz t I J)))) :
    K_L_law_978 d fz t Q c z x4 x5 x6 (.inl (some (.int r))) (pm_hp L fz1 t I J) := b_L_law_978 hc hz h
set_option maxRecDepth 100000 in
theorem b_L_law_1034 {d L : Nat} {fz t : Bool} {Q : pm_R → pm_H → Prop} {c z : Nat} {x4 : Int32} {x5 : Int32} {x6 : Int32} {r : Int32} {I : Nat → Nat → Int32} {J : Nat → Nat → Int64} (hc : c ≤ 600000) (hz : z ≤ 7200000)
    (h : ((r = x5 → ((¬ x5 = (nI 0) → t_L_law_2513 d L fz t Q c z x4 I J) ∧ (x5 = (nI 0) → (((lg_cmp (J 117 0) ((x6).toInt64)) = (nI 0) → t_L_law_2513 d L fz t Q c z x4 I J) ∧ (¬ (lg_cmp (J 117 0) ((x6).toInt64)) = (nI 0) → Q (.inl (some (.int (nI 0)))) (pm_hp L fz t I J)))))) ∧ (¬ r = x5 → Q (.inl (some (.int (nI 0)))) (pm_hp L fz t I J)))) :
    t_L_law_1034 d L fz t Q c z x4 x5 x6 r I J := by
  exact pm_go d pm_lcs 400 ⟨fun q0 => ⟨fun q1 => ((((h).1 q0)).1 q1), fun q1 => ⟨(vp_in_nI (by decide : 0 < 1) (by decide) : vp_in (nI 0) 1), ⟨fun q2 => ((((((h).1 q0)).2 q1)).1 q2), fun q2 => ⟨Or.inl rfl, (pm_bt (pm_lr hc hz) ((((((h).1 q0)).2 q1)).2 q2))⟩⟩⟩⟩, fun q0 => ⟨Or.inl rfl, (pm_bt (pm_lr hc hz) ((h).2 q0))⟩⟩
theorem kb_L_law_1034 {d L : Nat} {fz t : Bool} {Q : pm_R → pm_H → Prop} {c z : Nat} {x4 : Int32} {x5 : Int32} {x6 : Int32} {r : Int32} {fz1 : Bool} {I : Nat → Nat → Int32} {J : Nat → Nat → Int64} (hc : c ≤ 600000) (hz : z ≤ 7200000)
    (h : ((r = x5 → ((¬ x5 = (nI 0) → t_L_law_2513 d L fz t Q c z x4 I J) ∧ (x5 = (nI 0) → (((lg_cmp (J 117 0) ((x6).toInt64)) = (nI 0) → t_L_law_2513 d L fz t Q c z x4 I J) ∧ (¬ (lg_cmp (J 117 0) ((x6).toInt64)) = (nI 0) → Q (.inl (some (.int (nI 0)))) (pm_hp L fz t I J)))))) ∧ (¬ r = x5 → Q (.inl (some (.int (nI 0)))) (pm_hp L fz t I J)))) :
    K_L_law_1034 d fz t Q c z x4 x5 x6 (.inl (some (.int r))) (pm_hp L fz1 t I J) := b_L_law_1034 hc hz h
set_option maxRecDepth 100000 in
theorem b_L_law_1090 {d L : Nat} {fz t : Bool} {Q : pm_R → pm_H → Prop} {c z : Nat} {x4 : Int32} {x5 : Int32} {x6 : Int32} {r : Int32} {I : Nat → Nat → Int32} {J : Nat → Nat → Int64} (hc : c ≤ 600000) (hz : z ≤ 7200000)
    (h : ((r = x5 → ((¬ x5 = (nI 0) → t_L_law_2513 d L fz t Q c z x4 I J) ∧ (x5 = (nI 0) → (((lg_cmp (J 117 0) ((x6).toInt64)) = (nI 0) → t_L_law_2513 d L fz t Q c z x4 I J) ∧ (¬ (lg_cmp (J 117 0) ((x6).toInt64)) = (nI 0) → Q (.inl (some (.int (nI 0)))) (pm_hp L fz t I J)))))) ∧ (¬ r = x5 → Q (.inl (some (.int (nI 0)))) (pm_hp L fz t I J)))) :
    t_L_law_1090 d L fz t Q c z x4 x5 x6 r I J := by
  exact pm_go d pm_lcs 400 ⟨fun q0 => ⟨fun q1 => ((((h).1 q0)).1 q1), fun q1 => ⟨(vp_in_nI (by decide : 0 < 1) (by decide) : vp_in (nI 0) 1), ⟨fun q2 => ((((((h).1 q0)).2 q1)).1 q2), fun q2 => ⟨Or.inl rfl, (pm_bt (pm_lr hc hz) ((((((h).1 q0)).2 q1)).2 q2))⟩⟩⟩⟩, fun q0 => ⟨Or.inl rfl, (pm_bt (pm_lr hc hz) ((h).2 q0))⟩⟩
theorem kb_L_law_1090 {d L : Nat} {fz t : Bool} {Q : pm_R → pm_H → Prop} {c z : Nat} {x4 : Int32} {x5 : Int32} {x6 : Int32} {r : Int32} {fz1 : Bool} {I : Nat → Nat → Int32} {J : Nat → Nat → Int64} (hc : c ≤ 600000) (hz : z ≤ 7200000)
    (h : ((r = x5 → ((¬ x5 = (nI 0) → t_L_law_2513 d L fz t Q c z x4 I J) ∧ (x5 = (nI 0) → (((lg_cmp (J 117 0) ((x6).toInt64)) = (nI 0) → t_L_law_2513 d L fz t Q c z x4 I J) ∧ (¬ (lg_cmp (J 117 0) ((x6).toInt64)) = (nI 0) → Q (.inl (some (.int (nI 0)))) (pm_hp L fz t I J)))))) ∧ (¬ r = x5 → Q (.inl (some (.int (nI 0)))) (pm_hp L fz t I J)))) :
    K_L_law_1090 d fz t Q c z x4 x5 x6 (.inl (some (.int r))) (pm_hp L fz1 t I J) := b_L_law_1090 hc hz h
set_option maxRecDepth 100000 in
theorem b_L_law_1159 {d L : Nat} {fz t : Bool} {Q : pm_R → pm_H → Prop} {c z : Nat} {x4 : Int32} {x5 : Int32} {x6 : Int32} {r : Int32} {I : Nat → Nat → Int32} {J : Nat → Nat → Int64} (hc : c ≤ 600000) (hz : z ≤ 7200000)
    (h : ((r = x5 → ((¬ x5 = (nI 0) → t_L_law_2513 d L fz t Q c z x4 I J) ∧ (x5 = (nI 0) → (((lg_cmp (J 117 0) ((x6).toInt64)) = (nI 0) → t_L_law_2513 d L fz t Q c z x4 I J) ∧ (¬ (lg_cmp (J 117 0) ((x6).toInt64)) = (nI 0) → Q (.inl (some (.int (nI 0)))) (pm_hp L fz t I J)))))) ∧ (¬ r = x5 → Q (.inl (some (.int (nI 0)))) (pm_hp L fz t I J)))) :
    t_L_law_1159 d L fz t Q c z x4 x5 x6 r I J := by
  exact pm_go d pm_lcs 400 ⟨fun q0 => ⟨fun q1 => ((((h).1 q0)).1 q1), fun q1 => ⟨(vp_in_nI (by decide : 0 < 1) (by decide) : vp_in (nI 0) 1), ⟨fun q2 => ((((((h).1 q0)).2 q1)).1 q2), fun q2 => ⟨Or.inl rfl, (pm_bt (pm_lr hc hz) ((((((h).1 q0)).2 q1)).2 q2))⟩⟩⟩⟩, fun q0 => ⟨Or.inl rfl, (pm_bt (pm_lr hc hz) ((h).2 q0))⟩⟩
theorem kb_L_law_1159 {d L : Nat} {fz t : Bool} {Q : pm_R → pm_H → Prop} {c z : Nat} {x4 : Int32} {x5 : Int32} {x6 : Int32} {r : Int32} {fz1 : Bool} {I : Nat → Nat → Int32} {J : Nat → Nat → Int64} (hc : c ≤ 600000) (hz : z ≤ 7200000)
    (h : ((r = x5 → ((¬ x5 = (nI 0) → t_L_law_2513 d L fz t Q c z x4 I J) ∧ (x5 = (nI 0) → (((lg_cmp (J 117 0) ((x6).toInt64)) = (nI 0) → t_L_law_2513 d L fz t Q c z x4 I J) ∧ (¬ (lg_cmp (J 117 0) ((x6).toInt64)) = (nI 0) → Q (.inl (some (.int (nI 0)))) (pm_hp L fz t I J)))))) ∧ (¬ r = x5 → Q (.inl (some (.int (nI 0)))) (pm_hp L fz t I J)))) :
    K_L_law_1159 d fz t Q c z x4 x5 x6 (.inl (some (.int r))) (pm_hp L fz1 t I J) := b_L_law_1159 hc hz h
set_option maxRecDepth 100000 in
theorem b_L_law_1227 {d L : Nat} {fz t : Bool} {Q : pm_R → pm_H → Prop} {c z : Nat} {x4 : Int32} {x5 : Int32} {x6 : Int32} {r : Int32} {I : Nat → Nat → Int32} {J : Nat → Nat → Int64} (hc : c ≤ 600000) (hz : z ≤ 7200000)
    (h : ((r = x5 → ((¬ x5 = (nI 0) → t_L_law_2513 d L fz t Q c z x4 I J) ∧ (x5 = (nI 0) → (((lg_cmp (J 117 0) ((x6).toInt64)) = (nI 0) → t_L_law_2513 d L fz t Q c z x4 I J) ∧ (¬ (lg_cmp (J 117 0) ((x6).toInt64)) = (nI 0) → Q (.inl (some (.int (nI 0)))) (pm_hp L fz t I J)))))) ∧ (¬ r = x5 → Q (.inl (some (.int (nI 0)))) (pm_hp L fz t I J)))) :
    t_L_law_1227 d L fz t Q c z x4 x5 x6 r I J := by
  exact pm_go d pm_lcs 400 ⟨fun q0 => ⟨fun q1 => ((((h).1 q0)).1 q1), fun q1 => ⟨(vp_in_nI (by decide : 0 < 1) (by decide) : vp_in (nI 0) 1), ⟨fun q2 => ((((((h).1 q0)).2 q1)).1 q2), fun q2 => ⟨Or.inl rfl, (pm_bt (pm_lr hc hz) ((((((h).1 q0)).2 q1)).2 q2))⟩⟩⟩⟩, fun q0 => ⟨Or.inl rfl, (pm_bt (pm_lr hc hz) ((h).2 q0))⟩⟩
theorem kb_L_law_1227 {d L : Nat} {fz t : Bool} {Q : pm_R → pm_H → Prop} {c z : Nat} {x4 : Int32} {x5 : Int32} {x6 : Int32} {r : Int32} {fz1 : Bool} {I : Nat → Nat → Int32} {J : Nat → Nat → Int64} (hc : c ≤ 600000) (hz : z ≤ 7200000)
    (h : ((r = x5 → ((¬ x5 = (nI 0) → t_L_law_2513 d L fz t Q c z x4 I J) ∧ (x5 = (nI 0) → (((lg_cmp (J 117 0) ((x6).toInt64)) = (nI 0) → t_L_law_2513 d L fz t Q c z x4 I J) ∧ (¬ (lg_cmp (J 117 0) ((x6).toInt64)) = (nI 0) → Q (.inl (some (.int (nI 0)))) (pm_hp L fz t I J)))))) ∧ (¬ r = x5 → Q (.inl (some (.int (nI 0)))) (pm_hp L fz t I J)))) :
    K_L_law_1227 d fz t Q c z x4 x5 x6 (.inl (some (.int r))) (pm_hp L fz1 t I J) := b_L_law_1227 hc hz h
set_option maxRecDepth 100000 in
theorem b_L_law_1283 {d L : Nat} {fz t : Bool} {Q : pm_R → pm_H → Prop} {c z : Nat} {x4 : Int32} {x5 : Int32} {x6 : Int32} {r : Int32} {I : Nat → Nat → Int32} {J : Nat → Nat → Int64} (hc : c ≤ 600000) (hz : z ≤ 7200000)
    (h : ((r = x5 → ((¬ x5 = (nI 0) → t_L_law_2513 d L fz t Q c z x4 I J) ∧ (x5 = (nI 0) → (((lg_cmp (J 117 0) ((x6).toInt64)) = (nI 0) → t_L_law_2513 d L fz t Q c z x4 I J) ∧ (¬ (lg_cmp (J 117 0) ((x6).toInt64)) = (nI 0) → Q (.inl (some (.int (nI 0)))) (pm_hp L fz t I J)))))) ∧ (¬ r = x5 → Q (.inl (some (.int (nI 0)))) (pm_hp L fz t I J)))) :
    t_L_law_1283 d L fz t Q c z x4 x5 x6 r I J := by
  exact pm_go d pm_lcs 400 ⟨fun q0 => ⟨fun q1 => ((((h).1 q0)).1 q1), fun q1 => ⟨(vp_in_nI (by decide : 0 < 1) (by decide) : vp_in (nI 0) 1), ⟨fun q2 => ((((((h).1 q0)).2 q1)).1 q2), fun q2 => ⟨Or.inl rfl, (pm_bt (pm_lr hc hz) ((((((h).1 q0)).2 q1)).2 q2))⟩⟩⟩⟩, fun q0 => ⟨Or.inl rfl, (pm_bt (pm_lr hc hz) ((h).2 q0))⟩⟩
theorem kb_L_law_1283 {d L : Nat} {fz t : Bool} {Q : pm_R → pm_H → Prop} {c z : Nat} {x4 : Int32} {x5 : Int32} {x6 : Int32} {r : Int32} {fz1 : Bool} {I : Nat → Nat → Int32} {J : Nat → Nat → Int64} (hc : c ≤ 600000) (hz : z ≤ 7200000)
    (h : ((r = x5 → ((¬ x5 = (nI 0) → t_L_law_2513 d L fz t Q c z x4 I J) ∧ (x5 = (nI 0) → (((lg_cmp (J 117 0) ((x6).toInt64)) = (nI 0) → t_L_law_2513 d L fz t Q c z x4 I J) ∧ (¬ (lg_cmp (J 117 0) ((x6).toInt64)) = (nI 0) → Q (.inl (some (.int (nI 0)))) (pm_hp L fz t I J)))))) ∧ (¬ r = x5 → Q (.inl (some (.int (nI 0)))) (pm_hp L fz t I J)))) :
    K_L_law_1283 d fz t Q c z x4 x5 x6 (.inl (some (.int r))) (pm_hp L fz1 t I J) := b_L_law_1283 hc hz h
set_option maxRecDepth 100000 in
theorem b_L_law_1363 {d L : Nat} {fz t : Bool} {Q : pm_R → pm_H → Prop} {c z : Nat} {x4 : Int32} {x5 : Int32} {x6 : Int32} {r : Int32} {I : Nat → Nat → Int32} {J : Nat → Nat → Int64} (hc : c ≤ 600000) (hz : z ≤ 7200000)
    (h : ((r = x5 → ((¬ x5 = (nI 0) → t_L_law_2513 d L fz t Q c z x4 I J) ∧ (x5 = (nI 0) → (((lg_cmp (J 117 0) ((x6).toInt64)) = (nI 0) → t_L_law_2513 d L fz t Q c z x4 I J) ∧ (¬ (lg_cmp (J 117 0) ((x6).toInt64)) = (nI 0) → Q (.inl (some (.int (nI 0)))) (pm_hp L fz t I J)))))) ∧ (¬ r = x5 → Q (.inl (some (.int (nI 0)))) (pm_hp L fz t I J)))) :
    t_L_law_1363 d L fz t Q c z x4 x5 x6 r I J := by
  exact pm_go d pm_lcs 400 ⟨fun q0 => ⟨fun q1 => ((((h).1 q0)).1 q1), fun q1 => ⟨(vp_in_nI (by decide : 0 < 1) (by decide) : vp_in (nI 0) 1), ⟨fun q2 => ((((((h).1 q0)).2 q1)).1 q2), fun q2 => ⟨Or.inl rfl, (pm_bt (pm_lr hc hz) ((((((h).1 q0)).2 q1)).2 q2))⟩⟩⟩⟩, fun q0 => ⟨Or.inl rfl, (pm_bt (pm_lr hc hz) ((h).2 q0))⟩⟩
theorem kb_L_law_1363 {d L : Nat} {fz t : Bool} {Q : pm_R → pm_H → Prop} {c z : Nat} {x4 : Int32} {x5 : Int32} {x6 : Int32} {r : Int32} {fz1 : Bool} {I : Nat → Nat → Int32} {J : Nat → Nat → Int64} (hc : c ≤ 600000) (hz : z ≤ 7200000)
    (h : ((r = x5 → ((¬ x5 = (nI 0) → t_L_law_2513 d L fz t Q c z x4 I J) ∧ (x5 = (nI 0) → (((lg_cmp (J 117 0) ((x6).toInt64)) = (nI 0) → t_L_law_2513 d L fz t Q c z x4 I J) ∧ (¬ (lg_cmp (J 117 0) ((x6).toInt64)) = (nI 0) → Q (.inl (some (.int (nI 0)))) (pm_hp L fz t I J)))))) ∧ (¬ r = x5 → Q (.inl (some (.int (nI 0)))) (pm_hp L fz t I J)))) :
    K_L_law_1363 d fz t Q c z x4 x5 x6 (.inl (some (.int r))) (pm_hp L fz1 t I J) := b_L_law_1363 hc hz h
set_option maxRecDepth 100000 in
theorem b_L_law_1419 {d L : Nat} {fz t : Bool} {Q : pm_R → pm_H → Prop} {c z : Nat} {x4 : Int32} {x5 : Int32} {x6 : Int32} {r : Int32} {I : Nat → Nat → Int32} {J : Nat → Nat → Int64} (hc : c ≤ 600000) (hz : z ≤ 7200000)
    (h : ((r = x5 → ((¬ x5 = (nI 0) → t_L_law_2513 d L fz t Q c z x4 I J) ∧ (x5 = (nI 0) → (((lg_cmp (J 117 0) ((x6).toInt64)) = (nI 0) → t_L_law_2513 d L fz t Q c z x4 I J) ∧ (¬ (lg_cmp (J 117 0) ((x6).toInt64)) = (nI 0) → Q (.inl (some (.int (nI 0)))) (pm_hp L fz t I J)))))) ∧ (¬ r = x5 → Q (.inl (some (.int (nI 0)))) (pm_hp L fz t I J)))) :
    t_L_law_1419 d L fz t Q c z x4 x5 x6 r I J := by
  exact pm_go d pm_lcs 400 ⟨fun q0 => ⟨fun q1 => ((((h).1 q0)).1 q1), fun q1 => ⟨(vp_in_nI (by decide : 0 < 1) (by decide) : vp_in (nI 0) 1), ⟨fun q2 => ((((((h).1 q0)).2 q1)).1 q2), fun q2 => ⟨Or.inl rfl, (pm_bt (pm_lr hc hz) ((((((h).1 q0)).2 q1)).2 q2))⟩⟩⟩⟩, fun q0 => ⟨Or.inl rfl, (pm_bt (pm_lr hc hz) ((h).2 q0))⟩⟩
theorem kb_L_law_1419 {d L : Nat} {fz t : Bool} {Q : pm_R → pm_H → Prop} {c z : Nat} {x4 : Int32} {x5 : Int32} {x6 : Int32} {r : Int32} {fz1 : Bool} {I : Nat → Nat → Int32} {J : Nat → Nat → Int64} (hc : c ≤ 600000) (hz : z ≤ 7200000)
    (h : ((r = x5 → ((¬ x5 = (nI 0) → t_L_law_2513 d L fz t Q c z x4 I J) ∧ (x5 = (nI 0) → (((lg_cmp (J 117 0) ((x6).toInt64)) = (nI 0) → t_L_law_2513 d L fz t Q c z x4 I J) ∧ (¬ (lg_cmp (J 117 0) ((x6).toInt64)) = (nI 0) → Q (.inl (some (.int (nI 0)))) (pm_hp L fz t I J)))))) ∧ (¬ r = x5 → Q (.inl (some (.int (nI 0)))) (pm_hp L fz t I J)))) :
    K_L_law_1419 d fz t Q c z x4 x5 x6 (.inl (some (.int r))) (pm_hp L fz1 t I J) := b_L_law_1419 hc hz h
set_option maxRecDepth 100000 in
theorem b_L_law_1527 {d L : Nat} {fz t : Bool} {Q : pm_R → pm_H → Prop} {c z : Nat} {x4 : Int32} {x5 : Int32} {x6 : Int32} {r : Int32} {I : Nat → Nat → Int32} {J : Nat → Nat → Int64} (hc : c ≤ 600000) (hz : z ≤ 7200000)
    (h : ((r = x5 → ((¬ x5 = (nI 0) → t_L_law_2513 d L fz t Q c z x4 I J) ∧ (x5 = (nI 0) → (((lg_cmp (J 117 0) ((x6).toInt64)) = (nI 0) → t_L_law_2513 d L fz t Q c z x4 I J) ∧ (¬ (lg_cmp (J 117 0) ((x6).toInt64)) = (nI 0) → Q (.inl (some (.int (nI 0)))) (pm_hp L fz t I J)))))) ∧ (¬ r = x5 → Q (.inl (some (.int (nI 0)))) (pm_hp L fz t I J)))) :
    t_L_law_1527 d L fz t Q c z x4 x5 x6 r I J := by
  exact pm_go d pm_lcs 400 ⟨fun q0 => ⟨fun q1 => ((((h).1 q0)).1 q1), fun q1 => ⟨(vp_in_nI (by decide : 0 < 1) (by decide) : vp_in (nI 0) 1), ⟨fun q2 => ((((((h).1 q0)).2 q1)).1 q2), fun q2 => ⟨Or.inl rfl, (pm_bt (pm_lr hc hz) ((((((h).1 q0)).2 q1)).2 q2))⟩⟩⟩⟩, fun q0 => ⟨Or.inl rfl, (pm_bt (pm_lr hc hz) ((h).2 q0))⟩⟩
theorem kb_L_law_1527 {d L : Nat} {fz t : Bool} {Q : pm_R → pm_H → Prop} {c z : Nat} {x4 : Int32} {x5 : Int32} {x6 : Int32} {r : Int32} {fz1 : Bool} {I : Nat → Nat → Int32} {J : Nat → Nat → Int64} (hc : c ≤ 600000) (hz : z ≤ 7200000)
    (h : ((r = x5 → ((¬ x5 = (nI 0) → t_L_law_2513 d L fz t Q c z x4 I J) ∧ (x5 = (nI 0) → (((lg_cmp (J 117 0) ((x6).toInt64)) = (nI 0) → t_L_law_2513 d L fz t Q c z x4 I J) ∧ (¬ (lg_cmp (J 117 0) ((x6).toInt64)) = (nI 0) → Q (.inl (some (.int (nI 0)))) (pm_hp L fz t I J)))))) ∧ (¬ r = x5 → Q (.inl (some (.int (nI 0)))) (pm_hp L fz t I J)))) :
    K_L_law_1527 d fz t Q c z x4 x5 x6 (.inl (some (.int r))) (pm_hp L fz1 t I J) := b_L_law_1527 hc hz h
set_option maxRecDepth 100000 in
theorem b_L_law_1594 {d L : Nat} {fz t : Bool} {Q : pm_R → pm_H → Prop} {c z : Nat} {x4 : Int32} {x5 : Int32} {x6 : Int32} {r : Int32} {I : Nat → Nat → Int32} {J : Nat → Nat → Int64} (hc : c ≤ 600000) (hz : z ≤ 7200000)
    (h : ((r = x5 → ((¬ x5 = (nI 0) → t_L_law_2513 d L fz t Q c z x4 I J) ∧ (x5 = (nI 0) → (((lg_cmp (J 117 0) ((x6).toInt64)) = (nI 0) → t_L_law_2513 d L fz t Q c z x4 I J) ∧ (¬ (lg_cmp (J 117 0) ((x6).toInt64)) = (nI 0) → Q (.inl (some (.int (nI 0)))) (pm_hp L fz t I J)))))) ∧ (¬ r = x5 → Q (.inl (some (.int (nI 0)))) (pm_hp L fz t I J)))) :
    t_L_law_1594 d L fz t Q c z x4 x5 x6 r I J := by
  exact pm_go d pm_lcs 400 ⟨fun q0 => ⟨fun q1 => ((((h).1 q0)).1 q1), fun q1 => ⟨(vp_in_nI (by decide : 0 < 1) (by decide) : vp_in (nI 0) 1), ⟨fun q2 => ((((((h).1 q0)).2 q1)).1 q2), fun q2 => ⟨Or.inl rfl, (pm_bt (pm_lr hc hz) ((((((h).1 q0)).2 q1)).2 q2))⟩⟩⟩⟩, fun q0 => ⟨Or.inl rfl, (pm_bt (pm_lr hc hz) ((h).2 q0))⟩⟩
theorem kb_L_law_1594 {d L : Nat} {fz t : Bool} {Q : pm_R → pm_H → Prop} {c z : Nat} {x4 : Int32} {x5 : Int32} {x6 : Int32} {r : Int32} {fz1 : Bool} {I : Nat → Nat → Int32} {J : Nat → Nat → Int64} (hc : c ≤ 600000) (hz : z ≤ 7200000)
    (h : ((r = x5 → ((¬ x5 = (nI 0) → t_L_law_2513 d L fz t Q c z x4 I J) ∧ (x5 = (nI 0) → (((lg_cmp (J 117 0) ((x6).toInt64)) = (nI 0) → t_L_law_2513 d L fz t Q c z x4 I J) ∧ (¬ (lg_cmp (J 117 0) ((x6).toInt64)) = (nI 0) → Q (.inl (some (.int (nI 0)))) (pm_hp L fz t I J)))))) ∧ (¬ r = x5 → Q (.inl (some (.int (nI 0)))) (pm_hp L fz t I J)))) :
    K_L_law_1594 d fz t Q c z x4 x5 x6 (.inl (some (.int r))) (pm_hp L fz1 t I J) := b_L_law_1594 hc hz h
set_option maxRecDepth 100000 in
theorem b_L_law_1662 {d L : Nat} {fz t : Bool} {Q : pm_R → pm_H → Prop} {c z : Nat} {x4 : Int32} {x5 : Int32} {x6 : Int32} {r : Int32} {I : Nat → Nat → Int32} {J : Nat → Nat → Int64} (hc : c ≤ 600000) (hz : z ≤ 7200000)
    (h : ((r = x5 → ((¬ x5 = (nI 0) → t_L_law_2513 d L fz t Q c z x4 I J) ∧ (x5 = (nI 0) → (((lg_cmp (J 117 0) ((x6).toInt64)) = (nI 0) → t_L_law_2513 d L fz t Q c z x4 I J) ∧ (¬ (lg_cmp (J 117 0) ((x6).toInt64)) = (nI 0) → Q (.inl (some (.int (nI 0)))) (pm_hp L fz t I J)))))) ∧ (¬ r = x5 → Q (.inl (some (.int (nI 0)))) (pm_hp L fz t I J)))) :
    t_L_law_1662 d L fz t Q c z x4 x5 x6 r I J := by
  exact pm_go d pm_lcs 400 ⟨fun q0 => ⟨fun q1 => ((((h).1 q0)).1 q1), fun q1 => ⟨(vp_in_nI (by decide : 0 < 1) (by decide) : vp_in (nI 0) 1), ⟨fun q2 => ((((((h).1 q0)).2 q1)).1 q2), fun q2 => ⟨Or.inl rfl, (pm_bt (pm_lr hc hz) ((((((h).1 q0)).2 q1)).2 q2))⟩⟩⟩⟩, fun q0 => ⟨Or.inl rfl, (pm_bt (pm_lr hc hz) ((h).2 q0))⟩⟩
theorem kb_L_law_1662 {d L : Nat} {fz t : Bool} {Q : pm_R → pm_H → Prop} {c z : Nat} {x4 : Int32} {x5 : Int32} {x6 : Int32} {r : Int32} {fz1 : Bool} {I : Nat → Nat → Int32} {J : Nat → Nat → Int64} (hc : c ≤ 600000) (hz : z ≤ 7200000)
    (h : ((r = x5 → ((¬ x5 = (nI 0) → t_L_law_2513 d L fz t Q c z x4 I J) ∧ (x5 = (nI 0) → (((lg_cmp (J 117 0) ((x6).toInt64)) = (nI 0) → t_L_law_2513 d L fz t Q c z x4 I J) ∧ (¬ (lg_cmp (J 117 0) ((x6).toInt64)) = (nI 0) → Q (.inl (some (.int (nI 0)))) (pm_hp L fz t I J)))))) ∧ (¬ r = x5 → Q (.inl (some (.int (nI 0)))) (pm_hp L fz t I J)))) :
    K_L_law_1662 d fz t Q c z x4 x5 x6 (.inl (some (.int r))) (pm_hp L fz1 t I J) := b_L_law_1662 hc hz h
set_option maxRecDepth 100000 in
theorem b_L_law_1718 {d L : Nat} {fz t : Bool} {Q : pm_R → pm_H → Prop} {c z : Nat} {x4 : Int32} {x5 : Int32} {x6 : Int32} {r : Int32} {I : Nat → Nat → Int32} {J : Nat → Nat → Int64} (hc : c ≤ 600000) (hz : z ≤ 7200000)
    (h : ((r = x5 → ((¬ x5 = (nI 0) → t_L_law_2513 d L fz t Q c z x4 I J) ∧ (x5 = (nI 0) → (((lg_cmp (J 117 0) ((x6).toInt64)) = (nI 0) → t_L_law_2513 d L fz t Q c z x4 I J) ∧ (¬ (lg_cmp (J 117 0) ((x6).toInt64)) = (nI 0) → Q (.inl (some (.int (nI 0)))) (pm_hp L fz t I J)))))) ∧ (¬ r = x5 → Q (.inl (some (.int (nI 0)))) (pm_hp L fz t I J)))) :
    t_L_law_1718 d L fz t Q c z x4 x5 x6 r I J := by
  exact pm_go d pm_lcs 400 ⟨fun q0 => ⟨fun q1 => ((((h).1 q0)).1 q1), fun q1 => ⟨(vp_in_nI (by decide : 0 < 1) (by decide) : vp_in (nI 0) 1), ⟨fun q2 => ((((((h).1 q0)).2 q1)).1 q2), fun q2 => ⟨Or.inl rfl, (pm_bt (pm_lr hc hz) ((((((h).1 q0)).2 q1)).2 q2))⟩⟩⟩⟩, fun q0 => ⟨Or.inl rfl, (pm_bt (pm_lr hc hz) ((h).2 q0))⟩⟩
theorem kb_L_law_1718 {d L : Nat} {fz t : Bool} {Q : pm_R → pm_H → Prop} {c z : Nat} {x4 : Int32} {x5 : Int32} {x6 : Int32} {r : Int32} {fz1 : Bool} {I : Nat → Nat → Int32} {J : Nat → Nat → Int64} (hc : c ≤ 600000) (hz : z ≤ 7200000)
    (h : ((r = x5 → ((¬ x5 = (nI 0) → t_L_law_2513 d L fz t Q c z x4 I J) ∧ (x5 = (nI 0) → (((lg_cmp (J 117 0) ((x6).toInt64)) = (nI 0) → t_L_law_2513 d L fz t Q c z x4 I J) ∧ (¬ (lg_cmp (J 117 0) ((x6).toInt64)) = (nI 0) → Q (.inl (some (.int (nI 0)))) (pm_hp L fz t I J)))))) ∧ (¬ r = x5 → Q (.inl (some (.int (nI 0)))) (pm_hp L fz t I J)))) :
    K_L_law_1718 d fz t Q c z x4 x5 x6 (.inl (some (.int r))) (pm_hp L fz1 t I J) := b_L_law_1718 hc hz h
set_option maxRecDepth 100000 in
theorem b_L_law_1810 {d L : Nat} {fz t : Bool} {Q : pm_R → pm_H → Prop} {c z : Nat} {x4 : Int32} {x5 : Int32} {x6 : Int32} {r : Int32} {I : Nat → Nat → Int32} {J : Nat → Nat → Int64} (hc : c ≤ 600000) (hz : z ≤ 7200000)
    (h : ((r = x5 → ((¬ x5 = (nI 0) → t_L_law_2513 d L fz t Q c z x4 I J) ∧ (x5 = (nI 0) → (((lg_cmp (J 117 0) ((x6).toInt64)) = (nI 0) → t_L_law_2513 d L fz t Q c z x4 I J) ∧ (¬ (lg_cmp (J 117 0) ((x6).toInt64)) = (nI 0) → Q (.inl (some (.int (nI 0)))) (pm_hp L fz t I J)))))) ∧ (¬ r = x5 → Q (.inl (some (.int (nI 0)))) (pm_hp L fz t I J)))) :
    t_L_law_1810 d L fz t Q c z x4 x5 x6 r I J := by
  exact pm_go d pm_lcs 400 ⟨fun q0 => ⟨fun q1 => ((((h).1 q0)).1 q1), fun q1 => ⟨(vp_in_nI (by decide : 0 < 1) (by decide) : vp_in (nI 0) 1), ⟨fun q2 => ((((((h).1 q0)).2 q1)).1 q2), fun q2 => ⟨Or.inl rfl, (pm_bt (pm_lr hc hz) ((((((h).1 q0)).2 q1)).2 q2))⟩⟩⟩⟩, fun q0 => ⟨Or.inl rfl, (pm_bt (pm_lr hc hz) ((h).2 q0))⟩⟩
theorem kb_L_law_1810 {d L : Nat} {fz t : Bool} {Q : pm_R → pm_H → Prop} {c z : Nat} {x4 : Int32} {x5 : Int32} {x6 : Int32} {r : Int32} {fz1 : Bool} {I : Nat → Nat → Int32} {J : Nat → Nat → Int64} (hc : c ≤ 600000) (hz : z ≤ 7200000)
    (h : ((r = x5 → ((¬ x5 = (nI 0) → t_L_law_2513 d L fz t Q c z x4 I J) ∧ (x5 = (nI 0) → (((lg_cmp (J 117 0) ((x6).toInt64)) = (nI 0) → t_L_law_2513 d L fz t Q c z x4 I J) ∧ (¬ (lg_cmp (J 117 0) ((x6).toInt64)) = (nI 0) → Q (.inl (some (.int (nI 0)))) (pm_hp L fz t I J)))))) ∧ (¬ r = x5 → Q (.inl (some (.int (nI 0)))) (pm_hp L fz t I J)))) :
    K_L_law_1810 d fz t Q c z x4 x5 x6 (.inl (some (.int r))) (pm_hp L fz1 t I J) := b_L_law_1810 hc hz h
set_option maxRecDepth 100000 in
theorem b_L_law_1866 {d L : Nat} {fz t : Bool} {Q : pm_R → pm_H → Prop} {c z : Nat} {x4 : Int32} {x5 : Int32} {x6 : Int32} {r : Int32} {I : Nat → Nat → Int32} {J : Nat → Nat → Int64} (hc : c ≤ 600000) (hz : z ≤ 7200000)
    (h : ((r = x5 → ((¬ x5 = (nI 0) → t_L_law_2513 d L fz t Q c z x4 I J) ∧ (x5 = (nI 0) → (((lg_cmp (J 117 0) ((x6).toInt64)) = (nI 0) → t_L_law_2513 d L fz t Q c z x4 I J) ∧ (¬ (lg_cmp (J 117 0) ((x6).toInt64)) = (nI 0) → Q (.inl (some (.int (nI 0)))) (pm_hp L fz t I J)))))) ∧ (¬ r = x5 → Q (.inl (some (.int (nI 0)))) (pm_hp L fz t I J)))) :
    t_L_law_1866 d L fz t Q c z x4 x5 x6 r I J := by
  exact pm_go d pm_lcs 400 ⟨fun q0 => ⟨fun q1 => ((((h).1 q0)).1 q1), fun q1 => ⟨(vp_in_nI (by decide : 0 < 1) (by decide) : vp_in (nI 0) 1), ⟨fun q2 => ((((((h).1 q0)).2 q1)).1 q2), fun q2 => ⟨Or.inl rfl, (pm_bt (pm_lr hc hz) ((((((h).1 q0)).2 q1)).2 q2))⟩⟩⟩⟩, fun q0 => ⟨Or.inl rfl, (pm_bt (pm_lr hc hz) ((h).2 q0))⟩⟩
theorem kb_L_law_1866 {d L : Nat} {fz t : Bool} {Q : pm_R → pm_H → Prop} {c z : Nat} {x4 : Int32} {x5 : Int32} {x6 : Int32} {r : Int32} {fz1 : Bool} {I : Nat → Nat → Int32} {J : Nat → Nat → Int64} (hc : c ≤ 600000) (hz : z ≤ 7200000)
    (h : ((r = x5 → ((¬ x5 = (nI 0) → t_L_law_2513 d L fz t Q c z x4 I J) ∧ (x5 = (nI 0) → (((lg_cmp (J 117 0) ((x6).toInt64)) = (nI 0) → t_L_law_2513 d L fz t Q c z x4 I J) ∧ (¬ (lg_cmp (J 117 0) ((x6).toInt64)) = (nI 0) → Q (.inl (some (.int (nI 0)))) (pm_hp L fz t I J)))))) ∧ (¬ r = x5 → Q (.inl (some (.int (nI 0)))) (pm_hp L fz t I J)))) :
    K_L_law_1866 d fz t Q c z x4 x5 x6 (.inl (some (.int r))) (pm_hp L fz1 t I J) := b_L_law_1866 hc hz h
set_option maxRecDepth 100000 in
theorem b_L_law_1946 {d L : Nat} {fz t : Bool} {Q : pm_R → pm_H → Prop} {c z : Nat} {x4 : Int32} {x5 : Int32} {x6 : Int32} {r : Int32} {I : Nat → Nat → Int32} {J : Nat → Nat → Int64} (hc : c ≤ 600000) (hz : z ≤ 7200000)
    (h : ((r = x5 → ((¬ x5 = (nI 0) → t_L_law_2513 d L fz t Q c z x4 I J) ∧ (x5 = (nI 0) → (((lg_cmp (J 117 0) ((x6).toInt64)) = (nI 0) → t_L_law_2513 d L fz t Q c z x4 I J) ∧ (¬ (lg_cmp (J 117 0) ((x6).toInt64)) = (nI 0) → Q (.inl (some (.int (nI 0)))) (pm_hp L fz t I J)))))) ∧ (¬ r = x5 → Q (.inl (some (.int (nI 0)))) (pm_hp L fz t I J)))) :
    t_L_law_1946 d L fz t Q c z x4 x5 x6 r I J := by
  exact pm_go d pm_lcs 400 ⟨fun q0 => ⟨fun q1 => ((((h).1 q0)).1 q1), fun q1 => ⟨(vp_in_nI (by decide : 0 < 1) (by decide) : vp_in (nI 0) 1), ⟨fun q2 => ((((((h).1 q0)).2 q1)).1 q2), fun q2 => ⟨Or.inl rfl, (pm_bt (pm_lr hc hz) ((((((h).1 q0)).2 q1)).2 q2))⟩⟩⟩⟩, fun q0 => ⟨Or.inl rfl, (pm_bt (pm_lr hc hz) ((h).2 q0))⟩⟩
theorem kb_L_law_1946 {d L : Nat} {fz t : Bool} {Q : pm_R → pm_H → Prop} {c z : Nat} {x4 : Int32} {x5 : Int32} {x6 : Int32} {r : Int32} {fz1 : Bool} {I : Nat → Nat → Int32} {J : Nat → Nat → Int64} (hc : c ≤ 600000) (hz : z ≤ 7200000)
    (h : ((r = x5 → ((¬ x5 = (nI 0) → t_L_law_2513 d L fz t Q c z x4 I J) ∧ (x5 = (nI 0) → (((lg_cmp (J 117 0) ((x6).toInt64)) = (nI 0) → t_L_law_2513 d L fz t Q c z x4 I J) ∧ (¬ (lg_cmp (J 117 0) ((x6).toInt64)) = (nI 0) → Q (.inl (some (.int (nI 0)))) (pm_hp L fz t I J)))))) ∧ (¬ r = x5 → Q (.inl (some (.int (nI 0)))) (pm_hp L fz t I J)))) :
    K_L_law_1946 d fz t Q c z x4 x5 x6 (.inl (some (.int r))) (pm_hp L fz1 t I J) := b_L_law_1946 hc hz h
set_option maxRecDepth 100000 in
theorem b_L_law_2026 {d L : Nat} {fz t : Bool} {Q : pm_R → pm_H → Prop} {c z : Nat} {x4 : Int32} {x5 : Int32} {x6 : Int32} {r : Int32} {I : Nat → Nat → Int32} {J : Nat → Nat → Int64} (hc : c ≤ 600000) (hz : z ≤ 7200000)
    (h : ((r = x5 → ((¬ x5 = (nI 0) → t_L_law_2513 d L fz t Q c z x4 I J) ∧ (x5 = (nI 0) → (((lg_cmp (J 117 0) ((x6).toInt64)) = (nI 0) → t_L_law_2513 d L fz t Q c z x4 I J) ∧ (¬ (lg_cmp (J 117 0) ((x6).toInt64)) = (nI 0) → Q (.inl (some (.int (nI 0)))) (pm_hp L fz t I J)))))) ∧ (¬ r = x5 → Q (.inl (some (.int (nI 0)))) (pm_hp L fz t I J)))) :
    t_L_law_2026 d L fz t Q c z x4 x5 x6 r I J := by
  exact pm_go d pm_lcs 400 ⟨fun q0 => ⟨fun q1 => ((((h).1 q0)).1 q1), fun q1 => ⟨(vp_in_nI (by decide : 0 < 1) (by decide) : vp_in (nI 0) 1), ⟨fun q2 => ((((((h).1 q0)).2 q1)).1 q2), fun q2 => ⟨Or.inl rfl, (pm_bt (pm_lr hc hz) ((((((h).1 q0)).2 q1)).2 q2))⟩⟩⟩⟩, fun q0 => ⟨Or.inl rfl, (pm_bt (pm_lr hc hz) ((h).2 q0))⟩⟩
theorem kb_L_law_2026 {d L : Nat} {fz t : Bool} {Q : pm_R → pm_H → Prop} {c z : Nat} {x4 : Int32} {x5 : Int32} {x6 : Int32} {r : Int32} {fz1 : Bool} {I : Nat → Nat → Int32} {J : Nat → Nat → Int64} (hc : c ≤ 600000) (hz : z ≤ 7200000)
    (h : ((r = x5 → ((¬ x5 = (nI 0) → t_L_law_2513 d L fz t Q c z x4 I J) ∧ (x5 = (nI 0) → (((lg_cmp (J 117 0) ((x6).toInt64)) = (nI 0) → t_L_law_2513 d L fz t Q c z x4 I J) ∧ (¬ (lg_cmp (J 117 0) ((x6).toInt64)) = (nI 0) → Q (.inl (some (.int (nI 0)))) (pm_hp L fz t I J)))))) ∧ (¬ r = x5 → Q (.inl (some (.int (nI 0)))) (pm_hp L fz t I J)))) :
    K_L_law_2026 d fz t Q c z x4 x5 x6 (.inl (some (.int r))) (pm_hp L fz1 t I J) := b_L_law_2026 hc hz h
set_option maxRecDepth 100000 in
theorem b_L_law_2094 {d L : Nat} {fz t : Bool} {Q : pm_R → pm_H → Prop} {c z : Nat} {x4 : Int32} {x5 : Int32} {x6 : Int32} {r : Int32} {I : Nat → Nat → Int32} {J : Nat → Nat → Int64} (hc : c ≤ 600000) (hz : z ≤ 7200000)
    (h : ((r = x5 → ((¬ x5 = (nI 0) → t_L_law_2513 d L fz t Q c z x4 I J) ∧ (x5 = (nI 0) → (((lg_cmp (J 117 0) ((x6).toInt64)) = (nI 0) → t_L_law_2513 d L fz t Q c z x4 I J) ∧ (¬ (lg_cmp (J 117 0) ((x6).toInt64)) = (nI 0) → Q (.inl (some (.int (nI 0)))) (pm_hp L fz t I J)))))) ∧ (¬ r = x5 → Q (.inl (some (.int (nI 0)))) (pm_hp L fz t I J)))) :
    t_L_law_2094 d L fz t Q c z x4 x5 x6 r I J := by
  exact pm_go d pm_lcs 400 ⟨fun q0 => ⟨fun q1 => ((((h).1 q0)).1 q1), fun q1 => ⟨(vp_in_nI (by decide : 0 < 1) (by decide) : vp_in (nI 0) 1), ⟨fun q2 => ((((((h).1 q0)).2 q1)).1 q2), fun q2 => ⟨Or.inl rfl, (pm_bt (pm_lr hc hz) ((((((h).1 q0)).2 q1)).2 q2))⟩⟩⟩⟩, fun q0 => ⟨Or.inl rfl, (pm_bt (pm_lr hc hz) ((h).2 q0))⟩⟩
theorem kb_L_law_2094 {d L : Nat} {fz t : Bool} {Q : pm_R → pm_H → Prop} {c z : Nat} {x4 : Int32} {x5 : Int32} {x6 : Int32} {r : Int32} {fz1 : Bool} {I : Nat → Nat → Int32} {J : Nat → Nat → Int64} (hc : c ≤ 600000) (hz : z ≤ 7200000)
    (h : ((r = x5 → ((¬ x5 = (nI 0) → t_L_law_2513 d L fz t Q c z x4 I J) ∧ (x5 = (nI 0) → (((lg_cmp (J 117 0) ((x6).toInt64)) = (nI 0) → t_L_law_2513 d L fz t Q c z x4 I J) ∧ (¬ (lg_cmp (J 117 0) ((x6).toInt64)) = (nI 0) → Q (.inl (some (.int (nI 0)))) (pm_hp L fz t I J)))))) ∧ (¬ r = x5 → Q (.inl (some (.int (nI 0)))) (pm_hp L fz t I J)))) :
    K_L_law_2094 d fz t Q c z x4 x5 x6 (.inl (some (.int r))) (pm_hp L fz1 t I J) := b_L_law_2094 hc hz h
set_option maxRecDepth 100000 in
theorem b_L_law_2162 {d L : Nat} {fz t : Bool} {Q : pm_R → pm_H → Prop} {c z : Nat} {x4 : Int32} {x5 : Int32} {x6 : Int32} {r : Int32} {I : Nat → Nat → Int32} {J : Nat → Nat → Int64} (hc : c ≤ 600000) (hz : z ≤ 7200000)
    (h : ((r = x5 → ((¬ x5 = (nI 0) → t_L_law_2513 d L fz t Q c z x4 I J) ∧ (x5 = (nI 0) → (((lg_cmp (J 117 0) ((x6).toInt64)) = (nI 0) → t_L_law_2513 d L fz t Q c z x4 I J) ∧ (¬ (lg_cmp (J 117 0) ((x6).toInt64)) = (nI 0) → Q (.inl (some (.int (nI 0)))) (pm_hp L fz t I J)))))) ∧ (¬ r = x5 → Q (.inl (some (.int (nI 0)))) (pm_hp L fz t I J)))) :
    t_L_law_2162 d L fz t Q c z x4 x5 x6 r I J := by
  exact pm_go d pm_lcs 400 ⟨fun q0 => ⟨fun q1 => ((((h).1 q0)).1 q1), fun q1 => ⟨(vp_in_nI (by decide : 0 < 1) (by decide) : vp_in (nI 0) 1), ⟨fun q2 => ((((((h).1 q0)).2 q1)).1 q2), fun q2 => ⟨Or.inl rfl, (pm_bt (pm_lr hc hz) ((((((h).1 q0)).2 q1)).2 q2))⟩⟩⟩⟩, fun q0 => ⟨Or.inl rfl, (pm_bt (pm_lr hc hz) ((h).2 q0))⟩⟩
theorem kb_L_law_2162 {d L : Nat} {fz t : Bool} {Q : pm_R → pm_H → Prop} {c z : Nat} {x4 : Int32} {x5 : Int32} {x6 : Int32} {r : Int32} {fz1 : Bool} {I : Nat → Nat → Int32} {J : Nat → Nat → Int64} (hc : c ≤ 600000) (hz : z ≤ 7200000)
    (h : ((r = x5 → ((¬ x5 = (nI 0) → t_L_law_2513 d L fz t Q c z x4 I J) ∧ (x5 = (nI 0) → (((lg_cmp (J 117 0) ((x6).toInt64)) = (nI 0) → t_L_law_2513 d L fz t Q c z x4 I J) ∧ (¬ (lg_cmp (J 117 0) ((x6).toInt64)) = (nI 0) → Q (.inl (some (.int (nI 0)))) (pm_hp L fz t I J)))))) ∧ (¬ r = x5 → Q (.inl (some (.int (nI 0)))) (pm_hp L fz t I J)))) :
    K_L_law_2162 d fz t Q c z x4 x5 x6 (.inl (some (.int r))) (pm_hp L fz1 t I J) := b_L_law_2162 hc hz h
set_option maxRecDepth 100000 in
theorem b_L_law_2218 {d L : Nat} {fz t : Bool} {Q : pm_R → pm_H → Prop} {c z : Nat} {x4 : Int32} {x5 : Int32} {x6 : Int32} {r : Int32} {I : Nat → Nat → Int32} {J : Nat → Nat → Int64} (hc : c ≤ 600000) (hz : z ≤ 7200000)
    (h : ((r = x5 → ((¬ x5 = (nI 0) → t_L_law_2513 d L fz t Q c z x4 I J) ∧ (x5 = (nI 0) → (((lg_cmp (J 117 0) ((x6).toInt64)) = (nI 0) → t_L_law_2513 d L fz t Q c z x4 I J) ∧ (¬ (lg_cmp (J 117 0) ((x6).toInt64)) = (nI 0) → Q (.inl (some (.int (nI 0)))) (pm_hp L fz t I J)))))) ∧ (¬ r = x5 → Q (.inl (some (.int (nI 0)))) (pm_hp L fz t I J)))) :
    t_L_law_2218 d L fz t Q c z x4 x5 x6 r I J := by
  exact pm_go d pm_lcs 400 ⟨fun q0 => ⟨fun q1 => ((((h).1 q0)).1 q1), fun q1 => ⟨(vp_in_nI (by decide : 0 < 1) (by decide) : vp_in (nI 0) 1), ⟨fun q2 => ((((((h).1 q0)).2 q1)).1 q2), fun q2 => ⟨Or.inl rfl, (pm_bt (pm_lr hc hz) ((((((h).1 q0)).2 q1)).2 q2))⟩⟩⟩⟩, fun q0 => ⟨Or.inl rfl, (pm_bt (pm_lr hc hz) ((h).2 q0))⟩⟩
theorem kb_L_law_2218 {d L : Nat} {fz t : Bool} {Q : pm_R → pm_H → Prop} {c z : Nat} {x4 : Int32} {x5 : Int32} {x6 : Int32} {r : Int32} {fz1 : Bool} {I : Nat → Nat → Int32} {J : Nat → Nat → Int64} (hc : c ≤ 600000) (hz : z ≤ 7200000)
    (h : ((r = x5 → ((¬ x5 = (nI 0) → t_L_law_2513 d L fz t Q c z x4 I J) ∧ (x5 = (nI 0) → (((lg_cmp (J 117 0) ((x6).toInt64)) = (nI 0) → t_L_law_2513 d L fz t Q c z x4 I J) ∧ (¬ (lg_cmp (J 117 0) ((x6).toInt64)) = (nI 0) → Q (.inl (some (.int (nI 0)))) (pm_hp L fz t I J)))))) ∧ (¬ r = x5 → Q (.inl (some (.int (nI 0)))) (pm_hp L fz t I J)))) :
    K_L_law_2218 d fz t Q c z x4 x5 x6 (.inl (some (.int r))) (pm_hp L fz1 t I J) := b_L_law_2218 hc hz h
set_option maxRecDepth 100000 in
theorem b_L_law_2274 {d L : Nat} {fz t : Bool} {Q : pm_R → pm_H → Prop} {c z : Nat} {x4 : Int32} {x5 : Int32} {x6 : Int32} {r : Int32} {I : Nat → Nat → Int32} {J : Nat → Nat → Int64} (hc : c ≤ 600000) (hz : z ≤ 7200000)
    (h : ((r = x5 → ((¬ x5 = (nI 0) → t_L_law_2513 d L fz t Q c z x4 I J) ∧ (x5 = (nI 0) → (((lg_cmp (J 117 0) ((x6).toInt64)) = (nI 0) → t_L_law_2513 d L fz t Q c z x4 I J) ∧ (¬ (lg_cmp (J 117 0) ((x6).toInt64)) = (nI 0) → Q (.inl (some (.int (nI 0)))) (pm_hp L fz t I J)))))) ∧ (¬ r = x5 → Q (.inl (some (.int (nI 0)))) (pm_hp L fz t I J)))) :
    t_L_law_2274 d L fz t Q c z x4 x5 x6 r I J := by
  exact pm_go d pm_lcs 400 ⟨fun q0 => ⟨fun q1 => ((((h).1 q0)).1 q1), fun q1 => ⟨(vp_in_nI (by decide : 0 < 1) (by decide) : vp_in (nI 0) 1), ⟨fun q2 => ((((((h).1 q0)).2 q1)).1 q2), fun q2 => ⟨Or.inl rfl, (pm_bt (pm_lr hc hz) ((((((h).1 q0)).2 q1)).2 q2))⟩⟩⟩⟩, fun q0 => ⟨Or.inl rfl, (pm_bt (pm_lr hc hz) ((h).2 q0))⟩⟩
theorem kb_L_law_2274 {d L : Nat} {fz t : Bool} {Q : pm_R → pm_H → Prop} {c z : Nat} {x4 : Int32} {x5 : Int32} {x6 : Int32} {r : Int32} {fz1 : Bool} {I : Nat → Nat → Int32} {J : Nat → Nat → Int64} (hc : c ≤ 600000) (hz : z ≤ 7200000)
    (h : ((r = x5 → ((¬ x5 = (nI 0) → t_L_law_2513 d L fz t Q c z x4 I J) ∧ (x5 = (nI 0) → (((lg_cmp (J 117 0) ((x6).toInt64)) = (nI 0) → t_L_law_2513 d L fz t Q c z x4 I J) ∧ (¬ (lg_cmp (J 117 0) ((x6).toInt64)) = (nI 0) → Q (.inl (some (.int (nI 0)))) (pm_hp L fz t I J)))))) ∧ (¬ r = x5 → Q (.inl (some (.int (nI 0)))) (pm_hp L fz t I J)))) :
    K_L_law_2274 d fz t Q c z x4 x5 x6 (.inl (some (.int r))) (pm_hp L fz1 t I J) := b_L_law_2274 hc hz h
set_option maxRecDepth 100000 in
theorem b_L_law_2330 {d L : Nat} {fz t : Bool} {Q : pm_R → pm_H → Prop} {c z : Nat} {x4 : Int32} {x5 : Int32} {x6 : Int32} {r : Int32} {I : Nat → Nat → Int32} {J : Nat → Nat → Int64} (hc : c ≤ 600000) (hz : z ≤ 7200000)
    (h : ((r = x5 → ((¬ x5 = (nI 0) → t_L_law_2513 d L fz t Q c z x4 I J) ∧ (x5 = (nI 0) → (((lg_cmp (J 117 0) ((x6).toInt64)) = (nI 0) → t_L_law_2513 d L fz t Q c z x4 I J) ∧ (¬ (lg_cmp (J 117 0) ((x6).toInt64)) = (nI 0) → Q (.inl (some (.int (nI 0)))) (pm_hp L fz t I J)))))) ∧ (¬ r = x5 → Q (.inl (some (.int (nI 0)))) (pm_hp L fz t I J)))) :
    t_L_law_2330 d L fz t Q c z x4 x5 x6 r I J := by
  exact pm_go d pm_lcs 400 ⟨fun q0 => ⟨fun q1 => ((((h).1 q0)).1 q1), fun q1 => ⟨(vp_in_nI (by decide : 0 < 1) (by decide) : vp_in (nI 0) 1), ⟨fun q2 => ((((((h).1 q0)).2 q1)).1 q2), fun q2 => ⟨Or.inl rfl, (pm_bt (pm_lr hc hz) ((((((h).1 q0)).2 q1)).2 q2))⟩⟩⟩⟩, fun q0 => ⟨Or.inl rfl, (pm_bt (pm_lr hc hz) ((h).2 q0))⟩⟩
theorem kb_L_law_2330 {d L : Nat} {fz t : Bool} {Q : pm_R → pm_H → Prop} {c z : Nat} {x4 : Int32} {x5 : Int32} {x6 : Int32} {r : Int32} {fz1 : Bool} {I : Nat → Nat → Int32} {J : Nat → Nat → Int64} (hc : c ≤ 600000) (hz : z ≤ 7200000)
    (h : ((r = x5 → ((¬ x5 = (nI 0) → t_L_law_2513 d L fz t Q c z x4 I J) ∧ (x5 = (nI 0) → (((lg_cmp (J 117 0) ((x6).toInt64)) = (nI 0) → t_L_law_2513 d L fz t Q c z x4 I J) ∧ (¬ (lg_cmp (J 117 0) ((x6).toInt64)) = (nI 0) → Q (.inl (some (.int (nI 0)))) (pm_hp L fz t I J)))))) ∧ (¬ r = x5 → Q (.inl (some (.int (nI 0)))) (pm_hp L fz t I J)))) :
    K_L_law_2330 d fz t Q c z x4 x5 x6 (.inl (some (.int r))) (pm_hp L fz1 t I J) := b_L_law_2330 hc hz h
set_option maxRecDepth 100000 in
theorem b_L_law_2386 {d L : Nat} {fz t : Bool} {Q : pm_R → pm_H → Prop} {c z : Nat} {x4 : Int32} {x5 : Int32} {x6 : Int32} {r : Int32} {I : Nat → Nat → Int32} {J : Nat → Nat → Int64} (hc : c ≤ 600000) (hz : z ≤ 7200000)
    (h : ((r = x5 → ((¬ x5 = (nI 0) → t_L_law_2513 d L fz t Q c z x4 I J) ∧ (x5 = (nI 0) → (((lg_cmp (J 117 0) ((x6).toInt64)) = (nI 0) → t_L_law_2513 d L fz t Q c z x4 I J) ∧ (¬ (lg_cmp (J 117 0) ((x6).toInt64)) = (nI 0) → Q (.inl (some (.int (nI 0)))) (pm_hp L fz t I J)))))) ∧ (¬ r = x5 → Q (.inl (some (.int (nI 0)))) (pm_hp L fz t I J)))) :
    t_L_law_2386 d L fz t Q c z x4 x5 x6 r I J := by
  exact pm_go d pm_lcs 400 ⟨fun q0 => ⟨fun q1 => ((((h).1 q0)).1 q1), fun q1 => ⟨(vp_in_nI (by decide : 0 < 1) (by decide) : vp_in (nI 0) 1), ⟨fun q2 => ((((((h).1 q0)).2 q1)).1 q2), fun q2 => ⟨Or.inl rfl, (pm_bt (pm_lr hc hz) ((((((h).1 q0)).2 q1)).2 q2))⟩⟩⟩⟩, fun q0 => ⟨Or.inl rfl, (pm_bt (pm_lr hc hz) ((h).2 q0))⟩⟩
theorem kb_L_law_2386 {d L : Nat} {fz t : Bool} {Q : pm_R → pm_H → Prop} {c z : Nat} {x4 : Int32} {x5 : Int32} {x6 : Int32} {r : Int32} {fz1 : Bool} {I : Nat → Nat → Int32} {J : Nat → Nat → Int64} (hc : c ≤ 600000) (hz : z ≤ 7200000)
    (h : ((r = x5 → ((¬ x5 = (nI 0) → t_L_law_2513 d L fz t Q c z x4 I J) ∧ (x5 = (nI 0) → (((lg_cmp (J 117 0) ((x6).toInt64)) = (nI 0) → t_L_law_2513 d L fz t Q c z x4 I J) ∧ (¬ (lg_cmp (J 117 0) ((x6).toInt64)) = (nI 0) → Q (.inl (some (.int (nI 0)))) (pm_hp L fz t I J)))))) ∧ (¬ r = x5 → Q (.inl (some (.int (nI 0)))) (pm_hp L fz t I J)))) :
    K_L_law_2386 d fz t Q c z x4 x5 x6 (.inl (some (.int r))) (pm_hp L fz1 t I J) := b_L_law_2386 hc hz h
set_option maxRecDepth 100000 in
theorem b_L_law_2442 {d L : Nat} {fz t : Bool} {Q : pm_R → pm_H → Prop} {c z : Nat} {x4 : Int32} {x5 : Int32} {x6 : Int32} {r : Int32} {I : Nat → Nat → Int32} {J : Nat → Nat → Int64} (hc : c ≤ 600000) (hz : z ≤ 7200000)
    (h : ((r = x5 → ((¬ x5 = (nI 0) → t_L_law_2513 d L fz t Q c z x4 I J) ∧ (x5 = (nI 0) → ((x6 = (nI 0) → (((lg_cmp (J 117 0) (Int64.ofNat 0)) = (nI 0) → t_L_law_2513 d L fz t Q c z x4 I J) ∧ (¬ (lg_cmp (J 117 0) (Int64.ofNat 0)) = (nI 0) → Q (.inl (some (.int (nI 0)))) (pm_hp L fz t I J)))) ∧ (¬ x6 = (nI 0) → (((lg_cmp (J 117 0) (Int64.ofNat 1)) = (nI 0) → t_L_law_2513 d L fz t Q c z x4 I J) ∧ (¬ (lg_cmp (J 117 0) (Int64.ofNat 1)) = (nI 0) → Q (.inl (some (.int (nI 0)))) (pm_hp L fz t I J)))))))) ∧ (¬ r = x5 → Q (.inl (some (.int (nI 0)))) (pm_hp L fz t I J)))) :
    t_L_law_2442 d L fz t Q c z x4 x5 x6 r I J := by
  exact pm_go d pm_lcs 400 ⟨fun q0 => ⟨fun q1 => ((((h).1 q0)).1 q1), fun q1 => ⟨(vp_in_nI (by decide : 0 < 1) (by decide) : vp_in (nI 0) 1), ⟨fun q2 => ⟨fun q3 => ((((((((h).1 q0)).2 q1)).1 q2)).1 q3), fun q3 => ⟨Or.inl rfl, (pm_bt (pm_lr hc hz) ((((((((h).1 q0)).2 q1)).1 q2)).2 q3))⟩⟩, fun q2 => ⟨fun q3 => ((((((((h).1 q0)).2 q1)).2 q2)).1 q3), fun q3 => ⟨Or.inl rfl, (pm_bt (pm_lr hc hz) ((((((((h).1 q0)).2 q1)).2 q2)).2 q3))⟩⟩⟩⟩⟩, fun q0 => ⟨Or.inl rfl, (pm_bt (pm_lr hc hz) ((h).2 q0))⟩⟩
theorem kb_L_law_2442 {d L : Nat} {fz t : Bool} {Q : pm_R → pm_H → Prop} {c z : Nat} {x4 : Int32} {x5 : Int32} {x6 : Int32} {r : Int32} {fz1 : Bool} {I : Nat → Nat → Int32} {J : Nat → Nat → Int64} (hc : c ≤ 600000) (hz : z ≤ 7200000)
    (h : ((r = x5 → ((¬ x5 = (nI 0) → t_L_law_2513 d L fz t Q c z x4 I J) ∧ (x5 = (nI 0) → ((x6 = (nI 0) → (((lg_cmp (J 117 0) (Int64.ofNat 0)) = (nI 0) → t_L_law_2513 d L fz t Q c z x4 I J) ∧ (¬ (lg_cmp (J 117 0) (Int64.ofNat 0)) = (nI 0) → Q (.inl (some (.int (nI 0)))) (pm_hp L fz t I J)))) ∧ (¬ x6 = (nI 0) → (((lg_cmp (J 117 0) (Int64.ofNat 1)) = (nI 0) → t_L_law_2513 d L fz t Q c z x4 I J) ∧ (¬ (lg_cmp (J 117 0) (Int64.ofNat 1)) = (nI 0) → Q (.inl (some (.int (nI 0)))) (pm_hp L fz t I J)))))))) ∧ (¬ r = x5 → Q (.inl (some (.int (nI 0)))) (pm_hp L fz t I J)))) :
    K_L_law_2442 d fz t Q c z x4 x5 x6 (.inl (some (.int r))) (pm_hp L fz1 t I J) := b_L_law_2442 hc hz h
