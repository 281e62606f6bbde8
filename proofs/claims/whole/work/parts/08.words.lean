theorem zin_of {ws : List Cond} (ps : List Nat) (hp : ws = ps.filterMap (fun i => lw_tbl[i]?)) (h : ws.all goodWord = true) : ∀ w ∈ ws, w ∈ zUU := by
  intro w hw
  have h1 := List.all_eq_true.mp h w hw
  rw [hp] at hw
  obtain ⟨i, -, hi⟩ := List.mem_filterMap.mp hw
  exact zuu i hi h1
theorem zut1 {w : Cond} {j : Nat} (hj : tables_1_1[j]? = some w) (hg : goodWord w = true) : w ∈ zUU := by
  have h := List.mem_of_getElem? hj
  exact List.mem_filter.mpr ⟨List.mem_append_right _ (List.mem_append_left _ h), hg⟩
theorem zus1 {y : MethodName} {n j : Nat} (hj : lw_privs_1[j]? = some (y, n)) : Cond.selects y.cls y y ∈ zUU := by
  have h := List.mem_of_getElem? hj
  exact List.mem_filter.mpr ⟨List.mem_append_left _ (List.mem_map.mpr ⟨(y, n), List.mem_append_left _ h, rfl⟩), rfl⟩
theorem zut2 {w : Cond} {j : Nat} (hj : tables_1_2[j]? = some w) (hg : goodWord w = true) : w ∈ zUU := by
  have h := List.mem_of_getElem? hj
  exact List.mem_filter.mpr ⟨List.mem_append_right _ (List.mem_append_right _ (List.mem_append_left _ h)), hg⟩
theorem zus2 {y : MethodName} {n j : Nat} (hj : lw_privs_2[j]? = some (y, n)) : Cond.selects y.cls y y ∈ zUU := by
  have h := List.mem_of_getElem? hj
  exact List.mem_filter.mpr ⟨List.mem_append_left _ (List.mem_map.mpr ⟨(y, n), List.mem_append_right _ (List.mem_append_left _ h), rfl⟩), rfl⟩
theorem zut3 {w : Cond} {j : Nat} (hj : tables_1_3[j]? = some w) (hg : goodWord w = true) : w ∈ zUU := by
  have h := List.mem_of_getElem? hj
  exact List.mem_filter.mpr ⟨List.mem_append_right _ (List.mem_append_right _ (List.mem_append_right _ (List.mem_append_left _ h))), hg⟩
theorem zus3 {y : MethodName} {n j : Nat} (hj : lw_privs_3[j]? = some (y, n)) : Cond.selects y.cls y y ∈ zUU := by
  have h := List.mem_of_getElem? hj
  exact List.mem_filter.mpr ⟨List.mem_append_left _ (List.mem_map.mpr ⟨(y, n), List.mem_append_right _ (List.mem_append_right _ (List.mem_append_left _ h)), rfl⟩), rfl⟩
theorem zut4 {w : Cond} {j : Nat} (hj : tables_1_4[j]? = some w) (hg : goodWord w = true) : w ∈ zUU := by
  have h := List.mem_of_getElem? hj
  exact List.mem_filter.mpr ⟨List.mem_append_right _ (List.mem_append_right _ (List.mem_append_right _ (List.mem_append_right _ (List.mem_append_left _ h)))), hg⟩
theorem zus4 {y : MethodName} {n j : Nat} (hj : lw_privs_4[j]? = some (y, n)) : Cond.selects y.cls y y ∈ zUU := by
  have h := List.mem_of_getElem? hj
  exact List.mem_filter.mpr ⟨List.mem_append_left _ (List.mem_map.mpr ⟨(y, n), List.mem_append_right _ (List.mem_append_right _ (List.mem_append_right _ (List.mem_append_left _ h))), rfl⟩), rfl⟩
theorem zut5 {w : Cond} {j : Nat} (hj : tables_1_5[j]? = some w) (hg : goodWord w = true) : w ∈ zUU := by
  have h := List.mem_of_getElem? hj
  exact List.mem_filter.mpr ⟨List.mem_append_right _ (List.mem_append_right _ (List.mem_append_right _ (List.mem_append_right _ (List.mem_append_right _ (List.mem_append_left _ h))))), hg⟩
theorem zus5 {y : MethodName} {n j : Nat} (hj : lw_privs_5[j]? = some (y, n)) : Cond.selects y.cls y y ∈ zUU := by
  have h := List.mem_of_getElem? hj
  exact List.mem_filter.mpr ⟨List.mem_append_left _ (List.mem_map.mpr ⟨(y, n), List.mem_append_right _ (List.mem_append_right _ (List.mem_append_right _ (List.mem_append_right _ (List.mem_append_left _ h)))), rfl⟩), rfl⟩
theorem zut6 {w : Cond} {j : Nat} (hj : tables_1_6[j]? = some w) (hg : goodWord w = true) : w ∈ zUU := by
  have h := List.mem_of_getElem? hj
  exact List.mem_filter.mpr ⟨List.mem_append_right _ (List.mem_append_right _ (List.mem_append_right _ (List.mem_append_right _ (List.mem_append_right _ (List.mem_append_right _ (List.mem_append_left _ h)))))), hg⟩
theorem zus6 {y : MethodName} {n j : Nat} (hj : lw_privs_6[j]? = some (y, n)) : Cond.selects y.cls y y ∈ zUU := by
  have h := List.mem_of_getElem? hj
  exact List.mem_filter.mpr ⟨List.mem_append_left _ (List.mem_map.mpr ⟨(y, n), List.mem_append_right _ (List.mem_append_right _ (List.mem_append_right _ (List.mem_append_right _ (List.mem_append_right _ (List.mem_append_left _ h))))), rfl⟩), rfl⟩
theorem zut7 {w : Cond} {j : Nat} (hj : tables_1_7[j]? = some w) (hg : goodWord w = true) : w ∈ zUU := by
  have h := List.mem_of_getElem? hj
  exact List.mem_filter.mpr ⟨List.mem_append_right _ (List.mem_append_right _ (List.mem_append_right _ (List.mem_append_right _ (List.mem_append_right _ (List.mem_append_right _ (List.mem_append_right _ (List.mem_append_left _ h))))))), hg⟩
theorem zus7 {y : MethodName} {n j : Nat} (hj : lw_privs_7[j]? = some (y, n)) : Cond.selects y.cls y y ∈ zUU := by
  have h := List.mem_of_getElem? hj
  exact List.mem_filter.mpr ⟨List.mem_append_left _ (List.mem_map.mpr ⟨(y, n), List.mem_append_right _ (List.mem_append_right _ (List.mem_append_right _ (List.mem_append_right _ (List.mem_append_right _ (List.mem_append_right _ (List.mem_append_left _ h)))))), rfl⟩), rfl⟩
theorem zut8 {w : Cond} {j : Nat} (hj : tables_1_8[j]? = some w) (hg : goodWord w = true) : w ∈ zUU := by
  have h := List.mem_of_getElem? hj
  exact List.mem_filter.mpr ⟨List.mem_append_right _ (List.mem_append_right _ (List.mem_append_right _ (List.mem_append_right _ (List.mem_append_right _ (List.mem_append_right _ (List.mem_append_right _ (List.mem_append_right _ (List.mem_append_left _ h)))))))), hg⟩
theorem zus8 {y : MethodName} {n j : Nat} (hj : lw_privs_8[j]? = some (y, n)) : Cond.selects y.cls y y ∈ zUU := by
  have h := List.mem_of_getElem? hj
  exact List.mem_filter.mpr ⟨List.mem_append_left _ (List.mem_map.mpr ⟨(y, n), List.mem_append_right _ (List.mem_append_right _ (List.mem_append_right _ (List.mem_append_right _ (List.mem_append_right _ (List.mem_append_right _ (List.mem_append_right _ (List.mem_append_left _ h))))))), rfl⟩), rfl⟩
theorem zut9 {w : Cond} {j : Nat} (hj : tables_1_9[j]? = some w) (hg : goodWord w = true) : w ∈ zUU := by
  have h := List.mem_of_getElem? hj
  exact List.mem_filter.mpr ⟨List.mem_append_right _ (List.mem_append_right _ (List.mem_append_right _ (List.mem_append_right _ (List.mem_append_right _ (List.mem_append_right _ (List.mem_append_right _ (List.mem_append_right _ (List.mem_append_right _ (List.mem_append_left _ h))))))))), hg⟩
theorem zus9 {y : MethodName} {n j : Nat} (hj : lw_privs_9[j]? = some (y, n)) : Cond.selects y.cls y y ∈ zUU := by
  have h := List.mem_of_getElem? hj
  exact List.mem_filter.mpr ⟨List.mem_append_left _ (List.mem_map.mpr ⟨(y, n), List.mem_append_right _ (List.mem_append_right _ (List.mem_append_right _ (List.mem_append_right _ (List.mem_append_right _ (List.mem_append_right _ (List.mem_append_right _ (List.mem_append_right _ (List.mem_append_left _ h)))))))), rfl⟩), rfl⟩
theorem zut10 {w : Cond} {j : Nat} (hj : tables_1_10[j]? = some w) (hg : goodWord w = true) : w ∈ zUU := by
  have h := List.mem_of_getElem? hj
  exact List.mem_filter.mpr ⟨List.mem_append_right _ (List.mem_append_right _ (List.mem_append_right _ (List.mem_append_right _ (List.mem_append_right _ (List.mem_append_right _ (List.mem_append_right _ (List.mem_append_right _ (List.mem_append_right _ (List.mem_append_right _ (List.mem_append_left _ h)))))))))), hg⟩
theorem zus10 {y : MethodName} {n j : Nat} (hj : lw_privs_10[j]? = some (y, n)) : Cond.selects y.cls y y ∈ zUU := by
  have h := List.mem_of_getElem? hj
  exact List.mem_filter.mpr ⟨List.mem_append_left _ (List.mem_map.mpr ⟨(y, n), List.mem_append_right _ (List.mem_append_right _ (List.mem_append_right _ (List.mem_append_right _ (List.mem_append_right _ (List.mem_append_right _ (List.mem_append_right _ (List.mem_append_right _ (List.mem_append_right _ (List.mem_append_left _ h))))))))), rfl⟩), rfl⟩
theorem zut11 {w : Cond} {j : Nat} (hj : tables_1_11[j]? = some w) (hg : goodWord w = true) : w ∈ zUU := by
  have h := List.mem_of_getElem? hj
  exact List.mem_filter.mpr ⟨List.mem_append_right _ (List.mem_append_right _ (List.mem_append_right _ (List.mem_append_right _ (List.mem_append_right _ (List.mem_append_right _ (List.mem_append_right _ (List.mem_append_right _ (List.mem_append_right _ (List.mem_append_right _ (List.mem_append_right _ (h))))))))))), hg⟩
theorem zus11 {y : MethodName} {n j : Nat} (hj : lw_privs_11[j]? = some (y, n)) : Cond.selects y.cls y y ∈ zUU := by
  have h := List.mem_of_getElem? hj
  exact List.mem_filter.mpr ⟨List.mem_append_left _ (List.mem_map.mpr ⟨(y, n), List.mem_append_right _ (List.mem_append_right _ (List.mem_append_right _ (List.mem_append_right _ (List.mem_append_right _ (List.mem_append_right _ (List.mem_append_right _ (List.mem_append_right _ (List.mem_append_right _ (List.mem_append_right _ (h)))))))))), rfl⟩), rfl⟩
set_option maxRecDepth 100000 in
theorem zin0 : ∀ w ∈ u_ws RX0 TX0 11, w ∈ zUU := zin_of [355, 357, 359, 361, 363, 365, 367, 369, 371, 373, 375] (by decide +kernel) (by decide +kernel)
set_option maxRecDepth 100000 in
theorem zc0 : zCls 0 RX0 TX0 11 tyX0 := ⟨by decide, rfl, by decide +kernel, zin0, tyX0_ok, nmX0, by decide +kernel⟩
set_option maxRecDepth 100000 in
theorem zin1 : ∀ w ∈ u_ws RX1 TX1 1, w ∈ zUU := zin_of [625] (by decide +kernel) (by decide +kernel)
set_option maxRecDepth 100000 in
theorem zc1 : zCls 1 RX1 TX1 1 tyX1 := ⟨by decide, rfl, by decide +kernel, zin1, tyX1_ok, nmX1, by decide +kernel⟩
set_option maxRecDepth 100000 in
theorem zin2 : ∀ w ∈ u_ws RX2 TX2 13, w ∈ zUU := zin_of [238, 240, 242, 244, 246, 248, 250, 252, 254, 256, 258, 260, 262] (by decide +kernel) (by decide +kernel)
set_option maxRecDepth 100000 in
theorem zc2 : zCls 2 RX2 TX2 13 tyX2 := ⟨by decide, rfl, by decide +kernel, zin2, tyX2_ok, nmX2, by decide +kernel⟩
set_option maxRecDepth 100000 in
theorem zin3 : ∀ w ∈ u_ws RX3 TX3 2, w ∈ zUU := zin_of [339, 341] (by decide +kernel) (by decide +kernel)
set_option maxRecDepth 100000 in
theorem zc3 : zCls 3 RX3 TX3 2 tyX3 := ⟨by decide, rfl, by decide +kernel, zin3, tyX3_ok, nmX3, by decide +kernel⟩
set_option maxRecDepth 100000 in
theorem zin4 : ∀ w ∈ u_ws RX4 TX4 12, w ∈ zUU := zin_of [526, 528, 530, 532, 534, 536, 538, 540, 542, 544, 546, 548] (by decide +kernel) (by decide +kernel)
set_option maxRecDepth 100000 in
theorem zc4 : zCls 4 RX4 TX4 12 tyX4 := ⟨by decide, rfl, by decide +kernel, zin4, tyX4_ok, nmX4, by decide +kernel⟩
set_option maxRecDepth 100000 in
theorem zin5 : ∀ w ∈ u_ws RX5 TX5 3, w ∈ zUU := zin_of [638, 640, 642] (by decide +kernel) (by decide +kernel)
set_option maxRecDepth 100000 in
theorem zc5 : zCls 5 RX5 TX5 3 tyX5 := ⟨by decide, rfl, by decide +kernel, zin5, tyX5_ok, nmX5, by decide +kernel⟩
set_option maxRecDepth 100000 in
theorem zin6 : ∀ w ∈ u_ws RX6 TX6 10, w ∈ zUU := zin_of [597, 599, 601, 603, 605, 607, 609, 611, 613, 615] (by decide +kernel) (by decide +kernel)
set_option maxRecDepth 100000 in
theorem zc6 : zCls 6 RX6 TX6 10 tyX6 := ⟨by decide, rfl, by decide +kernel, zin6, tyX6_ok, nmX6, by decide +kernel⟩
set_option maxRecDepth 100000 in
theorem zin7 : ∀ w ∈ u_ws RX7 TX7 16, w ∈ zUU := zin_of [445, 447, 449, 451, 453, 455, 457, 459, 461, 463, 465, 467, 469, 471, 473, 475] (by decide +kernel) (by decide +kernel)
set_option maxRecDepth 100000 in
theorem zc7 : zCls 7 RX7 TX7 16 tyX7 := ⟨by decide, rfl, by decide +kernel, zin7, tyX7_ok, nmX7, by decide +kernel⟩
set_option maxRecDepth 100000 in
theorem zin8 : ∀ w ∈ u_ws RX8 TX8 8, w ∈ zUU := zin_of [563, 565, 567, 569, 571, 573, 575, 577] (by decide +kernel) (by decide +kernel)
set_option maxRecDepth 100000 in
theorem zc8 : zCls 8 RX8 TX8 8 tyX8 := ⟨by decide, rfl, by decide +kernel, zin8, tyX8_ok, nmX8, by decide +kernel⟩
set_option maxRecDepth 100000 in
theorem zin9 : ∀ w ∈ u_ws RX9 TX9 3, w ∈ zUU := zin_of [397, 399, 401] (by decide +kernel) (by decide +kernel)
set_option maxRecDepth 100000 in
theorem zc9 : zCls 9 RX9 TX9 3 tyX9 := ⟨by decide, rfl, by decide +kernel, zin9, tyX9_ok, nmX9, by decide +kernel⟩
set_option maxRecDepth 100000 in
theorem zin10 : ∀ w ∈ u_ws RX10 TX10 10, w ∈ zUU := zin_of [298, 300, 302, 304, 306, 308, 310, 312, 314, 316] (by decide +kernel) (by decide +kernel)
set_option maxRecDepth 100000 in
theorem zc10 : zCls 10 RX10 TX10 10 tyX10 := ⟨by decide, rfl, by decide +kernel, zin10, tyX10_ok, nmX10, by decide +kernel⟩
set_option maxRecDepth 100000 in
theorem zin11 : ∀ w ∈ u_ws RX11 TX11 17, w ∈ zUU := zin_of [667, 669, 671, 673, 675, 677, 679, 681, 683, 685, 687, 689, 691, 693, 695, 697, 699] (by decide +kernel) (by decide +kernel)
set_option maxRecDepth 100000 in
theorem zc11 : zCls 11 RX11 TX11 17 tyX11 := ⟨by decide, rfl, by decide +kernel, zin11, tyX11_ok, nmX11, by decide +kernel⟩
set_option maxRecDepth 100000 in
theorem zin12 : ∀ w ∈ u_ws RX12 TX12 90, w ∈ zUU := zin_of [1777, 1779, 1781, 1783, 1785, 1787, 1789, 1791, 1793, 1795, 1797, 1799, 1801, 1803, 1805, 1807, 1809, 1811, 1813, 1815, 1817, 1819, 1821, 1823, 1825, 1827, 1829, 1831, 1833, 1835, 1837, 1839, 1841, 1843, 1845, 1847, 1849, 1851, 1853, 1855, 1857, 1859, 1861, 1863, 1865, 1867, 1869, 1871, 1873, 1875, 1877, 1879, 1881, 1883, 1885, 1887, 1889, 1891, 1893, 1895, 1897, 1899, 1901, 1903, 1905, 1907, 1909, 1911, 1913, 1915, 1917, 1919, 1921, 1923, 1925, 1927, 1929, 1931, 1933, 1935, 1937, 1939, 1941, 1943, 1945, 1947, 1949, 1951, 1953, 1955] (by decide +kernel) (by decide +kernel)
set_option maxRecDepth 100000 in
theorem zc12 : zCls 12 RX12 TX12 90 tyX12 := ⟨by decide, rfl, by decide +kernel, zin12, tyX12_ok, nmX12, by decide +kernel⟩
theorem fX2_9 : zFL RX2 9 2 0 := ⟨RX2, TX2, 13, tyX2, zc2, by decide, zut1 (j := 43) rfl rfl⟩
theorem fX4_62 : zFL RX4 62 2 0 := ⟨RX2, TX2, 13, tyX2, zc2, by decide, zut1 (j := 44) rfl rfl⟩
theorem fX2_15 : zFL RX2 15 2 1 := ⟨RX2, TX2, 13, tyX2, zc2, by decide, zut1 (j := 45) rfl rfl⟩
theorem fX4_69 : zFL RX4 69 2 1 := ⟨RX2, TX2, 13, tyX2, zc2, by decide, zut1 (j := 46) rfl rfl⟩
theorem fX2_18 : zFL RX2 18 2 2 := ⟨RX2, TX2, 13, tyX2, zc2, by decide, zut1 (j := 47) rfl rfl⟩
theorem fX2_22 : zFL RX2 22 2 3 := ⟨RX2, TX2, 13, tyX2, zc2, by decide, zut1 (j := 48) rfl rfl⟩
theorem fX4_70 : zFL RX4 70 2 3 := ⟨RX2, TX2, 13, tyX2, zc2, by decide, zut1 (j := 49) rfl rfl⟩
theorem fX2_25 : zFL RX2 25 2 4 := ⟨RX2, TX2, 13, tyX2, zc2, by decide, zut1 (j := 50) rfl rfl⟩
theorem fX4_71 : zFL RX4 71 2 4 := ⟨RX2, TX2, 13, tyX2, zc2, by decide, zut1 (j := 51) rfl rfl⟩
theorem fX2_28 : zFL RX2 28 2 5 := ⟨RX2, TX2, 13, tyX2, zc2, by decide, zut1 (j := 52) rfl rfl⟩
theorem fX4_97 : zFL RX4 97 2 5 := ⟨RX2, TX2, 13, tyX2, zc2, by decide, zut1 (j := 53) rfl rfl⟩
theorem fX6_76 : zFL RX6 76 2 5 := ⟨RX2, TX2, 13, tyX2, zc2, by decide, zut1 (j := 54) rfl rfl⟩
theorem fX2_31 : zFL RX2 31 2 6 := ⟨RX2, TX2, 13, tyX2, zc2, by decide, zut1 (j := 55) rfl rfl⟩
theorem fX2_34 : zFL RX2 34 2 7 := ⟨RX2, TX2, 13, tyX2, zc2, by decide, zut1 (j := 56) rfl rfl⟩
theorem gX2_34 : zFW RX2 34 2 7 .int := ⟨RX2, TX2, 13, tyX2, zc2, by decide, zut1 (j := 56) rfl rfl, rfl, rfl⟩
theorem fX4_44 : zFL RX4 44 2 7 := ⟨RX2, TX2, 13, tyX2, zc2, by decide, zut1 (j := 57) rfl rfl⟩
theorem gX4_44 : zFW RX4 44 2 7 .int := ⟨RX2, TX2, 13, tyX2, zc2, by decide, zut1 (j := 57) rfl rfl, rfl, rfl⟩
theorem fX6_56 : zFL RX6 56 2 7 := ⟨RX2, TX2, 13, tyX2, zc2, by decide, zut1 (j := 58) rfl rfl⟩
theorem gX6_56 : zFW RX6 56 2 7 .int := ⟨RX2, TX2, 13, tyX2, zc2, by decide, zut1 (j := 58) rfl rfl, rfl, rfl⟩
theorem fX8_151 : zFL RX8 151 2 7 := ⟨RX2, TX2, 13, tyX2, zc2, by decide, zut1 (j := 59) rfl rfl⟩
theorem gX8_151 : zFW RX8 151 2 7 .int := ⟨RX2, TX2, 13, tyX2, zc2, by decide, zut1 (j := 59) rfl rfl, rfl, rfl⟩
theorem fX2_38 : zFL RX2 38 2 8 := ⟨RX2, TX2, 13, tyX2, zc2, by decide, zut1 (j := 60) rfl rfl⟩
theorem gX2_38 : zFW RX2 38 2 8 .long := ⟨RX2, TX2, 13, tyX2, zc2, by decide, zut1 (j := 60) rfl rfl, rfl, rfl⟩
theorem fX4_49 : zFL RX4 49 2 8 := ⟨RX2, TX2, 13, tyX2, zc2, by decide, zut1 (j := 61) rfl rfl⟩
theorem gX4_49 : zFW RX4 49 2 8 .long := ⟨RX2, TX2, 13, tyX2, zc2, by decide, zut1 (j := 61) rfl rfl, rfl, rfl⟩
theorem fX6_72 : zFL RX6 72 2 8 := ⟨RX2, TX2, 13, tyX2, zc2, by decide, zut1 (j := 62) rfl rfl⟩
theorem gX6_72 : zFW RX6 72 2 8 .long := ⟨RX2, TX2, 13, tyX2, zc2, by decide, zut1 (j := 62) rfl rfl, rfl, rfl⟩
theorem fX8_144 : zFL RX8 144 2 8 := ⟨RX2, TX2, 13, tyX2, zc2, by decide, zut1 (j := 63) rfl rfl⟩
theorem gX8_144 : zFW RX8 144 2 8 .long := ⟨RX2, TX2, 13, tyX2, zc2, by decide, zut1 (j := 63) rfl rfl, rfl, rfl⟩
theorem fX11_348 : zFL RX11 348 2 8 := ⟨RX2, TX2, 13, tyX2, zc2, by decide, zut1 (j := 64) rfl rfl⟩
theorem gX11_348 : zFW RX11 348 2 8 .long := ⟨RX2, TX2, 13, tyX2, zc2, by decide, zut1 (j := 64) rfl rfl, rfl, rfl⟩
theorem fX2_42 : zFL RX2 42 2 9 := ⟨RX2, TX2, 13, tyX2, zc2, by decide, zut1 (j := 65) rfl rfl⟩
theorem gX2_42 : zFW RX2 42 2 9 .int := ⟨RX2, TX2, 13, tyX2, zc2, by decide, zut1 (j := 65) rfl rfl, rfl, rfl⟩
theorem fX4_54 : zFL RX4 54 2 9 := ⟨RX2, TX2, 13, tyX2, zc2, by decide, zut1 (j := 66) rfl rfl⟩
theorem gX4_54 : zFW RX4 54 2 9 .int := ⟨RX2, TX2, 13, tyX2, zc2, by decide, zut1 (j := 66) rfl rfl, rfl, rfl⟩
theorem fX8_123 : zFL RX8 123 2 9 := ⟨RX2, TX2, 13, tyX2, zc2, by decide, zut1 (j := 67) rfl rfl⟩
theorem gX8_123 : zFW RX8 123 2 9 .int := ⟨RX2, TX2, 13, tyX2, zc2, by decide, zut1 (j := 67) rfl rfl, rfl, rfl⟩
theorem fX2_45 : zFL RX2 45 2 10 := ⟨RX2, TX2, 13, tyX2, zc2, by decide, zut1 (j := 68) rfl rfl⟩
theorem gX2_45 : zFW RX2 45 2 10 .int := ⟨RX2, TX2, 13, tyX2, zc2, by decide, zut1 (j := 68) rfl rfl, rfl, rfl⟩
theorem fX4_58 : zFL RX4 58 2 10 := ⟨RX2, TX2, 13, tyX2, zc2, by decide, zut1 (j := 69) rfl rfl⟩
theorem gX4_58 : zFW RX4 58 2 10 .int := ⟨RX2, TX2, 13, tyX2, zc2, by decide, zut1 (j := 69) rfl rfl, rfl, rfl⟩
theorem fX8_134 : zFL RX8 134 2 10 := ⟨RX2, TX2, 13, tyX2, zc2, by decide, zut1 (j := 70) rfl rfl⟩
theorem gX8_134 : zFW RX8 134 2 10 .int := ⟨RX2, TX2, 13, tyX2, zc2, by decide, zut1 (j := 70) rfl rfl, rfl, rfl⟩
theorem fX2_48 : zFL RX2 48 2 11 := ⟨RX2, TX2, 13, tyX2, zc2, by decide, zut1 (j := 71) rfl rfl⟩
theorem gX2_48 : zFW RX2 48 2 11 .int := ⟨RX2, TX2, 13, tyX2, zc2, by decide, zut1 (j := 71) rfl rfl, rfl, rfl⟩
theorem fX4_92 : zFL RX4 92 2 11 := ⟨RX2, TX2, 13, tyX2, zc2, by decide, zut1 (j := 72) rfl rfl⟩
theorem gX4_92 : zFW RX4 92 2 11 .int := ⟨RX2, TX2, 13, tyX2, zc2, by decide, zut1 (j := 72) rfl rfl, rfl, rfl⟩
theorem fX6_61 : zFL RX6 61 2 11 := ⟨RX2, TX2, 13, tyX2, zc2, by decide, zut1 (j := 73) rfl rfl⟩
theorem gX6_61 : zFW RX6 61 2 11 .int := ⟨RX2, TX2, 13, tyX2, zc2, by decide, zut1 (j := 73) rfl rfl, rfl, rfl⟩
theorem fX4_38 : zFL RX4 38 2 12 := ⟨RX2, TX2, 13, tyX2, zc2, by decide, zut1 (j := 74) rfl rfl⟩
theorem gX4_38 : zFW RX4 38 2 12 .boolean := ⟨RX2, TX2, 13, tyX2, zc2, by decide, zut1 (j := 74) rfl rfl, rfl, rfl⟩
theorem fX2_51 : zFL RX2 51 2 12 := ⟨RX2, TX2, 13, tyX2, zc2, by decide, zut1 (j := 75) rfl rfl⟩
theorem gX2_51 : zFW RX2 51 2 12 .boolean := ⟨RX2, TX2, 13, tyX2, zc2, by decide, zut1 (j := 75) rfl rfl, rfl, rfl⟩
theorem fX10_9 : zFL RX10 9 10 0 := ⟨RX10, TX10, 10, tyX10, zc10, by decide, zut1 (j := 118) rfl rfl⟩
theorem fX10_15 : zFL RX10 15 10 1 := ⟨RX10, TX10, 10, tyX10, zc10, by decide, zut1 (j := 119) rfl rfl⟩
theorem fX10_18 : zFL RX10 18 10 2 := ⟨RX10, TX10, 10, tyX10, zc10, by decide, zut1 (j := 120) rfl rfl⟩
theorem fX10_22 : zFL RX10 22 10 3 := ⟨RX10, TX10, 10, tyX10, zc10, by decide, zut1 (j := 121) rfl rfl⟩
theorem gX10_22 : zFW RX10 22 10 3 .int := ⟨RX10, TX10, 10, tyX10, zc10, by decide, zut1 (j := 121) rfl rfl, rfl, rfl⟩
theorem fX10_40 : zFL RX10 40 10 4 := ⟨RX10, TX10, 10, tyX10, zc10, by decide, zut1 (j := 122) rfl rfl⟩
theorem gX10_40 : zFW RX10 40 10 4 .int := ⟨RX10, TX10, 10, tyX10, zc10, by decide, zut1 (j := 122) rfl rfl, rfl, rfl⟩
theorem fX8_69 : zFL RX8 69 10 5 := ⟨RX10, TX10, 10, tyX10, zc10, by decide, zut1 (j := 123) rfl rfl⟩
theorem gX8_69 : zFW RX8 69 10 5 .int := ⟨RX10, TX10, 10, tyX10, zc10, by decide, zut1 (j := 123) rfl rfl, rfl, rfl⟩
theorem fX10_46 : zFL RX10 46 10 5 := ⟨RX10, TX10, 10, tyX10, zc10, by decide, zut1 (j := 124) rfl rfl⟩
theorem gX10_46 : zFW RX10 46 10 5 .int := ⟨RX10, TX10, 10, tyX10, zc10, by decide, zut1 (j := 124) rfl rfl, rfl, rfl⟩
theorem fX0_105 : zFL RX0 105 10 5 := ⟨RX10, TX10, 10, tyX10, zc10, by decide, zut1 (j := 125) rfl rfl⟩
theorem gX0_105 : zFW RX0 105 10 5 .int := ⟨RX10, TX10, 10, tyX10, zc10, by decide, zut1 (j := 125) rfl rfl, rfl, rfl⟩
theorem fX0_44 : zFL RX0 44 10 6 := ⟨RX10, TX10, 10, tyX10, zc10, by decide, zut1 (j := 126) rfl rfl⟩
theorem gX0_44 : zFW RX0 44 10 6 .int := ⟨RX10, TX10, 10, tyX10, zc10, by decide, zut1 (j := 126) rfl rfl, rfl, rfl⟩
theorem fX10_49 : zFL RX10 49 10 6 := ⟨RX10, TX10, 10, tyX10, zc10, by decide, zut1 (j := 127) rfl rfl⟩
theorem gX10_49 : zFW RX10 49 10 6 .int := ⟨RX10, TX10, 10, tyX10, zc10, by decide, zut1 (j := 127) rfl rfl, rfl, rfl⟩
theorem fX8_141 : zFL RX8 141 10 6 := ⟨RX10, TX10, 10, tyX10, zc10, by decide, zut1 (j := 128) rfl rfl⟩
theorem gX8_141 : zFW RX8 141 10 6 .int := ⟨RX10, TX10, 10, tyX10, zc10, by decide, zut1 (j := 128) rfl rfl, rfl, rfl⟩
theorem fX8_98 : zFL RX8 98 10 7 := ⟨RX10, TX10, 10, tyX10, zc10, by decide, zut1 (j := 129) rfl rfl⟩
theorem gX8_98 : zFW RX8 98 10 7 .long := ⟨RX10, TX10, 10, tyX10, zc10, by decide, zut1 (j := 129) rfl rfl, rfl, rfl⟩
theorem fX10_52 : zFL RX10 52 10 7 := ⟨RX10, TX10, 10, tyX10, zc10, by decide, zut1 (j := 130) rfl rfl⟩
theorem gX10_52 : zFW RX10 52 10 7 .long := ⟨RX10, TX10, 10, tyX10, zc10, by decide, zut1 (j := 130) rfl rfl, rfl, rfl⟩
theorem fX0_120 : zFL RX0 120 10 7 := ⟨RX10, TX10, 10, tyX10, zc10, by decide, zut1 (j := 131) rfl rfl⟩
theorem gX0_120 : zFW RX0 120 10 7 .long := ⟨RX10, TX10, 10, tyX10, zc10, by decide, zut1 (j := 131) rfl rfl, rfl, rfl⟩
theorem fX10_26 : zFL RX10 26 10 8 := ⟨RX10, TX10, 10, tyX10, zc10, by decide, zut1 (j := 132) rfl rfl⟩
theorem gX10_26 : zFW RX10 26 10 8 .int := ⟨RX10, TX10, 10, tyX10, zc10, by decide, zut1 (j := 132) rfl rfl, rfl, rfl⟩
theorem fX11_96 : zFL RX11 96 10 8 := ⟨RX10, TX10, 10, tyX10, zc10, by decide, zut1 (j := 133) rfl rfl⟩
theorem gX11_96 : zFW RX11 96 10 8 .int := ⟨RX10, TX10, 10, tyX10, zc10, by decide, zut1 (j := 133) rfl rfl, rfl, rfl⟩
theorem fX10_29 : zFL RX10 29 10 9 := ⟨RX10, TX10, 10, tyX10, zc10, by decide, zut1 (j := 134) rfl rfl⟩
theorem gX10_29 : zFW RX10 29 10 9 .int := ⟨RX10, TX10, 10, tyX10, zc10, by decide, zut1 (j := 134) rfl rfl, rfl, rfl⟩
theorem fX11_104 : zFL RX11 104 10 9 := ⟨RX10, TX10, 10, tyX10, zc10, by decide, zut1 (j := 135) rfl rfl⟩
theorem gX11_104 : zFW RX11 104 10 9 .int := ⟨RX10, TX10, 10, tyX10, zc10, by decide, zut1 (j := 135) rfl rfl, rfl, rfl⟩
theorem fX3_15 : zFL RX3 15 3 0 := ⟨RX3, TX3, 2, tyX3, zc3, by decide, zut1 (j := 173) rfl rfl⟩
theorem fX2_61 : zFL RX2 61 3 0 := ⟨RX3, TX3, 2, tyX3, zc3, by decide, zut1 (j := 174) rfl rfl⟩
theorem fX3_21 : zFL RX3 21 3 1 := ⟨RX3, TX3, 2, tyX3, zc3, by decide, zut1 (j := 175) rfl rfl⟩
theorem gX3_21 : zFW RX3 21 3 1 .int := ⟨RX3, TX3, 2, tyX3, zc3, by decide, zut1 (j := 175) rfl rfl, rfl, rfl⟩
theorem fX2_56 : zFL RX2 56 3 1 := ⟨RX3, TX3, 2, tyX3, zc3, by decide, zut1 (j := 176) rfl rfl⟩
theorem gX2_56 : zFW RX2 56 3 1 .int := ⟨RX3, TX3, 2, tyX3, zc3, by decide, zut1 (j := 176) rfl rfl, rfl, rfl⟩
theorem fX0_40 : zFL RX0 40 0 0 := ⟨RX0, TX0, 11, tyX0, zc0, by decide, zut1 (j := 182) rfl rfl⟩
theorem fX0_13 : zFL RX0 13 0 1 := ⟨RX0, TX0, 11, tyX0, zc0, by decide, zut1 (j := 183) rfl rfl⟩
theorem fX0_17 : zFL RX0 17 0 2 := ⟨RX0, TX0, 11, tyX0, zc0, by decide, zut1 (j := 184) rfl rfl⟩
theorem fX0_20 : zFL RX0 20 0 3 := ⟨RX0, TX0, 11, tyX0, zc0, by decide, zut1 (j := 185) rfl rfl⟩
theorem fX0_24 : zFL RX0 24 0 4 := ⟨RX0, TX0, 11, tyX0, zc0, by decide, zut1 (j := 186) rfl rfl⟩
theorem fX0_30 : zFL RX0 30 0 5 := ⟨RX0, TX0, 11, tyX0, zc0, by decide, zut1 (j := 187) rfl rfl⟩
theorem fX0_34 : zFL RX0 34 0 6 := ⟨RX0, TX0, 11, tyX0, zc0, by decide, zut1 (j := 188) rfl rfl⟩
theorem gX0_34 : zFW RX0 34 0 6 (.object "RangedMachines$LetterSet") := ⟨RX0, TX0, 11, tyX0, zc0, by decide, zut1 (j := 188) rfl rfl, rfl, rfl⟩
theorem fX0_37 : zFL RX0 37 0 7 := ⟨RX0, TX0, 11, tyX0, zc0, by decide, zut1 (j := 189) rfl rfl⟩
theorem gX0_37 : zFW RX0 37 0 7 (.object "RangedMachines$LetterSet") := ⟨RX0, TX0, 11, tyX0, zc0, by decide, zut1 (j := 189) rfl rfl, rfl, rfl⟩
theorem fX0_50 : zFL RX0 50 0 8 := ⟨RX0, TX0, 11, tyX0, zc0, by decide, zut1 (j := 190) rfl rfl⟩
theorem gX0_50 : zFW RX0 50 0 8 .int := ⟨RX0, TX0, 11, tyX0, zc0, by decide, zut1 (j := 190) rfl rfl, rfl, rfl⟩
theorem fX0_53 : zFL RX0 53 0 9 := ⟨RX0, TX0, 11, tyX0, zc0, by decide, zut1 (j := 191) rfl rfl⟩
theorem gX0_53 : zFW RX0 53 0 9 .int := ⟨RX0, TX0, 11, tyX0, zc0, by decide, zut1 (j := 191) rfl rfl, rfl, rfl⟩
theorem fX0_59 : zFL RX0 59 0 10 := ⟨RX0, TX0, 11, tyX0, zc0, by decide, zut1 (j := 192) rfl rfl⟩
theorem gX0_59 : zFW RX0 59 0 10 .boolean := ⟨RX0, TX0, 11, tyX0, zc0, by decide, zut1 (j := 192) rfl rfl, rfl, rfl⟩
theorem fX9_11 : zFL RX9 11 9 0 := ⟨RX9, TX9, 3, tyX9, zc9, by decide, zut1 (j := 226) rfl rfl⟩
theorem fX8_106 : zFL RX8 106 9 0 := ⟨RX9, TX9, 3, tyX9, zc9, by decide, zut1 (j := 227) rfl rfl⟩
theorem fX11_126 : zFL RX11 126 9 0 := ⟨RX9, TX9, 3, tyX9, zc9, by decide, zut1 (j := 228) rfl rfl⟩
theorem fX0_130 : zFL RX0 130 9 0 := ⟨RX9, TX9, 3, tyX9, zc9, by decide, zut1 (j := 229) rfl rfl⟩
theorem fX9_17 : zFL RX9 17 9 1 := ⟨RX9, TX9, 3, tyX9, zc9, by decide, zut1 (j := 230) rfl rfl⟩
theorem fX8_112 : zFL RX8 112 9 1 := ⟨RX9, TX9, 3, tyX9, zc9, by decide, zut1 (j := 231) rfl rfl⟩
theorem fX9_24 : zFL RX9 24 9 2 := ⟨RX9, TX9, 3, tyX9, zc9, by decide, zut1 (j := 232) rfl rfl⟩
theorem gX9_24 : zFW RX9 24 9 2 .int := ⟨RX9, TX9, 3, tyX9, zc9, by decide, zut1 (j := 232) rfl rfl, rfl, rfl⟩
theorem fX8_58 : zFL RX8 58 9 2 := ⟨RX9, TX9, 3, tyX9, zc9, by decide, zut1 (j := 233) rfl rfl⟩
theorem gX8_58 : zFW RX8 58 9 2 .int := ⟨RX9, TX9, 3, tyX9, zc9, by decide, zut1 (j := 233) rfl rfl, rfl, rfl⟩
theorem fX11_382 : zFL RX11 382 9 2 := ⟨RX9, TX9, 3, tyX9, zc9, by decide, zut1 (j := 234) rfl rfl⟩
theorem gX11_382 : zFW RX11 382 9 2 .int := ⟨RX9, TX9, 3, tyX9, zc9, by decide, zut1 (j := 234) rfl rfl, rfl, rfl⟩
theorem fX1_21 : zFL RX1 21 7 0 := ⟨RX7, TX7, 16, tyX7, zc7, by decide, zut2 (j := 14) rfl rfl⟩
theorem gX1_21 : zFW RX1 21 7 0 .int := ⟨RX7, TX7, 16, tyX7, zc7, by decide, zut2 (j := 14) rfl rfl, rfl, rfl⟩
theorem fX7_57 : zFL RX7 57 7 0 := ⟨RX7, TX7, 16, tyX7, zc7, by decide, zut2 (j := 15) rfl rfl⟩
theorem gX7_57 : zFW RX7 57 7 0 .int := ⟨RX7, TX7, 16, tyX7, zc7, by decide, zut2 (j := 15) rfl rfl, rfl, rfl⟩
theorem fX4_113 : zFL RX4 113 7 0 := ⟨RX7, TX7, 16, tyX7, zc7, by decide, zut2 (j := 16) rfl rfl⟩
theorem gX4_113 : zFW RX4 113 7 0 .int := ⟨RX7, TX7, 16, tyX7, zc7, by decide, zut2 (j := 16) rfl rfl, rfl, rfl⟩
theorem fX11_204 : zFL RX11 204 7 0 := ⟨RX7, TX7, 16, tyX7, zc7, by decide, zut2 (j := 17) rfl rfl⟩
theorem gX11_204 : zFW RX11 204 7 0 .int := ⟨RX7, TX7, 16, tyX7, zc7, by decide, zut2 (j := 17) rfl rfl, rfl, rfl⟩
theorem fX2_123 : zFL RX2 123 7 0 := ⟨RX7, TX7, 16, tyX7, zc7, by decide, zut2 (j := 18) rfl rfl⟩
theorem gX2_123 : zFW RX2 123 7 0 .int := ⟨RX7, TX7, 16, tyX7, zc7, by decide, zut2 (j := 18) rfl rfl, rfl, rfl⟩
theorem fX7_9 : zFL RX7 9 7 1 := ⟨RX7, TX7, 16, tyX7, zc7, by decide, zut2 (j := 19) rfl rfl⟩
theorem fX11_209 : zFL RX11 209 7 1 := ⟨RX7, TX7, 16, tyX7, zc7, by decide, zut2 (j := 20) rfl rfl⟩
theorem fX7_15 : zFL RX7 15 7 2 := ⟨RX7, TX7, 16, tyX7, zc7, by decide, zut2 (j := 21) rfl rfl⟩
theorem fX7_19 : zFL RX7 19 7 3 := ⟨RX7, TX7, 16, tyX7, zc7, by decide, zut2 (j := 22) rfl rfl⟩
theorem fX7_22 : zFL RX7 22 7 4 := ⟨RX7, TX7, 16, tyX7, zc7, by decide, zut2 (j := 23) rfl rfl⟩
theorem fX7_25 : zFL RX7 25 7 5 := ⟨RX7, TX7, 16, tyX7, zc7, by decide, zut2 (j := 24) rfl rfl⟩
theorem fX11_253 : zFL RX11 253 7 5 := ⟨RX7, TX7, 16, tyX7, zc7, by decide, zut2 (j := 25) rfl rfl⟩
theorem fX7_60 : zFL RX7 60 7 6 := ⟨RX7, TX7, 16, tyX7, zc7, by decide, zut2 (j := 26) rfl rfl⟩
theorem gX7_60 : zFW RX7 60 7 6 .long := ⟨RX7, TX7, 16, tyX7, zc7, by decide, zut2 (j := 26) rfl rfl, rfl, rfl⟩
theorem fX2_138 : zFL RX2 138 7 6 := ⟨RX7, TX7, 16, tyX7, zc7, by decide, zut2 (j := 27) rfl rfl⟩
theorem gX2_138 : zFW RX2 138 7 6 .long := ⟨RX7, TX7, 16, tyX7, zc7, by decide, zut2 (j := 27) rfl rfl, rfl, rfl⟩
theorem fX7_52 : zFL RX7 52 7 7 := ⟨RX7, TX7, 16, tyX7, zc7, by decide, zut2 (j := 28) rfl rfl⟩
theorem gX7_52 : zFW RX7 52 7 7 .int := ⟨RX7, TX7, 16, tyX7, zc7, by decide, zut2 (j := 28) rfl rfl, rfl, rfl⟩
theorem fX7_28 : zFL RX7 28 7 8 := ⟨RX7, TX7, 16, tyX7, zc7, by decide, zut2 (j := 29) rfl rfl⟩
theorem fX7_31 : zFL RX7 31 7 9 := ⟨RX7, TX7, 16, tyX7, zc7, by decide, zut2 (j := 30) rfl rfl⟩
theorem fX7_113 : zFL RX7 113 7 10 := ⟨RX7, TX7, 16, tyX7, zc7, by decide, zut2 (j := 31) rfl rfl⟩
theorem gX7_113 : zFW RX7 113 7 10 .int := ⟨RX7, TX7, 16, tyX7, zc7, by decide, zut2 (j := 31) rfl rfl, rfl, rfl⟩
theorem fX4_116 : zFL RX4 116 7 10 := ⟨RX7, TX7, 16, tyX7, zc7, by decide, zut2 (j := 32) rfl rfl⟩
theorem gX4_116 : zFW RX4 116 7 10 .int := ⟨RX7, TX7, 16, tyX7, zc7, by decide, zut2 (j := 32) rfl rfl, rfl, rfl⟩
theorem fX2_141 : zFL RX2 141 7 10 := ⟨RX7, TX7, 16, tyX7, zc7, by decide, zut2 (j := 33) rfl rfl⟩
theorem gX2_141 : zFW RX2 141 7 10 .int := ⟨RX7, TX7, 16, tyX7, zc7, by decide, zut2 (j := 33) rfl rfl, rfl, rfl⟩
theorem fX11_385 : zFL RX11 385 7 10 := ⟨RX7, TX7, 16, tyX7, zc7, by decide, zut2 (j := 34) rfl rfl⟩
theorem gX11_385 : zFW RX11 385 7 10 .int := ⟨RX7, TX7, 16, tyX7, zc7, by decide, zut2 (j := 34) rfl rfl, rfl, rfl⟩
theorem fX7_34 : zFL RX7 34 7 11 := ⟨RX7, TX7, 16, tyX7, zc7, by decide, zut2 (j := 35) rfl rfl⟩
theorem fX11_281 : zFL RX11 281 7 11 := ⟨RX7, TX7, 16, tyX7, zc7, by decide, zut2 (j := 36) rfl rfl⟩
theorem fX7_37 : zFL RX7 37 7 12 := ⟨RX7, TX7, 16, tyX7, zc7, by decide, zut2 (j := 37) rfl rfl⟩
theorem fX11_256 : zFL RX11 256 7 12 := ⟨RX7, TX7, 16, tyX7, zc7, by decide, zut2 (j := 38) rfl rfl⟩
theorem fX7_40 : zFL RX7 40 7 13 := ⟨RX7, TX7, 16, tyX7, zc7, by decide, zut2 (j := 39) rfl rfl⟩
theorem fX7_43 : zFL RX7 43 7 14 := ⟨RX7, TX7, 16, tyX7, zc7, by decide, zut2 (j := 40) rfl rfl⟩
theorem fX7_116 : zFL RX7 116 7 15 := ⟨RX7, TX7, 16, tyX7, zc7, by decide, zut2 (j := 41) rfl rfl⟩
theorem gX7_116 : zFW RX7 116 7 15 .int := ⟨RX7, TX7, 16, tyX7, zc7, by decide, zut2 (j := 41) rfl rfl, rfl, rfl⟩
theorem fX11_268 : zFL RX11 268 7 15 := ⟨RX7, TX7, 16, tyX7, zc7, by decide, zut2 (j := 42) rfl rfl⟩
theorem gX11_268 : zFW RX11 268 7 15 .int := ⟨RX7, TX7, 16, tyX7, zc7, by decide, zut2 (j := 42) rfl rfl, rfl, rfl⟩
theorem fX4_9 : zFL RX4 9 4 0 := ⟨RX4, TX4, 12, tyX4, zc4, by decide, zut2 (j := 76) rfl rfl⟩
theorem fX5_33 : zFL RX5 33 4 0 := ⟨RX4, TX4, 12, tyX4, zc4, by decide, zut2 (j := 77) rfl rfl⟩
theorem fX7_97 : zFL RX7 97 4 0 := ⟨RX4, TX4, 12, tyX4, zc4, by decide, zut2 (j := 78) rfl rfl⟩
theorem fX11_161 : zFL RX11 161 4 0 := ⟨RX4, TX4, 12, tyX4, zc4, by decide, zut2 (j := 79) rfl rfl⟩
theorem fX2_111 : zFL RX2 111 4 0 := ⟨RX4, TX4, 12, tyX4, zc4, by decide, zut2 (j := 80) rfl rfl⟩
theorem fX4_15 : zFL RX4 15 4 1 := ⟨RX4, TX4, 12, tyX4, zc4, by decide, zut2 (j := 81) rfl rfl⟩
theorem fX7_100 : zFL RX7 100 4 1 := ⟨RX4, TX4, 12, tyX4, zc4, by decide, zut2 (j := 82) rfl rfl⟩
theorem fX11_164 : zFL RX11 164 4 1 := ⟨RX4, TX4, 12, tyX4, zc4, by decide, zut2 (j := 83) rfl rfl⟩
theorem fX2_110 : zFL RX2 110 4 1 := ⟨RX4, TX4, 12, tyX4, zc4, by decide, zut2 (j := 84) rfl rfl⟩
theorem fX4_18 : zFL RX4 18 4 2 := ⟨RX4, TX4, 12, tyX4, zc4, by decide, zut2 (j := 85) rfl rfl⟩
theorem fX4_22 : zFL RX4 22 4 3 := ⟨RX4, TX4, 12, tyX4, zc4, by decide, zut2 (j := 86) rfl rfl⟩
theorem fX7_85 : zFL RX7 85 4 3 := ⟨RX4, TX4, 12, tyX4, zc4, by decide, zut2 (j := 87) rfl rfl⟩
theorem fX11_183 : zFL RX11 183 4 3 := ⟨RX4, TX4, 12, tyX4, zc4, by decide, zut2 (j := 88) rfl rfl⟩
theorem fX2_118 : zFL RX2 118 4 3 := ⟨RX4, TX4, 12, tyX4, zc4, by decide, zut2 (j := 89) rfl rfl⟩
theorem fX4_25 : zFL RX4 25 4 4 := ⟨RX4, TX4, 12, tyX4, zc4, by decide, zut2 (j := 90) rfl rfl⟩
theorem fX7_82 : zFL RX7 82 4 4 := ⟨RX4, TX4, 12, tyX4, zc4, by decide, zut2 (j := 91) rfl rfl⟩
theorem fX11_180 : zFL RX11 180 4 4 := ⟨RX4, TX4, 12, tyX4, zc4, by decide, zut2 (j := 92) rfl rfl⟩
theorem fX2_117 : zFL RX2 117 4 4 := ⟨RX4, TX4, 12, tyX4, zc4, by decide, zut2 (j := 93) rfl rfl⟩
theorem fX4_28 : zFL RX4 28 4 5 := ⟨RX4, TX4, 12, tyX4, zc4, by decide, zut2 (j := 94) rfl rfl⟩
theorem fX1_57 : zFL RX1 57 4 5 := ⟨RX4, TX4, 12, tyX4, zc4, by decide, zut2 (j := 95) rfl rfl⟩
theorem fX2_71 : zFL RX2 71 4 5 := ⟨RX4, TX4, 12, tyX4, zc4, by decide, zut2 (j := 96) rfl rfl⟩
theorem fX11_197 : zFL RX11 197 4 5 := ⟨RX4, TX4, 12, tyX4, zc4, by decide, zut2 (j := 97) rfl rfl⟩
theorem fX4_34 : zFL RX4 34 4 6 := ⟨RX4, TX4, 12, tyX4, zc4, by decide, zut2 (j := 98) rfl rfl⟩
theorem fX1_15 : zFL RX1 15 4 6 := ⟨RX4, TX4, 12, tyX4, zc4, by decide, zut2 (j := 99) rfl rfl⟩
theorem fX6_107 : zFL RX6 107 4 6 := ⟨RX4, TX4, 12, tyX4, zc4, by decide, zut2 (j := 100) rfl rfl⟩
theorem fX11_200 : zFL RX11 200 4 6 := ⟨RX4, TX4, 12, tyX4, zc4, by decide, zut2 (j := 101) rfl rfl⟩
theorem fX2_119 : zFL RX2 119 4 6 := ⟨RX4, TX4, 12, tyX4, zc4, by decide, zut2 (j := 102) rfl rfl⟩
theorem fX4_48 : zFL RX4 48 4 7 := ⟨RX4, TX4, 12, tyX4, zc4, by decide, zut2 (j := 103) rfl rfl⟩
theorem gX4_48 : zFW RX4 48 4 7 .int := ⟨RX4, TX4, 12, tyX4, zc4, by decide, zut2 (j := 103) rfl rfl, rfl, rfl⟩
theorem fX7_76 : zFL RX7 76 4 7 := ⟨RX4, TX4, 12, tyX4, zc4, by decide, zut2 (j := 104) rfl rfl⟩
theorem gX7_76 : zFW RX7 76 4 7 .int := ⟨RX4, TX4, 12, tyX4, zc4, by decide, zut2 (j := 104) rfl rfl, rfl, rfl⟩
theorem fX11_217 : zFL RX11 217 4 7 := ⟨RX4, TX4, 12, tyX4, zc4, by decide, zut2 (j := 105) rfl rfl⟩
theorem gX11_217 : zFW RX11 217 4 7 .int := ⟨RX4, TX4, 12, tyX4, zc4, by decide, zut2 (j := 105) rfl rfl, rfl, rfl⟩
theorem fX4_53 : zFL RX4 53 4 8 := ⟨RX4, TX4, 12, tyX4, zc4, by decide, zut2 (j := 106) rfl rfl⟩
theorem gX4_53 : zFW RX4 53 4 8 .long := ⟨RX4, TX4, 12, tyX4, zc4, by decide, zut2 (j := 106) rfl rfl, rfl, rfl⟩
theorem fX7_107 : zFL RX7 107 4 8 := ⟨RX4, TX4, 12, tyX4, zc4, by decide, zut2 (j := 107) rfl rfl⟩
theorem gX7_107 : zFW RX7 107 4 8 .long := ⟨RX4, TX4, 12, tyX4, zc4, by decide, zut2 (j := 107) rfl rfl, rfl, rfl⟩
theorem fX11_186 : zFL RX11 186 4 8 := ⟨RX4, TX4, 12, tyX4, zc4, by decide, zut2 (j := 108) rfl rfl⟩
theorem gX11_186 : zFW RX11 186 4 8 .long := ⟨RX4, TX4, 12, tyX4, zc4, by decide, zut2 (j := 108) rfl rfl, rfl, rfl⟩
theorem fX5_28 : zFL RX5 28 4 9 := ⟨RX4, TX4, 12, tyX4, zc4, by decide, zut2 (j := 109) rfl rfl⟩
theorem gX5_28 : zFW RX5 28 4 9 .int := ⟨RX4, TX4, 12, tyX4, zc4, by decide, zut2 (j := 109) rfl rfl, rfl, rfl⟩
theorem fX4_57 : zFL RX4 57 4 9 := ⟨RX4, TX4, 12, tyX4, zc4, by decide, zut2 (j := 110) rfl rfl⟩
theorem gX4_57 : zFW RX4 57 4 9 .int := ⟨RX4, TX4, 12, tyX4, zc4, by decide, zut2 (j := 110) rfl rfl, rfl, rfl⟩
theorem fX7_94 : zFL RX7 94 4 9 := ⟨RX4, TX4, 12, tyX4, zc4, by decide, zut2 (j := 111) rfl rfl⟩
theorem gX7_94 : zFW RX7 94 4 9 .int := ⟨RX4, TX4, 12, tyX4, zc4, by decide, zut2 (j := 111) rfl rfl, rfl, rfl⟩
theorem fX11_158 : zFL RX11 158 4 9 := ⟨RX4, TX4, 12, tyX4, zc4, by decide, zut2 (j := 112) rfl rfl⟩
theorem gX11_158 : zFW RX11 158 4 9 .int := ⟨RX4, TX4, 12, tyX4, zc4, by decide, zut2 (j := 112) rfl rfl, rfl, rfl⟩
theorem fX2_109 : zFL RX2 109 4 9 := ⟨RX4, TX4, 12, tyX4, zc4, by decide, zut2 (j := 113) rfl rfl⟩
theorem gX2_109 : zFW RX2 109 4 9 .int := ⟨RX4, TX4, 12, tyX4, zc4, by decide, zut2 (j := 113) rfl rfl, rfl, rfl⟩
theorem fX4_61 : zFL RX4 61 4 10 := ⟨RX4, TX4, 12, tyX4, zc4, by decide, zut2 (j := 114) rfl rfl⟩
theorem gX4_61 : zFW RX4 61 4 10 .int := ⟨RX4, TX4, 12, tyX4, zc4, by decide, zut2 (j := 114) rfl rfl, rfl, rfl⟩
theorem fX7_79 : zFL RX7 79 4 10 := ⟨RX4, TX4, 12, tyX4, zc4, by decide, zut2 (j := 115) rfl rfl⟩
theorem gX7_79 : zFW RX7 79 4 10 .int := ⟨RX4, TX4, 12, tyX4, zc4, by decide, zut2 (j := 115) rfl rfl, rfl, rfl⟩
theorem fX11_177 : zFL RX11 177 4 10 := ⟨RX4, TX4, 12, tyX4, zc4, by decide, zut2 (j := 116) rfl rfl⟩
theorem gX11_177 : zFW RX11 177 4 10 .int := ⟨RX4, TX4, 12, tyX4, zc4, by decide, zut2 (j := 116) rfl rfl, rfl, rfl⟩
theorem fX2_116 : zFL RX2 116 4 10 := ⟨RX4, TX4, 12, tyX4, zc4, by decide, zut2 (j := 117) rfl rfl⟩
theorem gX2_116 : zFW RX2 116 4 10 .int := ⟨RX4, TX4, 12, tyX4, zc4, by decide, zut2 (j := 117) rfl rfl, rfl, rfl⟩
theorem fX7_46 : zFL RX7 46 4 11 := ⟨RX4, TX4, 12, tyX4, zc4, by decide, zut2 (j := 118) rfl rfl⟩
theorem gX7_46 : zFW RX7 46 4 11 .int := ⟨RX4, TX4, 12, tyX4, zc4, by decide, zut2 (j := 118) rfl rfl, rfl, rfl⟩
theorem fX1_31 : zFL RX1 31 4 11 := ⟨RX4, TX4, 12, tyX4, zc4, by decide, zut2 (j := 119) rfl rfl⟩
theorem gX1_31 : zFW RX1 31 4 11 .int := ⟨RX4, TX4, 12, tyX4, zc4, by decide, zut2 (j := 119) rfl rfl, rfl, rfl⟩
theorem fX4_89 : zFL RX4 89 4 11 := ⟨RX4, TX4, 12, tyX4, zc4, by decide, zut2 (j := 120) rfl rfl⟩
theorem gX4_89 : zFW RX4 89 4 11 .int := ⟨RX4, TX4, 12, tyX4, zc4, by decide, zut2 (j := 120) rfl rfl, rfl, rfl⟩
theorem fX5_40 : zFL RX5 40 4 11 := ⟨RX4, TX4, 12, tyX4, zc4, by decide, zut2 (j := 121) rfl rfl⟩
theorem gX5_40 : zFW RX5 40 4 11 .int := ⟨RX4, TX4, 12, tyX4, zc4, by decide, zut2 (j := 121) rfl rfl, rfl, rfl⟩
theorem fX2_68 : zFL RX2 68 4 11 := ⟨RX4, TX4, 12, tyX4, zc4, by decide, zut2 (j := 122) rfl rfl⟩
theorem gX2_68 : zFW RX2 68 4 11 .int := ⟨RX4, TX4, 12, tyX4, zc4, by decide, zut2 (j := 122) rfl rfl, rfl, rfl⟩
theorem fX11_194 : zFL RX11 194 4 11 := ⟨RX4, TX4, 12, tyX4, zc4, by decide, zut2 (j := 123) rfl rfl⟩
theorem gX11_194 : zFW RX11 194 4 11 .int := ⟨RX4, TX4, 12, tyX4, zc4, by decide, zut2 (j := 123) rfl rfl, rfl, rfl⟩
theorem fX8_12 : zFL RX8 12 8 0 := ⟨RX8, TX8, 8, tyX8, zc8, by decide, zut2 (j := 149) rfl rfl⟩
theorem fX11_92 : zFL RX11 92 8 0 := ⟨RX8, TX8, 8, tyX8, zc8, by decide, zut2 (j := 150) rfl rfl⟩
theorem fX8_23 : zFL RX8 23 8 1 := ⟨RX8, TX8, 8, tyX8, zc8, by decide, zut2 (j := 151) rfl rfl⟩
theorem fX8_46 : zFL RX8 46 8 2 := ⟨RX8, TX8, 8, tyX8, zc8, by decide, zut2 (j := 152) rfl rfl⟩
theorem fX8_29 : zFL RX8 29 8 3 := ⟨RX8, TX8, 8, tyX8, zc8, by decide, zut2 (j := 153) rfl rfl⟩
theorem fX8_35 : zFL RX8 35 8 4 := ⟨RX8, TX8, 8, tyX8, zc8, by decide, zut2 (j := 154) rfl rfl⟩
theorem fX11_392 : zFL RX11 392 8 4 := ⟨RX8, TX8, 8, tyX8, zc8, by decide, zut2 (j := 155) rfl rfl⟩
theorem fX8_42 : zFL RX8 42 8 5 := ⟨RX8, TX8, 8, tyX8, zc8, by decide, zut2 (j := 156) rfl rfl⟩
theorem gX8_42 : zFW RX8 42 8 5 (.object "RangedMachines$SetTable") := ⟨RX8, TX8, 8, tyX8, zc8, by decide, zut2 (j := 156) rfl rfl, rfl, rfl⟩
theorem fX11_388 : zFL RX11 388 8 5 := ⟨RX8, TX8, 8, tyX8, zc8, by decide, zut2 (j := 157) rfl rfl⟩
theorem gX11_388 : zFW RX11 388 8 5 (.object "RangedMachines$SetTable") := ⟨RX8, TX8, 8, tyX8, zc8, by decide, zut2 (j := 157) rfl rfl, rfl, rfl⟩
theorem fX8_62 : zFL RX8 62 8 6 := ⟨RX8, TX8, 8, tyX8, zc8, by decide, zut2 (j := 158) rfl rfl⟩
theorem gX8_62 : zFW RX8 62 8 6 .int := ⟨RX8, TX8, 8, tyX8, zc8, by decide, zut2 (j := 158) rfl rfl, rfl, rfl⟩
theorem fX11_389 : zFL RX11 389 8 6 := ⟨RX8, TX8, 8, tyX8, zc8, by decide, zut2 (j := 159) rfl rfl⟩
theorem gX11_389 : zFW RX11 389 8 6 .int := ⟨RX8, TX8, 8, tyX8, zc8, by decide, zut2 (j := 159) rfl rfl, rfl, rfl⟩
theorem fX8_65 : zFL RX8 65 8 7 := ⟨RX8, TX8, 8, tyX8, zc8, by decide, zut2 (j := 160) rfl rfl⟩
theorem gX8_65 : zFW RX8 65 8 7 .boolean := ⟨RX8, TX8, 8, tyX8, zc8, by decide, zut2 (j := 160) rfl rfl, rfl, rfl⟩
theorem fX6_36 : zFL RX6 36 6 0 := ⟨RX6, TX6, 10, tyX6, zc6, by decide, zut2 (j := 184) rfl rfl⟩
theorem fX6_9 : zFL RX6 9 6 1 := ⟨RX6, TX6, 10, tyX6, zc6, by decide, zut2 (j := 185) rfl rfl⟩
theorem fX6_15 : zFL RX6 15 6 2 := ⟨RX6, TX6, 10, tyX6, zc6, by decide, zut2 (j := 186) rfl rfl⟩
theorem fX6_18 : zFL RX6 18 6 3 := ⟨RX6, TX6, 10, tyX6, zc6, by decide, zut2 (j := 187) rfl rfl⟩
theorem fX6_21 : zFL RX6 21 6 4 := ⟨RX6, TX6, 10, tyX6, zc6, by decide, zut2 (j := 188) rfl rfl⟩
theorem fX6_24 : zFL RX6 24 6 5 := ⟨RX6, TX6, 10, tyX6, zc6, by decide, zut2 (j := 189) rfl rfl⟩
theorem fX6_27 : zFL RX6 27 6 6 := ⟨RX6, TX6, 10, tyX6, zc6, by decide, zut2 (j := 190) rfl rfl⟩
theorem fX11_309 : zFL RX11 309 6 6 := ⟨RX6, TX6, 10, tyX6, zc6, by decide, zut2 (j := 191) rfl rfl⟩
theorem fX6_30 : zFL RX6 30 6 7 := ⟨RX6, TX6, 10, tyX6, zc6, by decide, zut2 (j := 192) rfl rfl⟩
theorem fX6_33 : zFL RX6 33 6 8 := ⟨RX6, TX6, 10, tyX6, zc6, by decide, zut2 (j := 193) rfl rfl⟩
theorem fX6_44 : zFL RX6 44 6 9 := ⟨RX6, TX6, 10, tyX6, zc6, by decide, zut2 (j := 194) rfl rfl⟩
theorem gX6_44 : zFW RX6 44 6 9 .int := ⟨RX6, TX6, 10, tyX6, zc6, by decide, zut2 (j := 194) rfl rfl, rfl, rfl⟩
theorem fX1_9 : zFL RX1 9 1 0 := ⟨RX1, TX1, 1, tyX1, zc1, by decide, zut2 (j := 222) rfl rfl⟩
theorem fX5_9 : zFL RX5 9 5 0 := ⟨RX5, TX5, 3, tyX5, zc5, by decide, zut2 (j := 232) rfl rfl⟩
theorem fX5_15 : zFL RX5 15 5 1 := ⟨RX5, TX5, 3, tyX5, zc5, by decide, zut2 (j := 233) rfl rfl⟩
theorem fX5_24 : zFL RX5 24 5 2 := ⟨RX5, TX5, 3, tyX5, zc5, by decide, zut2 (j := 234) rfl rfl⟩
theorem gX5_24 : zFW RX5 24 5 2 .int := ⟨RX5, TX5, 3, tyX5, zc5, by decide, zut2 (j := 234) rfl rfl, rfl, rfl⟩
theorem fX11_224 : zFL RX11 224 5 2 := ⟨RX5, TX5, 3, tyX5, zc5, by decide, zut2 (j := 235) rfl rfl⟩
theorem gX11_224 : zFW RX11 224 5 2 .int := ⟨RX5, TX5, 3, tyX5, zc5, by decide, zut2 (j := 235) rfl rfl, rfl, rfl⟩
theorem fX11_9 : zFL RX11 9 11 0 := ⟨RX11, TX11, 17, tyX11, zc11, by decide, zut3 (j := 8) rfl rfl⟩
theorem fX11_13 : zFL RX11 13 11 1 := ⟨RX11, TX11, 17, tyX11, zc11, by decide, zut3 (j := 9) rfl rfl⟩
theorem fX11_19 : zFL RX11 19 11 2 := ⟨RX11, TX11, 17, tyX11, zc11, by decide, zut3 (j := 10) rfl rfl⟩
theorem fX11_26 : zFL RX11 26 11 3 := ⟨RX11, TX11, 17, tyX11, zc11, by decide, zut3 (j := 11) rfl rfl⟩
theorem fX11_35 : zFL RX11 35 11 4 := ⟨RX11, TX11, 17, tyX11, zc11, by decide, zut3 (j := 12) rfl rfl⟩
theorem fX11_42 : zFL RX11 42 11 5 := ⟨RX11, TX11, 17, tyX11, zc11, by decide, zut3 (j := 13) rfl rfl⟩
theorem fX11_49 : zFL RX11 49 11 6 := ⟨RX11, TX11, 17, tyX11, zc11, by decide, zut3 (j := 14) rfl rfl⟩
theorem fX11_56 : zFL RX11 56 11 7 := ⟨RX11, TX11, 17, tyX11, zc11, by decide, zut3 (j := 15) rfl rfl⟩
theorem fX11_65 : zFL RX11 65 11 8 := ⟨RX11, TX11, 17, tyX11, zc11, by decide, zut3 (j := 16) rfl rfl⟩
theorem fX11_72 : zFL RX11 72 11 9 := ⟨RX11, TX11, 17, tyX11, zc11, by decide, zut3 (j := 17) rfl rfl⟩
theorem gX11_72 : zFW RX11 72 11 9 (.object "RangedMachines$SetTable") := ⟨RX11, TX11, 17, tyX11, zc11, by decide, zut3 (j := 17) rfl rfl, rfl, rfl⟩
theorem fX11_77 : zFL RX11 77 11 10 := ⟨RX11, TX11, 17, tyX11, zc11, by decide, zut3 (j := 18) rfl rfl⟩
theorem gX11_77 : zFW RX11 77 11 10 .int := ⟨RX11, TX11, 17, tyX11, zc11, by decide, zut3 (j := 18) rfl rfl, rfl, rfl⟩
theorem fX11_271 : zFL RX11 271 11 11 := ⟨RX11, TX11, 17, tyX11, zc11, by decide, zut3 (j := 19) rfl rfl⟩
theorem gX11_271 : zFW RX11 271 11 11 .int := ⟨RX11, TX11, 17, tyX11, zc11, by decide, zut3 (j := 19) rfl rfl, rfl, rfl⟩
theorem fX11_376 : zFL RX11 376 11 12 := ⟨RX11, TX11, 17, tyX11, zc11, by decide, zut3 (j := 20) rfl rfl⟩
theorem gX11_376 : zFW RX11 376 11 12 .int := ⟨RX11, TX11, 17, tyX11, zc11, by decide, zut3 (j := 20) rfl rfl, rfl, rfl⟩
theorem fX11_113 : zFL RX11 113 11 13 := ⟨RX11, TX11, 17, tyX11, zc11, by decide, zut3 (j := 21) rfl rfl⟩
theorem gX11_113 : zFW RX11 113 11 13 .int := ⟨RX11, TX11, 17, tyX11, zc11, by decide, zut3 (j := 21) rfl rfl, rfl, rfl⟩
theorem fX11_119 : zFL RX11 119 11 14 := ⟨RX11, TX11, 17, tyX11, zc11, by decide, zut3 (j := 22) rfl rfl⟩
theorem gX11_119 : zFW RX11 119 11 14 .int := ⟨RX11, TX11, 17, tyX11, zc11, by decide, zut3 (j := 22) rfl rfl, rfl, rfl⟩
theorem fX11_101 : zFL RX11 101 11 15 := ⟨RX11, TX11, 17, tyX11, zc11, by decide, zut3 (j := 23) rfl rfl⟩
theorem gX11_101 : zFW RX11 101 11 15 .int := ⟨RX11, TX11, 17, tyX11, zc11, by decide, zut3 (j := 23) rfl rfl, rfl, rfl⟩
theorem fX11_107 : zFL RX11 107 11 16 := ⟨RX11, TX11, 17, tyX11, zc11, by decide, zut3 (j := 24) rfl rfl⟩
theorem gX11_107 : zFW RX11 107 11 16 .int := ⟨RX11, TX11, 17, tyX11, zc11, by decide, zut3 (j := 24) rfl rfl, rfl, rfl⟩
theorem fX12_190 : zFL RX12 190 12 0 := ⟨RX12, TX12, 90, tyX12, zc12, by decide, zut7 (j := 85) rfl rfl⟩
theorem gX12_190 : zFW RX12 190 12 0 .int := ⟨RX12, TX12, 90, tyX12, zc12, by decide, zut7 (j := 85) rfl rfl, rfl, rfl⟩
theorem fX12_193 : zFL RX12 193 12 1 := ⟨RX12, TX12, 90, tyX12, zc12, by decide, zut7 (j := 86) rfl rfl⟩
theorem gX12_193 : zFW RX12 193 12 1 .int := ⟨RX12, TX12, 90, tyX12, zc12, by decide, zut7 (j := 86) rfl rfl, rfl, rfl⟩
theorem fX12_9 : zFL RX12 9 12 2 := ⟨RX12, TX12, 90, tyX12, zc12, by decide, zut7 (j := 87) rfl rfl⟩
theorem gX12_9 : zFW RX12 9 12 2 .int := ⟨RX12, TX12, 90, tyX12, zc12, by decide, zut7 (j := 87) rfl rfl, rfl, rfl⟩
theorem fX12_13 : zFL RX12 13 12 3 := ⟨RX12, TX12, 90, tyX12, zc12, by decide, zut7 (j := 88) rfl rfl⟩
theorem fX12_423 : zFL RX12 423 12 4 := ⟨RX12, TX12, 90, tyX12, zc12, by decide, zut7 (j := 89) rfl rfl⟩
theorem gX12_423 : zFW RX12 423 12 4 .int := ⟨RX12, TX12, 90, tyX12, zc12, by decide, zut7 (j := 89) rfl rfl, rfl, rfl⟩
theorem fX12_205 : zFL RX12 205 12 5 := ⟨RX12, TX12, 90, tyX12, zc12, by decide, zut7 (j := 90) rfl rfl⟩
theorem gX12_205 : zFW RX12 205 12 5 .int := ⟨RX12, TX12, 90, tyX12, zc12, by decide, zut7 (j := 90) rfl rfl, rfl, rfl⟩
theorem fX12_211 : zFL RX12 211 12 6 := ⟨RX12, TX12, 90, tyX12, zc12, by decide, zut7 (j := 91) rfl rfl⟩
theorem gX12_211 : zFW RX12 211 12 6 .int := ⟨RX12, TX12, 90, tyX12, zc12, by decide, zut7 (j := 91) rfl rfl, rfl, rfl⟩
theorem fX12_220 : zFL RX12 220 12 7 := ⟨RX12, TX12, 90, tyX12, zc12, by decide, zut7 (j := 92) rfl rfl⟩
theorem gX12_220 : zFW RX12 220 12 7 .int := ⟨RX12, TX12, 90, tyX12, zc12, by decide, zut7 (j := 92) rfl rfl, rfl, rfl⟩
theorem fX12_217 : zFL RX12 217 12 8 := ⟨RX12, TX12, 90, tyX12, zc12, by decide, zut7 (j := 93) rfl rfl⟩
theorem gX12_217 : zFW RX12 217 12 8 .int := ⟨RX12, TX12, 90, tyX12, zc12, by decide, zut7 (j := 93) rfl rfl, rfl, rfl⟩
theorem fX12_252 : zFL RX12 252 12 9 := ⟨RX12, TX12, 90, tyX12, zc12, by decide, zut7 (j := 94) rfl rfl⟩
theorem gX12_252 : zFW RX12 252 12 9 .int := ⟨RX12, TX12, 90, tyX12, zc12, by decide, zut7 (j := 94) rfl rfl, rfl, rfl⟩
theorem fX12_208 : zFL RX12 208 12 10 := ⟨RX12, TX12, 90, tyX12, zc12, by decide, zut7 (j := 95) rfl rfl⟩
theorem gX12_208 : zFW RX12 208 12 10 .int := ⟨RX12, TX12, 90, tyX12, zc12, by decide, zut7 (j := 95) rfl rfl, rfl, rfl⟩
theorem fX12_246 : zFL RX12 246 12 11 := ⟨RX12, TX12, 90, tyX12, zc12, by decide, zut7 (j := 96) rfl rfl⟩
theorem gX12_246 : zFW RX12 246 12 11 .long := ⟨RX12, TX12, 90, tyX12, zc12, by decide, zut7 (j := 96) rfl rfl, rfl, rfl⟩
theorem fX12_17 : zFL RX12 17 12 12 := ⟨RX12, TX12, 90, tyX12, zc12, by decide, zut7 (j := 97) rfl rfl⟩
theorem fX12_301 : zFL RX12 301 12 13 := ⟨RX12, TX12, 90, tyX12, zc12, by decide, zut7 (j := 98) rfl rfl⟩
theorem gX12_301 : zFW RX12 301 12 13 .int := ⟨RX12, TX12, 90, tyX12, zc12, by decide, zut7 (j := 98) rfl rfl, rfl, rfl⟩
theorem fX12_315 : zFL RX12 315 12 14 := ⟨RX12, TX12, 90, tyX12, zc12, by decide, zut7 (j := 99) rfl rfl⟩
theorem gX12_315 : zFW RX12 315 12 14 .int := ⟨RX12, TX12, 90, tyX12, zc12, by decide, zut7 (j := 99) rfl rfl, rfl, rfl⟩
theorem fX12_21 : zFL RX12 21 12 15 := ⟨RX12, TX12, 90, tyX12, zc12, by decide, zut7 (j := 100) rfl rfl⟩
theorem fX12_25 : zFL RX12 25 12 16 := ⟨RX12, TX12, 90, tyX12, zc12, by decide, zut7 (j := 101) rfl rfl⟩
theorem fX12_370 : zFL RX12 370 12 17 := ⟨RX12, TX12, 90, tyX12, zc12, by decide, zut7 (j := 102) rfl rfl⟩
theorem gX12_370 : zFW RX12 370 12 17 .int := ⟨RX12, TX12, 90, tyX12, zc12, by decide, zut7 (j := 102) rfl rfl, rfl, rfl⟩
theorem fX12_28 : zFL RX12 28 12 18 := ⟨RX12, TX12, 90, tyX12, zc12, by decide, zut7 (j := 103) rfl rfl⟩
theorem fX12_31 : zFL RX12 31 12 19 := ⟨RX12, TX12, 90, tyX12, zc12, by decide, zut7 (j := 104) rfl rfl⟩
theorem fX12_34 : zFL RX12 34 12 20 := ⟨RX12, TX12, 90, tyX12, zc12, by decide, zut7 (j := 105) rfl rfl⟩
theorem fX12_37 : zFL RX12 37 12 21 := ⟨RX12, TX12, 90, tyX12, zc12, by decide, zut7 (j := 106) rfl rfl⟩
theorem fX12_432 : zFL RX12 432 12 22 := ⟨RX12, TX12, 90, tyX12, zc12, by decide, zut7 (j := 107) rfl rfl⟩
theorem gX12_432 : zFW RX12 432 12 22 .int := ⟨RX12, TX12, 90, tyX12, zc12, by decide, zut7 (j := 107) rfl rfl, rfl, rfl⟩
theorem fX12_363 : zFL RX12 363 12 23 := ⟨RX12, TX12, 90, tyX12, zc12, by decide, zut7 (j := 108) rfl rfl⟩
theorem gX12_363 : zFW RX12 363 12 23 .int := ⟨RX12, TX12, 90, tyX12, zc12, by decide, zut7 (j := 108) rfl rfl, rfl, rfl⟩
theorem fX12_40 : zFL RX12 40 12 24 := ⟨RX12, TX12, 90, tyX12, zc12, by decide, zut7 (j := 109) rfl rfl⟩
theorem fX12_43 : zFL RX12 43 12 25 := ⟨RX12, TX12, 90, tyX12, zc12, by decide, zut7 (j := 110) rfl rfl⟩
theorem fX12_46 : zFL RX12 46 12 26 := ⟨RX12, TX12, 90, tyX12, zc12, by decide, zut7 (j := 111) rfl rfl⟩
theorem fX12_49 : zFL RX12 49 12 27 := ⟨RX12, TX12, 90, tyX12, zc12, by decide, zut7 (j := 112) rfl rfl⟩
theorem fX12_52 : zFL RX12 52 12 28 := ⟨RX12, TX12, 90, tyX12, zc12, by decide, zut7 (j := 113) rfl rfl⟩
theorem fX12_55 : zFL RX12 55 12 29 := ⟨RX12, TX12, 90, tyX12, zc12, by decide, zut7 (j := 114) rfl rfl⟩
theorem fX12_58 : zFL RX12 58 12 30 := ⟨RX12, TX12, 90, tyX12, zc12, by decide, zut7 (j := 115) rfl rfl⟩
theorem fX12_61 : zFL RX12 61 12 31 := ⟨RX12, TX12, 90, tyX12, zc12, by decide, zut7 (j := 116) rfl rfl⟩
theorem fX12_64 : zFL RX12 64 12 32 := ⟨RX12, TX12, 90, tyX12, zc12, by decide, zut7 (j := 117) rfl rfl⟩
theorem fX12_67 : zFL RX12 67 12 33 := ⟨RX12, TX12, 90, tyX12, zc12, by decide, zut7 (j := 118) rfl rfl⟩
theorem fX12_70 : zFL RX12 70 12 34 := ⟨RX12, TX12, 90, tyX12, zc12, by decide, zut7 (j := 119) rfl rfl⟩
theorem fX12_383 : zFL RX12 383 12 35 := ⟨RX12, TX12, 90, tyX12, zc12, by decide, zut7 (j := 120) rfl rfl⟩
theorem gX12_383 : zFW RX12 383 12 35 .int := ⟨RX12, TX12, 90, tyX12, zc12, by decide, zut7 (j := 120) rfl rfl, rfl, rfl⟩
theorem fX12_457 : zFL RX12 457 12 36 := ⟨RX12, TX12, 90, tyX12, zc12, by decide, zut7 (j := 121) rfl rfl⟩
theorem gX12_457 : zFW RX12 457 12 36 .int := ⟨RX12, TX12, 90, tyX12, zc12, by decide, zut7 (j := 121) rfl rfl, rfl, rfl⟩
theorem fX12_460 : zFL RX12 460 12 37 := ⟨RX12, TX12, 90, tyX12, zc12, by decide, zut7 (j := 122) rfl rfl⟩
theorem gX12_460 : zFW RX12 460 12 37 .int := ⟨RX12, TX12, 90, tyX12, zc12, by decide, zut7 (j := 122) rfl rfl, rfl, rfl⟩
theorem fX12_470 : zFL RX12 470 12 38 := ⟨RX12, TX12, 90, tyX12, zc12, by decide, zut7 (j := 123) rfl rfl⟩
theorem gX12_470 : zFW RX12 470 12 38 .int := ⟨RX12, TX12, 90, tyX12, zc12, by decide, zut7 (j := 123) rfl rfl, rfl, rfl⟩
theorem fX12_473 : zFL RX12 473 12 39 := ⟨RX12, TX12, 90, tyX12, zc12, by decide, zut7 (j := 124) rfl rfl⟩
theorem gX12_473 : zFW RX12 473 12 39 .int := ⟨RX12, TX12, 90, tyX12, zc12, by decide, zut7 (j := 124) rfl rfl, rfl, rfl⟩
theorem fX12_73 : zFL RX12 73 12 40 := ⟨RX12, TX12, 90, tyX12, zc12, by decide, zut7 (j := 125) rfl rfl⟩
theorem fX12_76 : zFL RX12 76 12 41 := ⟨RX12, TX12, 90, tyX12, zc12, by decide, zut7 (j := 126) rfl rfl⟩
theorem fX12_79 : zFL RX12 79 12 42 := ⟨RX12, TX12, 90, tyX12, zc12, by decide, zut7 (j := 127) rfl rfl⟩
theorem fX12_82 : zFL RX12 82 12 43 := ⟨RX12, TX12, 90, tyX12, zc12, by decide, zut7 (j := 128) rfl rfl⟩
theorem fX12_85 : zFL RX12 85 12 44 := ⟨RX12, TX12, 90, tyX12, zc12, by decide, zut7 (j := 129) rfl rfl⟩
theorem fX12_88 : zFL RX12 88 12 45 := ⟨RX12, TX12, 90, tyX12, zc12, by decide, zut7 (j := 130) rfl rfl⟩
theorem fX12_91 : zFL RX12 91 12 46 := ⟨RX12, TX12, 90, tyX12, zc12, by decide, zut7 (j := 131) rfl rfl⟩
theorem fX12_484 : zFL RX12 484 12 47 := ⟨RX12, TX12, 90, tyX12, zc12, by decide, zut7 (j := 132) rfl rfl⟩
theorem gX12_484 : zFW RX12 484 12 47 .int := ⟨RX12, TX12, 90, tyX12, zc12, by decide, zut7 (j := 132) rfl rfl, rfl, rfl⟩
theorem fX12_487 : zFL RX12 487 12 48 := ⟨RX12, TX12, 90, tyX12, zc12, by decide, zut7 (j := 133) rfl rfl⟩
theorem gX12_487 : zFW RX12 487 12 48 .int := ⟨RX12, TX12, 90, tyX12, zc12, by decide, zut7 (j := 133) rfl rfl, rfl, rfl⟩
theorem fX12_490 : zFL RX12 490 12 49 := ⟨RX12, TX12, 90, tyX12, zc12, by decide, zut7 (j := 134) rfl rfl⟩
theorem gX12_490 : zFW RX12 490 12 49 .int := ⟨RX12, TX12, 90, tyX12, zc12, by decide, zut7 (j := 134) rfl rfl, rfl, rfl⟩
theorem fX12_493 : zFL RX12 493 12 50 := ⟨RX12, TX12, 90, tyX12, zc12, by decide, zut7 (j := 135) rfl rfl⟩
theorem gX12_493 : zFW RX12 493 12 50 .long := ⟨RX12, TX12, 90, tyX12, zc12, by decide, zut7 (j := 135) rfl rfl, rfl, rfl⟩
theorem fX12_496 : zFL RX12 496 12 51 := ⟨RX12, TX12, 90, tyX12, zc12, by decide, zut7 (j := 136) rfl rfl⟩
theorem gX12_496 : zFW RX12 496 12 51 .boolean := ⟨RX12, TX12, 90, tyX12, zc12, by decide, zut7 (j := 136) rfl rfl, rfl, rfl⟩
theorem fX12_94 : zFL RX12 94 12 52 := ⟨RX12, TX12, 90, tyX12, zc12, by decide, zut7 (j := 137) rfl rfl⟩
theorem fX12_97 : zFL RX12 97 12 53 := ⟨RX12, TX12, 90, tyX12, zc12, by decide, zut7 (j := 138) rfl rfl⟩
theorem fX12_100 : zFL RX12 100 12 54 := ⟨RX12, TX12, 90, tyX12, zc12, by decide, zut7 (j := 139) rfl rfl⟩
theorem fX12_103 : zFL RX12 103 12 55 := ⟨RX12, TX12, 90, tyX12, zc12, by decide, zut7 (j := 140) rfl rfl⟩
theorem fX12_106 : zFL RX12 106 12 56 := ⟨RX12, TX12, 90, tyX12, zc12, by decide, zut7 (j := 141) rfl rfl⟩
theorem fX12_109 : zFL RX12 109 12 57 := ⟨RX12, TX12, 90, tyX12, zc12, by decide, zut7 (j := 142) rfl rfl⟩
theorem fX12_112 : zFL RX12 112 12 58 := ⟨RX12, TX12, 90, tyX12, zc12, by decide, zut7 (j := 143) rfl rfl⟩
theorem fX12_115 : zFL RX12 115 12 59 := ⟨RX12, TX12, 90, tyX12, zc12, by decide, zut7 (j := 144) rfl rfl⟩
theorem fX12_118 : zFL RX12 118 12 60 := ⟨RX12, TX12, 90, tyX12, zc12, by decide, zut7 (j := 145) rfl rfl⟩
theorem fX12_121 : zFL RX12 121 12 61 := ⟨RX12, TX12, 90, tyX12, zc12, by decide, zut7 (j := 146) rfl rfl⟩
theorem fX12_124 : zFL RX12 124 12 62 := ⟨RX12, TX12, 90, tyX12, zc12, by decide, zut7 (j := 147) rfl rfl⟩
theorem fX12_127 : zFL RX12 127 12 63 := ⟨RX12, TX12, 90, tyX12, zc12, by decide, zut7 (j := 148) rfl rfl⟩
theorem fX12_441 : zFL RX12 441 12 64 := ⟨RX12, TX12, 90, tyX12, zc12, by decide, zut7 (j := 149) rfl rfl⟩
theorem gX12_441 : zFW RX12 441 12 64 .int := ⟨RX12, TX12, 90, tyX12, zc12, by decide, zut7 (j := 149) rfl rfl, rfl, rfl⟩
theorem fX12_438 : zFL RX12 438 12 65 := ⟨RX12, TX12, 90, tyX12, zc12, by decide, zut7 (j := 150) rfl rfl⟩
theorem gX12_438 : zFW RX12 438 12 65 .int := ⟨RX12, TX12, 90, tyX12, zc12, by decide, zut7 (j := 150) rfl rfl, rfl, rfl⟩
theorem fX12_130 : zFL RX12 130 12 66 := ⟨RX12, TX12, 90, tyX12, zc12, by decide, zut7 (j := 151) rfl rfl⟩
theorem fX12_133 : zFL RX12 133 12 67 := ⟨RX12, TX12, 90, tyX12, zc12, by decide, zut7 (j := 152) rfl rfl⟩
theorem fX12_136 : zFL RX12 136 12 68 := ⟨RX12, TX12, 90, tyX12, zc12, by decide, zut7 (j := 153) rfl rfl⟩
theorem fX12_139 : zFL RX12 139 12 69 := ⟨RX12, TX12, 90, tyX12, zc12, by decide, zut7 (j := 154) rfl rfl⟩
theorem fX12_142 : zFL RX12 142 12 70 := ⟨RX12, TX12, 90, tyX12, zc12, by decide, zut7 (j := 155) rfl rfl⟩
theorem fX12_145 : zFL RX12 145 12 71 := ⟨RX12, TX12, 90, tyX12, zc12, by decide, zut7 (j := 156) rfl rfl⟩
theorem fX12_148 : zFL RX12 148 12 72 := ⟨RX12, TX12, 90, tyX12, zc12, by decide, zut7 (j := 157) rfl rfl⟩
theorem fX12_151 : zFL RX12 151 12 73 := ⟨RX12, TX12, 90, tyX12, zc12, by decide, zut7 (j := 158) rfl rfl⟩
theorem fX12_154 : zFL RX12 154 12 74 := ⟨RX12, TX12, 90, tyX12, zc12, by decide, zut7 (j := 159) rfl rfl⟩
theorem fX12_545 : zFL RX12 545 12 75 := ⟨RX12, TX12, 90, tyX12, zc12, by decide, zut7 (j := 160) rfl rfl⟩
theorem gX12_545 : zFW RX12 545 12 75 .int := ⟨RX12, TX12, 90, tyX12, zc12, by decide, zut7 (j := 160) rfl rfl, rfl, rfl⟩
theorem fX12_157 : zFL RX12 157 12 76 := ⟨RX12, TX12, 90, tyX12, zc12, by decide, zut7 (j := 161) rfl rfl⟩
theorem fX12_626 : zFL RX12 626 12 77 := ⟨RX12, TX12, 90, tyX12, zc12, by decide, zut7 (j := 162) rfl rfl⟩
theorem gX12_626 : zFW RX12 626 12 77 .int := ⟨RX12, TX12, 90, tyX12, zc12, by decide, zut7 (j := 162) rfl rfl, rfl, rfl⟩
theorem fX12_160 : zFL RX12 160 12 78 := ⟨RX12, TX12, 90, tyX12, zc12, by decide, zut7 (j := 163) rfl rfl⟩
theorem fX12_163 : zFL RX12 163 12 79 := ⟨RX12, TX12, 90, tyX12, zc12, by decide, zut7 (j := 164) rfl rfl⟩
theorem fX12_166 : zFL RX12 166 12 80 := ⟨RX12, TX12, 90, tyX12, zc12, by decide, zut7 (j := 165) rfl rfl⟩
theorem fX12_169 : zFL RX12 169 12 81 := ⟨RX12, TX12, 90, tyX12, zc12, by decide, zut7 (j := 166) rfl rfl⟩
theorem fX12_172 : zFL RX12 172 12 82 := ⟨RX12, TX12, 90, tyX12, zc12, by decide, zut7 (j := 167) rfl rfl⟩
theorem fX12_175 : zFL RX12 175 12 83 := ⟨RX12, TX12, 90, tyX12, zc12, by decide, zut7 (j := 168) rfl rfl⟩
theorem fX12_178 : zFL RX12 178 12 84 := ⟨RX12, TX12, 90, tyX12, zc12, by decide, zut7 (j := 169) rfl rfl⟩
theorem fX12_181 : zFL RX12 181 12 85 := ⟨RX12, TX12, 90, tyX12, zc12, by decide, zut7 (j := 170) rfl rfl⟩
theorem fX12_184 : zFL RX12 184 12 86 := ⟨RX12, TX12, 90, tyX12, zc12, by decide, zut7 (j := 171) rfl rfl⟩
theorem fX12_647 : zFL RX12 647 12 87 := ⟨RX12, TX12, 90, tyX12, zc12, by decide, zut7 (j := 172) rfl rfl⟩
theorem gX12_647 : zFW RX12 647 12 87 .int := ⟨RX12, TX12, 90, tyX12, zc12, by decide, zut7 (j := 172) rfl rfl, rfl, rfl⟩
theorem fX12_650 : zFL RX12 650 12 88 := ⟨RX12, TX12, 90, tyX12, zc12, by decide, zut7 (j := 173) rfl rfl⟩
theorem gX12_650 : zFW RX12 650 12 88 .int := ⟨RX12, TX12, 90, tyX12, zc12, by decide, zut7 (j := 173) rfl rfl, rfl, rfl⟩
theorem fX12_187 : zFL RX12 187 12 89 := ⟨RX12, TX12, 90, tyX12, zc12, by decide, zut7 (j := 174) rfl rfl⟩
abbrev mX0_init : zM := (yX0_init, cX0_init, 3, none)
abbrev mX0_readBody : zM := (yX0_readBody, cX0_readBody, 6, (some .boolean))
theorem vX0_readBody : zMv mX0_readBody 0 2 := ⟨zut4 (j := 102) rfl rfl, zut1 (j := 5) rfl rfl, zut4 (j := 100) rfl rfl, zut4 (j := 101) rfl rfl, ⟨by decide +kernel, by decide +kernel⟩, by decide +kernel, by decide, by decide, TX0, 11, rfl⟩
abbrev mX0_openLevel : zM := (yX0_openLevel, cX0_openLevel, 1, none)
theorem vX0_openLevel : zMv mX0_openLevel 0 0 := ⟨zut4 (j := 106) rfl rfl, zut1 (j := 5) rfl rfl, zut4 (j := 105) rfl rfl, zus1 (j := 15) rfl, ⟨by decide +kernel, by decide +kernel⟩, by decide +kernel, by decide, by decide, TX0, 11, rfl⟩
abbrev mX0_openMeet : zM := (yX0_openMeet, cX0_openMeet, 1, none)
theorem vX0_openMeet : zMv mX0_openMeet 0 0 := ⟨zut4 (j := 114) rfl rfl, zut1 (j := 5) rfl rfl, zut4 (j := 113) rfl rfl, zus2 (j := 0) rfl, ⟨by decide +kernel, by decide +kernel⟩, by decide +kernel, by decide, by decide, TX0, 11, rfl⟩
abbrev mX0_closeMeet : zM := (yX0_closeMeet, cX0_closeMeet, 2, none)
theorem vX0_closeMeet : zMv mX0_closeMeet 0 0 := ⟨zut4 (j := 127) rfl rfl, zut1 (j := 5) rfl rfl, zut4 (j := 126) rfl rfl, zus2 (j := 2) rfl, ⟨by decide +kernel, by decide +kernel⟩, by decide +kernel, by decide, by decide, TX0, 11, rfl⟩
abbrev mX0_closePart : zM := (yX0_closePart, cX0_closePart, 4, none)
theorem vX0_closePart : zMv mX0_closePart 0 1 := ⟨zut4 (j := 144) rfl rfl, zut1 (j := 5) rfl rfl, zut4 (j := 143) rfl rfl, zus2 (j := 4) rfl, ⟨by decide +kernel, by decide +kernel⟩, by decide +kernel, by decide, by decide, TX0, 11, rfl⟩
abbrev mX0_readPart : zM := (yX0_readPart, cX0_readPart, 3, (some .boolean))
theorem vX0_readPart : zMv mX0_readPart 0 1 := ⟨zut4 (j := 149) rfl rfl, zut1 (j := 5) rfl rfl, zut4 (j := 148) rfl rfl, zus2 (j := 5) rfl, ⟨by decide +kernel, by decide +kernel⟩, by decide +kernel, by decide, by decide, TX0, 11, rfl⟩
abbrev mX0_readName : zM := (yX0_readName, cX0_readName, 3, (some .boolean))
theorem vX0_readName : zMv mX0_readName 0 1 := ⟨zut4 (j := 163) rfl rfl, zut1 (j := 5) rfl rfl, zut4 (j := 162) rfl rfl, zus2 (j := 8) rfl, ⟨by decide +kernel, by decide +kernel⟩, by decide +kernel, by decide, by decide, TX0, 11, rfl⟩
abbrev mX0_readRanges : zM := (yX0_readRanges, cX0_readRanges, 5, (some .boolean))
theorem vX0_readRanges : zMv mX0_readRanges 0 0 := ⟨zut4 (j := 154) rfl rfl, zut1 (j := 5) rfl rfl, zut4 (j := 153) rfl rfl, zus2 (j := 6) rfl, ⟨by decide +kernel, by decide +kernel⟩, by decide +kernel, by decide, by decide, TX0, 11, rfl⟩
abbrev mX0_readBound : zM := (yX0_readBound, cX0_readBound, 4, (some .int))
theorem vX0_readBound : zMv mX0_readBound 0 1 := ⟨zut4 (j := 158) rfl rfl, zut1 (j := 5) rfl rfl, zut4 (j := 157) rfl rfl, zus2 (j := 7) rfl, ⟨by decide +kernel, by decide +kernel⟩, by decide +kernel, by decide, by decide, TX0, 11, rfl⟩
abbrev mX0_readSign : zM := (yX0_readSign, cX0_readSign, 2, (some .boolean))
theorem vX0_readSign : zMv mX0_readSign 0 0 := ⟨zut4 (j := 123) rfl rfl, zut1 (j := 5) rfl rfl, zut4 (j := 122) rfl rfl, zus2 (j := 1) rfl, ⟨by decide +kernel, by decide +kernel⟩, by decide +kernel, by decide, by decide, TX0, 11, rfl⟩
abbrev mX1_init : zM := (yX1_init, cX1_init, 1, none)
abbrev mX1_fill : zM := (yX1_fill, cX1_fill, 8, none)
theorem vX1_fill : zMv mX1_fill 1 2 := ⟨zut6 (j := 20) rfl rfl, zut1 (j := 12) rfl rfl, zut6 (j := 18) rfl rfl, zut6 (j := 19) rfl rfl, ⟨by decide +kernel, by decide +kernel⟩, by decide +kernel, by decide, by decide, TX1, 1, rfl⟩
abbrev mX1_behindSheaf : zM := (yX1_behindSheaf, cX1_behindSheaf, 3, (some .long))
theorem vX1_behindSheaf : zMv mX1_behindSheaf 1 2 := ⟨zut6 (j := 27) rfl rfl, zut1 (j := 12) rfl rfl, zut6 (j := 25) rfl rfl, zut6 (j := 26) rfl rfl, ⟨by decide +kernel, by decide +kernel⟩, by decide +kernel, by decide, by decide, TX1, 1, rfl⟩
abbrev mX1_aheadOf : zM := (yX1_aheadOf, cX1_aheadOf, 11, (some .long))
theorem vX1_aheadOf : zMv mX1_aheadOf 1 3 := ⟨zut6 (j := 31) rfl rfl, zut1 (j := 12) rfl rfl, zut6 (j := 29) rfl rfl, zut6 (j := 30) rfl rfl, ⟨by decide +kernel, by decide +kernel⟩, by decide +kernel, by decide, by decide, TX1, 1, rfl⟩
abbrev mX1_letterOfKth : zM := (yX1_letterOfKth, cX1_letterOfKth, 14, (some .int))
theorem vX1_letterOfKth : zMv mX1_letterOfKth 1 4 := ⟨zut6 (j := 47) rfl rfl, zut1 (j := 12) rfl rfl, zut6 (j := 45) rfl rfl, zut6 (j := 46) rfl rfl, ⟨by decide +kernel, by decide +kernel⟩, by decide +kernel, by decide, by decide, TX1, 1, rfl⟩
abbrev mX2_init : zM := (yX2_init, cX2_init, 1, none)
abbrev mX2_begin : zM := (yX2_begin, cX2_begin, 2, none)
theorem vX2_begin : zMv mX2_begin 2 1 := ⟨zut4 (j := 185) rfl rfl, zut1 (j := 2) rfl rfl, zut4 (j := 183) rfl rfl, zut4 (j := 184) rfl rfl, ⟨by decide +kernel, by decide +kernel⟩, by decide +kernel, by decide, by decide, TX2, 13, rfl⟩
abbrev mX2_cut : zM := (yX2_cut, cX2_cut, 4, none)
theorem vX2_cut : zMv mX2_cut 2 1 := ⟨zut3 (j := 237) rfl rfl, zut1 (j := 2) rfl rfl, zut3 (j := 235) rfl rfl, zut3 (j := 236) rfl rfl, ⟨by decide +kernel, by decide +kernel⟩, by decide +kernel, by decide, by decide, TX2, 13, rfl⟩
abbrev mX2_cutBy : zM := (yX2_cutBy, cX2_cutBy, 3, none)
theorem vX2_cutBy : zMv mX2_cutBy 2 1 := ⟨zut3 (j := 233) rfl rfl, zut1 (j := 2) rfl rfl, zut3 (j := 231) rfl rfl, zut3 (j := 232) rfl rfl, ⟨by decide +kernel, by decide +kernel⟩, by decide +kernel, by decide, by decide, TX2, 13, rfl⟩
abbrev mX2_cutLike : zM := (yX2_cutLike, cX2_cutLike, 4, none)
theorem vX2_cutLike : zMv mX2_cutLike 2 2 := ⟨zut6 (j := 78) rfl rfl, zut1 (j := 2) rfl rfl, zut6 (j := 76) rfl rfl, zut6 (j := 77) rfl rfl, ⟨by decide +kernel, by decide +kernel⟩, by decide +kernel, by decide, by decide, TX2, 13, rfl⟩
abbrev mX2_trace : zM := (yX2_trace, cX2_trace, 5, none)
theorem vX2_trace : zMv mX2_trace 2 2 := ⟨zut6 (j := 170) rfl rfl, zut1 (j := 2) rfl rfl, zut6 (j := 168) rfl rfl, zut6 (j := 169) rfl rfl, ⟨by decide +kernel, by decide +kernel⟩, by decide +kernel, by decide, by decide, TX2, 13, rfl⟩
abbrev mX2_leaveOutside : zM := (yX2_leaveOutside, cX2_leaveOutside, 3, none)
theorem vX2_leaveOutside : zMv mX2_leaveOutside 2 1 := ⟨zut6 (j := 220) rfl rfl, zut1 (j := 2) rfl rfl, zut6 (j := 218) rfl rfl, zut6 (j := 219) rfl rfl, ⟨by decide +kernel, by decide +kernel⟩, by decide +kernel, by decide, by decide, TX2, 13, rfl⟩
abbrev mX2_addEdge : zM := (yX2_addEdge, cX2_addEdge, 4, (some .int))
theorem vX2_addEdge : zMv mX2_addEdge 2 2 := ⟨zut4 (j := 197) rfl rfl, zut1 (j := 2) rfl rfl, zut4 (j := 195) rfl rfl, zut4 (j := 196) rfl rfl, ⟨by decide +kernel, by decide +kernel⟩, by decide +kernel, by decide, by decide, TX2, 13, rfl⟩
abbrev mX2_addFree : zM := (yX2_addFree, cX2_addFree, 3, none)
theorem vX2_addFree : zMv mX2_addFree 2 2 := ⟨zut4 (j := 205) rfl rfl, zut1 (j := 2) rfl rfl, zut4 (j := 203) rfl rfl, zut4 (j := 204) rfl rfl, ⟨by decide +kernel, by decide +kernel⟩, by decide +kernel, by decide, by decide, TX2, 13, rfl⟩
abbrev mX2_freeFromEach : zM := (yX2_freeFromEach, cX2_freeFromEach, 6, none)
theorem vX2_freeFromEach : zMv mX2_freeFromEach 2 3 := ⟨zut6 (j := 190) rfl rfl, zut1 (j := 2) rfl rfl, zut6 (j := 188) rfl rfl, zut6 (j := 189) rfl rfl, ⟨by decide +kernel, by decide +kernel⟩, by decide +kernel, by decide, by decide, TX2, 13, rfl⟩
abbrev mX2_freeToEach : zM := (yX2_freeToEach, cX2_freeToEach, 5, none)
theorem vX2_freeToEach : zMv mX2_freeToEach 2 2 := ⟨zut6 (j := 210) rfl rfl, zut1 (j := 2) rfl rfl, zut6 (j := 208) rfl rfl, zut6 (j := 209) rfl rfl, ⟨by decide +kernel, by decide +kernel⟩, by decide +kernel, by decide, by decide, TX2, 13, rfl⟩
abbrev mX2_isMarked : zM := (yX2_isMarked, cX2_isMarked, 3, (some .boolean))
theorem vX2_isMarked : zMv mX2_isMarked 2 2 := ⟨zut4 (j := 32) rfl rfl, zut1 (j := 2) rfl rfl, zut4 (j := 30) rfl rfl, zut4 (j := 31) rfl rfl, ⟨by decide +kernel, by decide +kernel⟩, by decide +kernel, by decide, by decide, TX2, 13, rfl⟩
abbrev mX2_mark : zM := (yX2_mark, cX2_mark, 3, none)
theorem vX2_mark : zMv mX2_mark 2 2 := ⟨zut4 (j := 10) rfl rfl, zut1 (j := 2) rfl rfl, zut4 (j := 8) rfl rfl, zut4 (j := 9) rfl rfl, ⟨by decide +kernel, by decide +kernel⟩, by decide +kernel, by decide, by decide, TX2, 13, rfl⟩
abbrev mX2_markSet : zM := (yX2_markSet, cX2_markSet, 4, none)
theorem vX2_markSet : zMv mX2_markSet 2 2 := ⟨zut4 (j := 2) rfl rfl, zut1 (j := 2) rfl rfl, zut4 (j := 0) rfl rfl, zut4 (j := 1) rfl rfl, ⟨by decide +kernel, by decide +kernel⟩, by decide +kernel, by decide, by decide, TX2, 13, rfl⟩
abbrev mX2_lead : zM := (yX2_lead, cX2_lead, 5, none)
theorem vX2_lead : zMv mX2_lead 2 3 := ⟨zut6 (j := 131) rfl rfl, zut1 (j := 2) rfl rfl, zut6 (j := 129) rfl rfl, zut6 (j := 130) rfl rfl, ⟨by decide +kernel, by decide +kernel⟩, by decide +kernel, by decide, by decide, TX2, 13, rfl⟩
abbrev mX2_copyWhole : zM := (yX2_copyWhole, cX2_copyWhole, 4, none)
theorem vX2_copyWhole : zMv mX2_copyWhole 2 3 := ⟨zut6 (j := 199) rfl rfl, zut1 (j := 2) rfl rfl, zut6 (j := 197) rfl rfl, zut6 (j := 198) rfl rfl, ⟨by decide +kernel, by decide +kernel⟩, by decide +kernel, by decide, by decide, TX2, 13, rfl⟩
abbrev mX2_copyEdges : zM := (yX2_copyEdges, cX2_copyEdges, 7, none)
theorem vX2_copyEdges : zMv mX2_copyEdges 2 3 := ⟨zut6 (j := 176) rfl rfl, zut1 (j := 2) rfl rfl, zut6 (j := 174) rfl rfl, zut6 (j := 175) rfl rfl, ⟨by decide +kernel, by decide +kernel⟩, by decide +kernel, by decide, by decide, TX2, 13, rfl⟩
abbrev mX2_copyFilledEdges : zM := (yX2_copyFilledEdges, cX2_copyFilledEdges, 4, none)
theorem vX2_copyFilledEdges : zMv mX2_copyFilledEdges 2 1 := ⟨zut6 (j := 224) rfl rfl, zut1 (j := 2) rfl rfl, zut6 (j := 222) rfl rfl, zut6 (j := 223) rfl rfl, ⟨by decide +kernel, by decide +kernel⟩, by decide +kernel, by decide, by decide, TX2, 13, rfl⟩
abbrev mX2_copyFrees : zM := (yX2_copyFrees, cX2_copyFrees, 7, none)
theorem vX2_copyFrees : zMv mX2_copyFrees 2 3 := ⟨zut6 (j := 185) rfl rfl, zut1 (j := 2) rfl rfl, zut6 (j := 183) rfl rfl, zut6 (j := 184) rfl rfl, ⟨by decide +kernel, by decide +kernel⟩, by decide +kernel, by decide, by decide, TX2, 13, rfl⟩
abbrev mX2_drawSheaves : zM := (yX2_drawSheaves, cX2_drawSheaves, 4, none)
theorem vX2_drawSheaves : zMv mX2_drawSheaves 2 1 := ⟨zut6 (j := 124) rfl rfl, zut1 (j := 2) rfl rfl, zut6 (j := 122) rfl rfl, zut6 (j := 123) rfl rfl, ⟨by decide +kernel, by decide +kernel⟩, by decide +kernel, by decide, by decide, TX2, 13, rfl⟩
abbrev mX2_drawClasses : zM := (yX2_drawClasses, cX2_drawClasses, 5, none)
theorem vX2_drawClasses : zMv mX2_drawClasses 2 2 := ⟨zut6 (j := 145) rfl rfl, zut1 (j := 2) rfl rfl, zut6 (j := 143) rfl rfl, zut6 (j := 144) rfl rfl, ⟨by decide +kernel, by decide +kernel⟩, by decide +kernel, by decide, by decide, TX2, 13, rfl⟩
abbrev mX2_copyMarks : zM := (yX2_copyMarks, cX2_copyMarks, 6, (some .int))
theorem vX2_copyMarks : zMv mX2_copyMarks 2 3 := ⟨zut6 (j := 180) rfl rfl, zut1 (j := 2) rfl rfl, zut6 (j := 179) rfl rfl, zus4 (j := 0) rfl, ⟨by decide +kernel, by decide +kernel⟩, by decide +kernel, by decide, by decide, TX2, 13, rfl⟩
abbrev mX3_init : zM := (yX3_init, cX3_init, 2, none)
abbrev mX3_rangeCount : zM := (yX3_rangeCount, cX3_rangeCount, 1, (some .int))
theorem vX3_rangeCount : zMv mX3_rangeCount 3 0 := ⟨zut4 (j := 172) rfl rfl, zut1 (j := 6) rfl rfl, zut4 (j := 170) rfl rfl, zut4 (j := 171) rfl rfl, ⟨by decide +kernel, by decide +kernel⟩, by decide +kernel, by decide, by decide, TX3, 2, rfl⟩
abbrev mX3_bound : zM := (yX3_bound, cX3_bound, 4, (some .int))
theorem vX3_bound : zMv mX3_bound 3 2 := ⟨zut5 (j := 4) rfl rfl, zut1 (j := 6) rfl rfl, zut5 (j := 2) rfl rfl, zut5 (j := 3) rfl rfl, ⟨by decide +kernel, by decide +kernel⟩, by decide +kernel, by decide, by decide, TX3, 2, rfl⟩
abbrev mX3_amount : zM := (yX3_amount, cX3_amount, 3, (some .int))
theorem vX3_amount : zMv mX3_amount 3 0 := ⟨zut5 (j := 13) rfl rfl, zut1 (j := 6) rfl rfl, zut5 (j := 11) rfl rfl, zut5 (j := 12) rfl rfl, ⟨by decide +kernel, by decide +kernel⟩, by decide +kernel, by decide, by decide, TX3, 2, rfl⟩
abbrev mX3_holds : zM := (yX3_holds, cX3_holds, 3, (some .boolean))
theorem vX3_holds : zMv mX3_holds 3 1 := ⟨zut4 (j := 6) rfl rfl, zut1 (j := 6) rfl rfl, zut4 (j := 4) rfl rfl, zut4 (j := 5) rfl rfl, ⟨by decide +kernel, by decide +kernel⟩, by decide +kernel, by decide, by decide, TX3, 2, rfl⟩
abbrev mX3_clear : zM := (yX3_clear, cX3_clear, 1, none)
theorem vX3_clear : zMv mX3_clear 3 0 := ⟨zut4 (j := 110) rfl rfl, zut1 (j := 6) rfl rfl, zut4 (j := 108) rfl rfl, zut4 (j := 109) rfl rfl, ⟨by decide +kernel, by decide +kernel⟩, by decide +kernel, by decide, by decide, TX3, 2, rfl⟩
abbrev mX3_become : zM := (yX3_become, cX3_become, 3, none)
theorem vX3_become : zMv mX3_become 3 2 := ⟨zut4 (j := 119) rfl rfl, zut1 (j := 6) rfl rfl, zut4 (j := 117) rfl rfl, zut4 (j := 118) rfl rfl, ⟨by decide +kernel, by decide +kernel⟩, by decide +kernel, by decide, by decide, TX3, 2, rfl⟩
abbrev mX3_copy : zM := (yX3_copy, cX3_copy, 3, none)
theorem vX3_copy : zMv mX3_copy 3 1 := ⟨zut4 (j := 168) rfl rfl, zut1 (j := 6) rfl rfl, zut4 (j := 166) rfl rfl, zut4 (j := 167) rfl rfl, ⟨by decide +kernel, by decide +kernel⟩, by decide +kernel, by decide, by decide, TX3, 2, rfl⟩
abbrev mX3_combine : zM := (yX3_combine, cX3_combine, 11, none)
theorem vX3_combine : zMv mX3_combine 3 3 := ⟨zut4 (j := 131) rfl rfl, zut1 (j := 6) rfl rfl, zut4 (j := 129) rfl rfl, zut4 (j := 130) rfl rfl, ⟨by decide +kernel, by decide +kernel⟩, by decide +kernel, by decide, by decide, TX3, 2, rfl⟩
abbrev mX3_addCut : zM := (yX3_addCut, cX3_addCut, 2, none)
theorem vX3_addCut : zMv mX3_addCut 3 1 := ⟨zut4 (j := 139) rfl rfl, zut1 (j := 6) rfl rfl, zut4 (j := 138) rfl rfl, zus2 (j := 3) rfl, ⟨by decide +kernel, by decide +kernel⟩, by decide +kernel, by decide, by decide, TX3, 2, rfl⟩
abbrev mX4_init : zM := (yX4_init, cX4_init, 1, none)
abbrev mX4_settle : zM := (yX4_settle, cX4_settle, 2, (some .boolean))
theorem vX4_settle : zMv mX4_settle 4 1 := ⟨zut4 (j := 14) rfl rfl, zut1 (j := 9) rfl rfl, zut4 (j := 12) rfl rfl, zut4 (j := 13) rfl rfl, ⟨by decide +kernel, by decide +kernel⟩, by decide +kernel, by decide, by decide, TX4, 12, rfl⟩
abbrev mX4_takeBlocks : zM := (yX4_takeBlocks, cX4_takeBlocks, 4, (some .boolean))
theorem vX4_takeBlocks : zMv mX4_takeBlocks 4 1 := ⟨zut4 (j := 21) rfl rfl, zut1 (j := 9) rfl rfl, zut4 (j := 20) rfl rfl, zus1 (j := 5) rfl, ⟨by decide +kernel, by decide +kernel⟩, by decide +kernel, by decide, by decide, TX4, 12, rfl⟩
abbrev mX4_beginsBlock : zM := (yX4_beginsBlock, cX4_beginsBlock, 5, (some .boolean))
theorem vX4_beginsBlock : zMv mX4_beginsBlock 4 2 := ⟨zut4 (j := 28) rfl rfl, zut1 (j := 9) rfl rfl, zut4 (j := 27) rfl rfl, zus1 (j := 6) rfl, ⟨by decide +kernel, by decide +kernel⟩, by decide +kernel, by decide, by decide, TX4, 12, rfl⟩
abbrev mX4_edgeHas : zM := (yX4_edgeHas, cX4_edgeHas, 3, (some .boolean))
theorem vX4_edgeHas : zMv mX4_edgeHas 4 2 := ⟨zut4 (j := 53) rfl rfl, zut1 (j := 9) rfl rfl, zut4 (j := 51) rfl rfl, zut4 (j := 52) rfl rfl, ⟨by decide +kernel, by decide +kernel⟩, by decide +kernel, by decide, by decide, TX4, 12, rfl⟩
abbrev mX4_edgeIsFilled : zM := (yX4_edgeIsFilled, cX4_edgeIsFilled, 2, (some .boolean))
theorem vX4_edgeIsFilled : zMv mX4_edgeIsFilled 4 1 := ⟨zut5 (j := 123) rfl rfl, zut1 (j := 9) rfl rfl, zut5 (j := 121) rfl rfl, zut5 (j := 122) rfl rfl, ⟨by decide +kernel, by decide +kernel⟩, by decide +kernel, by decide, by decide, TX4, 12, rfl⟩
abbrev mX4_blockOf : zM := (yX4_blockOf, cX4_blockOf, 3, (some .int))
theorem vX4_blockOf : zMv mX4_blockOf 4 1 := ⟨zut5 (j := 167) rfl rfl, zut1 (j := 9) rfl rfl, zut5 (j := 165) rfl rfl, zut5 (j := 166) rfl rfl, ⟨by decide +kernel, by decide +kernel⟩, by decide +kernel, by decide, by decide, TX4, 12, rfl⟩
abbrev mX4_endOf : zM := (yX4_endOf, cX4_endOf, 2, (some .int))
theorem vX4_endOf : zMv mX4_endOf 4 1 := ⟨zut5 (j := 75) rfl rfl, zut1 (j := 9) rfl rfl, zut5 (j := 73) rfl rfl, zut5 (j := 74) rfl rfl, ⟨by decide +kernel, by decide +kernel⟩, by decide +kernel, by decide, by decide, TX4, 12, rfl⟩
abbrev mX4_lengthOf : zM := (yX4_lengthOf, cX4_lengthOf, 2, (some .int))
theorem vX4_lengthOf : zMv mX4_lengthOf 4 1 := ⟨zut5 (j := 71) rfl rfl, zut1 (j := 9) rfl rfl, zut5 (j := 69) rfl rfl, zut5 (j := 70) rfl rfl, ⟨by decide +kernel, by decide +kernel⟩, by decide +kernel, by decide, by decide, TX4, 12, rfl⟩
abbrev mX4_howMany : zM := (yX4_howMany, cX4_howMany, 2, (some .int))
theorem vX4_howMany : zMv mX4_howMany 4 1 := ⟨zut5 (j := 48) rfl rfl, zut1 (j := 9) rfl rfl, zut5 (j := 46) rfl rfl, zut5 (j := 47) rfl rfl, ⟨by decide +kernel, by decide +kernel⟩, by decide +kernel, by decide, by decide, TX4, 12, rfl⟩
abbrev mX4_edgeRanges : zM := (yX4_edgeRanges, cX4_edgeRanges, 4, (some .int))
theorem vX4_edgeRanges : zMv mX4_edgeRanges 4 1 := ⟨zut5 (j := 62) rfl rfl, zut1 (j := 9) rfl rfl, zut5 (j := 60) rfl rfl, zut5 (j := 61) rfl rfl, ⟨by decide +kernel, by decide +kernel⟩, by decide +kernel, by decide, by decide, TX4, 12, rfl⟩
abbrev mX4_edgeLetters : zM := (yX4_edgeLetters, cX4_edgeLetters, 4, (some .int))
theorem vX4_edgeLetters : zMv mX4_edgeLetters 4 1 := ⟨zut5 (j := 67) rfl rfl, zut1 (j := 9) rfl rfl, zut5 (j := 65) rfl rfl, zut5 (j := 66) rfl rfl, ⟨by decide +kernel, by decide +kernel⟩, by decide +kernel, by decide, by decide, TX4, 12, rfl⟩
abbrev mX4_edgeBound : zM := (yX4_edgeBound, cX4_edgeBound, 8, (some .int))
theorem vX4_edgeBound : zMv mX4_edgeBound 4 3 := ⟨zut5 (j := 84) rfl rfl, zut1 (j := 9) rfl rfl, zut5 (j := 82) rfl rfl, zut5 (j := 83) rfl rfl, ⟨by decide +kernel, by decide +kernel⟩, by decide +kernel, by decide, by decide, TX4, 12, rfl⟩
abbrev mX4_edgesWith : zM := (yX4_edgesWith, cX4_edgesWith, 5, (some .int))
theorem vX4_edgesWith : zMv mX4_edgesWith 4 2 := ⟨zut5 (j := 155) rfl rfl, zut1 (j := 9) rfl rfl, zut5 (j := 153) rfl rfl, zut5 (j := 154) rfl rfl, ⟨by decide +kernel, by decide +kernel⟩, by decide +kernel, by decide, by decide, TX4, 12, rfl⟩
abbrev mX4_uselessStates : zM := (yX4_uselessStates, cX4_uselessStates, 3, (some .long))
theorem vX4_uselessStates : zMv mX4_uselessStates 4 0 := ⟨zut5 (j := 112) rfl rfl, zut1 (j := 9) rfl rfl, zut5 (j := 110) rfl rfl, zut5 (j := 111) rfl rfl, ⟨by decide +kernel, by decide +kernel⟩, by decide +kernel, by decide, by decide, TX4, 12, rfl⟩
abbrev mX4_spread : zM := (yX4_spread, cX4_spread, 8, (some .long))
theorem vX4_spread : zMv mX4_spread 4 2 := ⟨zut5 (j := 116) rfl rfl, zut1 (j := 9) rfl rfl, zut5 (j := 115) rfl rfl, zus3 (j := 4) rfl, ⟨by decide +kernel, by decide +kernel⟩, by decide +kernel, by decide, by decide, TX4, 12, rfl⟩
abbrev mX4_carry : zM := (yX4_carry, cX4_carry, 7, (some .long))
theorem sX4_carry : zMs mX4_carry 4 := ⟨zut5 (j := 119) rfl rfl, zut1 (j := 9) rfl rfl, zut5 (j := 118) rfl rfl, ⟨by decide +kernel, by decide +kernel⟩, by decide +kernel, by decide⟩
abbrev mX5_init : zM := (yX5_init, cX5_init, 1, none)
abbrev mX5_group : zM := (yX5_group, cX5_group, 4, none)
theorem vX5_group : zMv mX5_group 5 2 := ⟨zut5 (j := 132) rfl rfl, zut1 (j := 13) rfl rfl, zut5 (j := 130) rfl rfl, zut5 (j := 131) rfl rfl, ⟨by decide +kernel, by decide +kernel⟩, by decide +kernel, by decide, by decide, TX5, 3, rfl⟩
abbrev mX5_partBy : zM := (yX5_partBy, cX5_partBy, 5, none)
theorem vX5_partBy : zMv mX5_partBy 5 2 := ⟨zut5 (j := 137) rfl rfl, zut1 (j := 13) rfl rfl, zut5 (j := 136) rfl rfl, zus3 (j := 5) rfl, ⟨by decide +kernel, by decide +kernel⟩, by decide +kernel, by decide, by decide, TX5, 3, rfl⟩
abbrev mX5_leaderOf : zM := (yX5_leaderOf, cX5_leaderOf, 4, (some .int))
theorem vX5_leaderOf : zMv mX5_leaderOf 5 2 := ⟨zut5 (j := 146) rfl rfl, zut1 (j := 13) rfl rfl, zut5 (j := 144) rfl rfl, zut5 (j := 145) rfl rfl, ⟨by decide +kernel, by decide +kernel⟩, by decide +kernel, by decide, by decide, TX5, 3, rfl⟩
abbrev mX5_amountOf : zM := (yX5_amountOf, cX5_amountOf, 5, (some .int))
theorem vX5_amountOf : zMv mX5_amountOf 5 2 := ⟨zut5 (j := 150) rfl rfl, zut1 (j := 13) rfl rfl, zut5 (j := 148) rfl rfl, zut5 (j := 149) rfl rfl, ⟨by decide +kernel, by decide +kernel⟩, by decide +kernel, by decide, by decide, TX5, 3, rfl⟩
abbrev mX6_init : zM := (yX6_init, cX6_init, 2, none)
abbrev mX6_firstOf : zM := (yX6_firstOf, cX6_firstOf, 5, (some .int))
theorem vX6_firstOf : zMv mX6_firstOf 6 3 := ⟨zut6 (j := 69) rfl rfl, zut1 (j := 11) rfl rfl, zut6 (j := 67) rfl rfl, zut6 (j := 68) rfl rfl, ⟨by decide +kernel, by decide +kernel⟩, by decide +kernel, by decide, by decide, TX6, 10, rfl⟩
abbrev mX6_drawAll : zM := (yX6_drawAll, cX6_drawAll, 6, (some .boolean))
theorem vX6_drawAll : zMv mX6_drawAll 6 3 := ⟨zut6 (j := 159) rfl rfl, zut1 (j := 11) rfl rfl, zut6 (j := 157) rfl rfl, zut6 (j := 158) rfl rfl, ⟨by decide +kernel, by decide +kernel⟩, by decide +kernel, by decide, by decide, TX6, 10, rfl⟩
abbrev mX6_letterOnWay : zM := (yX6_letterOnWay, cX6_letterOnWay, 5, (some .int))
theorem vX6_letterOnWay : zMv mX6_letterOnWay 6 2 := ⟨zut6 (j := 107) rfl rfl, zut1 (j := 11) rfl rfl, zut6 (j := 105) rfl rfl, zut6 (j := 106) rfl rfl, ⟨by decide +kernel, by decide +kernel⟩, by decide +kernel, by decide, by decide, TX6, 10, rfl⟩
abbrev mX6_begin : zM := (yX6_begin, cX6_begin, 4, none)
theorem vX6_begin : zMv mX6_begin 6 2 := ⟨zut6 (j := 73) rfl rfl, zut1 (j := 11) rfl rfl, zut6 (j := 72) rfl rfl, zus3 (j := 10) rfl, ⟨by decide +kernel, by decide +kernel⟩, by decide +kernel, by decide, by decide, TX6, 10, rfl⟩
abbrev mX6_isTrueOf : zM := (yX6_isTrueOf, cX6_isTrueOf, 5, (some .boolean))
theorem vX6_isTrueOf : zMv mX6_isTrueOf 6 4 := ⟨zut6 (j := 88) rfl rfl, zut1 (j := 11) rfl rfl, zut6 (j := 87) rfl rfl, zus3 (j := 12) rfl, ⟨by decide +kernel, by decide +kernel⟩, by decide +kernel, by decide, by decide, TX6, 10, rfl⟩
abbrev mX6_keyAfter : zM := (yX6_keyAfter, cX6_keyAfter, 5, (some .int))
theorem vX6_keyAfter : zMv mX6_keyAfter 6 4 := ⟨zut6 (j := 98) rfl rfl, zut1 (j := 11) rfl rfl, zut6 (j := 97) rfl rfl, zus3 (j := 14) rfl, ⟨by decide +kernel, by decide +kernel⟩, by decide +kernel, by decide, by decide, TX6, 10, rfl⟩
abbrev mX6_widen : zM := (yX6_widen, cX6_widen, 6, none)
theorem vX6_widen : zMv mX6_widen 6 3 := ⟨zut6 (j := 94) rfl rfl, zut1 (j := 11) rfl rfl, zut6 (j := 93) rfl rfl, zus3 (j := 13) rfl, ⟨by decide +kernel, by decide +kernel⟩, by decide +kernel, by decide, by decide, TX6, 10, rfl⟩
abbrev mX6_add : zM := (yX6_add, cX6_add, 4, none)
theorem vX6_add : zMv mX6_add 6 3 := ⟨zut6 (j := 84) rfl rfl, zut1 (j := 11) rfl rfl, zut6 (j := 83) rfl rfl, zus3 (j := 11) rfl, ⟨by decide +kernel, by decide +kernel⟩, by decide +kernel, by decide, by decide, TX6, 10, rfl⟩
abbrev mX7_init : zM := (yX7_init, cX7_init, 1, none)
abbrev mX7_findSheaves : zM := (yX7_findSheaves, cX7_findSheaves, 5, (some .boolean))
theorem vX7_findSheaves : zMv mX7_findSheaves 7 1 := ⟨zut4 (j := 36) rfl rfl, zut1 (j := 10) rfl rfl, zut4 (j := 34) rfl rfl, zut4 (j := 35) rfl rfl, ⟨by decide +kernel, by decide +kernel⟩, by decide +kernel, by decide, by decide, TX7, 16, rfl⟩
abbrev mX7_closeFrees : zM := (yX7_closeFrees, cX7_closeFrees, 6, none)
theorem vX7_closeFrees : zMv mX7_closeFrees 7 1 := ⟨zut4 (j := 40) rfl rfl, zut1 (j := 10) rfl rfl, zut4 (j := 39) rfl rfl, zus1 (j := 7) rfl, ⟨by decide +kernel, by decide +kernel⟩, by decide +kernel, by decide, by decide, TX7, 16, rfl⟩
abbrev mX7_findTargets : zM := (yX7_findTargets, cX7_findTargets, 7, none)
theorem vX7_findTargets : zMv mX7_findTargets 7 2 := ⟨zut4 (j := 48) rfl rfl, zut1 (j := 10) rfl rfl, zut4 (j := 47) rfl rfl, zus1 (j := 9) rfl, ⟨by decide +kernel, by decide +kernel⟩, by decide +kernel, by decide, by decide, TX7, 16, rfl⟩
abbrev mX7_sheafWith : zM := (yX7_sheafWith, cX7_sheafWith, 4, (some .int))
theorem vX7_sheafWith : zMv mX7_sheafWith 7 1 := ⟨zut4 (j := 57) rfl rfl, zut1 (j := 10) rfl rfl, zut4 (j := 56) rfl rfl, zus1 (j := 10) rfl, ⟨by decide +kernel, by decide +kernel⟩, by decide +kernel, by decide, by decide, TX7, 16, rfl⟩
abbrev mX7_addSheaf : zM := (yX7_addSheaf, cX7_addSheaf, 7, (some .int))
theorem vX7_addSheaf : zMv mX7_addSheaf 7 4 := ⟨zut4 (j := 44) rfl rfl, zut1 (j := 10) rfl rfl, zut4 (j := 43) rfl rfl, zus1 (j := 8) rfl, ⟨by decide +kernel, by decide +kernel⟩, by decide +kernel, by decide, by decide, TX7, 16, rfl⟩
abbrev mX7_findClasses : zM := (yX7_findClasses, cX7_findClasses, 4, none)
theorem vX7_findClasses : zMv mX7_findClasses 7 0 := ⟨zut4 (j := 61) rfl rfl, zut1 (j := 10) rfl rfl, zut4 (j := 59) rfl rfl, zut4 (j := 60) rfl rfl, ⟨by decide +kernel, by decide +kernel⟩, by decide +kernel, by decide, by decide, TX7, 16, rfl⟩
abbrev mX7_partSheaves : zM := (yX7_partSheaves, cX7_partSheaves, 4, none)
theorem vX7_partSheaves : zMv mX7_partSheaves 7 1 := ⟨zut4 (j := 69) rfl rfl, zut1 (j := 10) rfl rfl, zut4 (j := 68) rfl rfl, zus1 (j := 11) rfl, ⟨by decide +kernel, by decide +kernel⟩, by decide +kernel, by decide, by decide, TX7, 16, rfl⟩
abbrev mX7_areAlike : zM := (yX7_areAlike, cX7_areAlike, 6, (some .boolean))
theorem vX7_areAlike : zMv mX7_areAlike 7 3 := ⟨zut4 (j := 73) rfl rfl, zut1 (j := 10) rfl rfl, zut4 (j := 72) rfl rfl, zus1 (j := 12) rfl, ⟨by decide +kernel, by decide +kernel⟩, by decide +kernel, by decide, by decide, TX7, 16, rfl⟩
abbrev mX7_noteApart : zM := (yX7_noteApart, cX7_noteApart, 4, none)
theorem vX7_noteApart : zMv mX7_noteApart 7 1 := ⟨zut4 (j := 85) rfl rfl, zut1 (j := 10) rfl rfl, zut4 (j := 84) rfl rfl, zus1 (j := 13) rfl, ⟨by decide +kernel, by decide +kernel⟩, by decide +kernel, by decide, by decide, TX7, 16, rfl⟩
abbrev mX7_sheafStep : zM := (yX7_sheafStep, cX7_sheafStep, 3, (some .int))
theorem vX7_sheafStep : zMv mX7_sheafStep 7 2 := ⟨zut4 (j := 81) rfl rfl, zut1 (j := 10) rfl rfl, zut4 (j := 79) rfl rfl, zut4 (j := 80) rfl rfl, ⟨by decide +kernel, by decide +kernel⟩, by decide +kernel, by decide, by decide, TX7, 16, rfl⟩
abbrev mX7_sheafTakes : zM := (yX7_sheafTakes, cX7_sheafTakes, 2, (some .boolean))
theorem vX7_sheafTakes : zMv mX7_sheafTakes 7 1 := ⟨zut4 (j := 77) rfl rfl, zut1 (j := 10) rfl rfl, zut4 (j := 75) rfl rfl, zut4 (j := 76) rfl rfl, ⟨by decide +kernel, by decide +kernel⟩, by decide +kernel, by decide, by decide, TX7, 16, rfl⟩
abbrev mX7_classStep : zM := (yX7_classStep, cX7_classStep, 3, (some .int))
theorem vX7_classStep : zMv mX7_classStep 7 2 := ⟨zut5 (j := 171) rfl rfl, zut1 (j := 10) rfl rfl, zut5 (j := 169) rfl rfl, zut5 (j := 170) rfl rfl, ⟨by decide +kernel, by decide +kernel⟩, by decide +kernel, by decide, by decide, TX7, 16, rfl⟩
abbrev mX7_classTakes : zM := (yX7_classTakes, cX7_classTakes, 2, (some .boolean))
theorem vX7_classTakes : zMv mX7_classTakes 7 1 := ⟨zut5 (j := 179) rfl rfl, zut1 (j := 10) rfl rfl, zut5 (j := 177) rfl rfl, zut5 (j := 178) rfl rfl, ⟨by decide +kernel, by decide +kernel⟩, by decide +kernel, by decide, by decide, TX7, 16, rfl⟩
abbrev mX7_classesApart : zM := (yX7_classesApart, cX7_classesApart, 3, (some .int))
theorem vX7_classesApart : zMv mX7_classesApart 7 2 := ⟨zut5 (j := 214) rfl rfl, zut1 (j := 10) rfl rfl, zut5 (j := 212) rfl rfl, zut5 (j := 213) rfl rfl, ⟨by decide +kernel, by decide +kernel⟩, by decide +kernel, by decide, by decide, TX7, 16, rfl⟩
abbrev mX7_deadClass : zM := (yX7_deadClass, cX7_deadClass, 2, (some .int))
theorem vX7_deadClass : zMv mX7_deadClass 7 0 := ⟨zut5 (j := 187) rfl rfl, zut1 (j := 10) rfl rfl, zut5 (j := 185) rfl rfl, zut5 (j := 186) rfl rfl, ⟨by decide +kernel, by decide +kernel⟩, by decide +kernel, by decide, by decide, TX7, 16, rfl⟩
abbrev mX7_classesAfter : zM := (yX7_classesAfter, cX7_classesAfter, 7, (some .long))
theorem vX7_classesAfter : zMv mX7_classesAfter 7 1 := ⟨zut5 (j := 192) rfl rfl, zut1 (j := 10) rfl rfl, zut5 (j := 191) rfl rfl, zus3 (j := 7) rfl, ⟨by decide +kernel, by decide +kernel⟩, by decide +kernel, by decide, by decide, TX7, 16, rfl⟩
abbrev mX7_blockOnWay : zM := (yX7_blockOnWay, cX7_blockOnWay, 5, (some .int))
theorem vX7_blockOnWay : zMv mX7_blockOnWay 7 2 := ⟨zut5 (j := 205) rfl rfl, zut1 (j := 10) rfl rfl, zut5 (j := 203) rfl rfl, zut5 (j := 204) rfl rfl, ⟨by decide +kernel, by decide +kernel⟩, by decide +kernel, by decide, by decide, TX7, 16, rfl⟩
abbrev mX7_partingBlock : zM := (yX7_partingBlock, cX7_partingBlock, 9, (some .int))
theorem vX7_partingBlock : zMv mX7_partingBlock 7 3 := ⟨zut5 (j := 222) rfl rfl, zut1 (j := 10) rfl rfl, zut5 (j := 220) rfl rfl, zut5 (j := 221) rfl rfl, ⟨by decide +kernel, by decide +kernel⟩, by decide +kernel, by decide, by decide, TX7, 16, rfl⟩
abbrev mX7_longestTaken : zM := (yX7_longestTaken, cX7_longestTaken, 9, (some .int))
theorem vX7_longestTaken : zMv mX7_longestTaken 7 0 := ⟨zut6 (j := 55) rfl rfl, zut1 (j := 10) rfl rfl, zut6 (j := 53) rfl rfl, zut6 (j := 54) rfl rfl, ⟨by decide +kernel, by decide +kernel⟩, by decide +kernel, by decide, by decide, TX7, 16, rfl⟩
abbrev mX8_init : zM := (yX8_init, cX8_init, 3, none)
abbrev mX8_readBench : zM := (yX8_readBench, cX8_readBench, 6, (some .boolean))
theorem vX8_readBench : zMv mX8_readBench 8 2 := ⟨zut3 (j := 79) rfl rfl, zut1 (j := 3) rfl rfl, zut3 (j := 77) rfl rfl, zut3 (j := 78) rfl rfl, ⟨by decide +kernel, by decide +kernel⟩, by decide +kernel, by decide, by decide, TX8, 8, rfl⟩
abbrev mX8_readSet : zM := (yX8_readSet, cX8_readSet, 3, (some .boolean))
theorem vX8_readSet : zMv mX8_readSet 8 0 := ⟨zut4 (j := 89) rfl rfl, zut1 (j := 3) rfl rfl, zut4 (j := 88) rfl rfl, zus1 (j := 14) rfl, ⟨by decide +kernel, by decide +kernel⟩, by decide +kernel, by decide, by decide, TX8, 8, rfl⟩
abbrev mX8_readMachine : zM := (yX8_readMachine, cX8_readMachine, 3, (some .boolean))
theorem vX8_readMachine : zMv mX8_readMachine 8 0 := ⟨zut4 (j := 180) rfl rfl, zut1 (j := 3) rfl rfl, zut4 (j := 179) rfl rfl, zus2 (j := 9) rfl, ⟨by decide +kernel, by decide +kernel⟩, by decide +kernel, by decide, by decide, TX8, 8, rfl⟩
abbrev mX8_readEdge : zM := (yX8_readEdge, cX8_readEdge, 3, (some .boolean))
theorem vX8_readEdge : zMv mX8_readEdge 8 0 := ⟨zut4 (j := 189) rfl rfl, zut1 (j := 3) rfl rfl, zut4 (j := 188) rfl rfl, zus2 (j := 10) rfl, ⟨by decide +kernel, by decide +kernel⟩, by decide +kernel, by decide, by decide, TX8, 8, rfl⟩
abbrev mX8_readFree : zM := (yX8_readFree, cX8_readFree, 3, (some .boolean))
theorem vX8_readFree : zMv mX8_readFree 8 0 := ⟨zut4 (j := 201) rfl rfl, zut1 (j := 3) rfl rfl, zut4 (j := 200) rfl rfl, zus2 (j := 12) rfl, ⟨by decide +kernel, by decide +kernel⟩, by decide +kernel, by decide, by decide, TX8, 8, rfl⟩
abbrev mX8_readEnd : zM := (yX8_readEnd, cX8_readEnd, 3, (some .boolean))
theorem vX8_readEnd : zMv mX8_readEnd 8 0 := ⟨zut4 (j := 209) rfl rfl, zut1 (j := 3) rfl rfl, zut4 (j := 208) rfl rfl, zus2 (j := 13) rfl, ⟨by decide +kernel, by decide +kernel⟩, by decide +kernel, by decide, by decide, TX8, 8, rfl⟩
abbrev mX8_readState : zM := (yX8_readState, cX8_readState, 3, (some .int))
theorem vX8_readState : zMv mX8_readState 8 0 := ⟨zut4 (j := 193) rfl rfl, zut1 (j := 3) rfl rfl, zut4 (j := 192) rfl rfl, zus2 (j := 11) rfl, ⟨by decide +kernel, by decide +kernel⟩, by decide +kernel, by decide, by decide, TX8, 8, rfl⟩
abbrev mX8_closeMachine : zM := (yX8_closeMachine, cX8_closeMachine, 4, none)
theorem vX8_closeMachine : zMv mX8_closeMachine 8 0 := ⟨zut3 (j := 225) rfl rfl, zut1 (j := 3) rfl rfl, zut3 (j := 224) rfl rfl, zus1 (j := 4) rfl, ⟨by decide +kernel, by decide +kernel⟩, by decide +kernel, by decide, by decide, TX8, 8, rfl⟩
abbrev mX9_init : zM := (yX9_init, cX9_init, 2, none)
abbrev mX9_numberOf : zM := (yX9_numberOf, cX9_numberOf, 4, (some .int))
theorem vX9_numberOf : zMv mX9_numberOf 9 1 := ⟨zut4 (j := 98) rfl rfl, zut1 (j := 8) rfl rfl, zut4 (j := 96) rfl rfl, zut4 (j := 97) rfl rfl, ⟨by decide +kernel, by decide +kernel⟩, by decide +kernel, by decide, by decide, TX9, 3, rfl⟩
abbrev mX10_init : zM := (yX10_init, cX10_init, 1, none)
abbrev mX10_split : zM := (yX10_split, cX10_split, 6, none)
theorem vX10_split : zMv mX10_split 10 2 := ⟨zut3 (j := 83) rfl rfl, zut1 (j := 4) rfl rfl, zut3 (j := 81) rfl rfl, zut3 (j := 82) rfl rfl, ⟨by decide +kernel, by decide +kernel⟩, by decide +kernel, by decide, by decide, TX10, 10, rfl⟩
abbrev mX10_step : zM := (yX10_step, cX10_step, 1, none)
theorem vX10_step : zMv mX10_step 10 0 := ⟨zut3 (j := 221) rfl rfl, zut1 (j := 4) rfl rfl, zut3 (j := 219) rfl rfl, zut3 (j := 220) rfl rfl, ⟨by decide +kernel, by decide +kernel⟩, by decide +kernel, by decide, by decide, TX10, 10, rfl⟩
abbrev mX10_fail : zM := (yX10_fail, cX10_fail, 2, (some .boolean))
theorem vX10_fail : zMv mX10_fail 10 1 := ⟨zut4 (j := 93) rfl rfl, zut1 (j := 4) rfl rfl, zut4 (j := 91) rfl rfl, zut4 (j := 92) rfl rfl, ⟨by decide +kernel, by decide +kernel⟩, by decide +kernel, by decide, by decide, TX10, 10, rfl⟩
abbrev mX10_failAt : zM := (yX10_failAt, cX10_failAt, 3, (some .boolean))
theorem vX10_failAt : zMv mX10_failAt 10 2 := ⟨zut4 (j := 176) rfl rfl, zut1 (j := 4) rfl rfl, zut4 (j := 174) rfl rfl, zut4 (j := 175) rfl rfl, ⟨by decide +kernel, by decide +kernel⟩, by decide +kernel, by decide, by decide, TX10, 10, rfl⟩
abbrev mX10_addToken : zM := (yX10_addToken, cX10_addToken, 7, (some .int))
theorem vX10_addToken : zMv mX10_addToken 10 3 := ⟨zut3 (j := 87) rfl rfl, zut1 (j := 4) rfl rfl, zut3 (j := 86) rfl rfl, zus1 (j := 2) rfl, ⟨by decide +kernel, by decide +kernel⟩, by decide +kernel, by decide, by decide, TX10, 10, rfl⟩
abbrev mX10_runOf : zM := (yX10_runOf, cX10_runOf, 6, (some .int))
theorem sX10_runOf : zMs mX10_runOf 5 := ⟨zut3 (j := 90) rfl rfl, zut1 (j := 4) rfl rfl, zut3 (j := 89) rfl rfl, ⟨by decide +kernel, by decide +kernel⟩, by decide +kernel, by decide⟩
abbrev mX10_valueOf : zM := (yX10_valueOf, cX10_valueOf, 8, (some .long))
theorem sX10_valueOf : zMs mX10_valueOf 5 := ⟨zut3 (j := 93) rfl rfl, zut1 (j := 4) rfl rfl, zut3 (j := 92) rfl rfl, ⟨by decide +kernel, by decide +kernel⟩, by decide +kernel, by decide⟩
abbrev mX10_kindOf : zM := (yX10_kindOf, cX10_kindOf, 2, (some .int))
theorem sX10_kindOf : zMs mX10_kindOf 1 := ⟨zut3 (j := 96) rfl rfl, zut1 (j := 4) rfl rfl, zut3 (j := 95) rfl rfl, ⟨by decide +kernel, by decide +kernel⟩, by decide +kernel, by decide⟩
abbrev mX10_codeOf : zM := (yX10_codeOf, cX10_codeOf, 4, (some .long))
theorem sX10_codeOf : zMs mX10_codeOf 1 := ⟨zut3 (j := 100) rfl rfl, zut1 (j := 4) rfl rfl, zut3 (j := 99) rfl rfl, ⟨by decide +kernel, by decide +kernel⟩, by decide +kernel, by decide⟩
abbrev mX10_add : zM := (yX10_add, cX10_add, 5, none)
theorem vX10_add : zMv mX10_add 10 3 := ⟨zut3 (j := 159) rfl rfl, zut1 (j := 4) rfl rfl, zut3 (j := 158) rfl rfl, zus1 (j := 3) rfl, ⟨by decide +kernel, by decide +kernel⟩, by decide +kernel, by decide, by decide, TX10, 10, rfl⟩
abbrev mX11_init : zM := (yX11_init, cX11_init, 2, none)
abbrev mX11_feed : zM := (yX11_feed, cX11_feed, 6, (some .int))
theorem vX11_feed : zMv mX11_feed 11 5 := ⟨zut3 (j := 63) rfl rfl, zut1 (j := 1) rfl rfl, zut3 (j := 61) rfl rfl, zut3 (j := 62) rfl rfl, ⟨by decide +kernel, by decide +kernel⟩, by decide +kernel, by decide, by decide, TX11, 17, rfl⟩
abbrev mX11_bench : zM := (yX11_bench, cX11_bench, 3, (some .int))
theorem vX11_bench : zMv mX11_bench 11 1 := ⟨zut3 (j := 71) rfl rfl, zut1 (j := 1) rfl rfl, zut3 (j := 69) rfl rfl, zut3 (j := 70) rfl rfl, ⟨by decide +kernel, by decide +kernel⟩, by decide +kernel, by decide, by decide, TX11, 17, rfl⟩
abbrev mX11_fault : zM := (yX11_fault, cX11_fault, 1, (some .int))
theorem vX11_fault : zMv mX11_fault 11 0 := ⟨zut4 (j := 222) rfl rfl, zut1 (j := 1) rfl rfl, zut4 (j := 220) rfl rfl, zut4 (j := 221) rfl rfl, ⟨by decide +kernel, by decide +kernel⟩, by decide +kernel, by decide, by decide, TX11, 17, rfl⟩
abbrev mX11_where : zM := (yX11_where, cX11_where, 1, (some .int))
theorem vX11_where : zMv mX11_where 11 0 := ⟨zut4 (j := 226) rfl rfl, zut1 (j := 1) rfl rfl, zut4 (j := 224) rfl rfl, zut4 (j := 225) rfl rfl, ⟨by decide +kernel, by decide +kernel⟩, by decide +kernel, by decide, by decide, TX11, 17, rfl⟩
abbrev mX11_ranges : zM := (yX11_ranges, cX11_ranges, 2, (some .int))
theorem vX11_ranges : zMv mX11_ranges 11 1 := ⟨zut4 (j := 230) rfl rfl, zut1 (j := 1) rfl rfl, zut4 (j := 228) rfl rfl, zut4 (j := 229) rfl rfl, ⟨by decide +kernel, by decide +kernel⟩, by decide +kernel, by decide, by decide, TX11, 17, rfl⟩
abbrev mX11_range : zM := (yX11_range, cX11_range, 4, (some .int))
theorem vX11_range : zMv mX11_range 11 3 := ⟨zut5 (j := 0) rfl rfl, zut1 (j := 1) rfl rfl, zut4 (j := 238) rfl rfl, zut4 (j := 239) rfl rfl, ⟨by decide +kernel, by decide +kernel⟩, by decide +kernel, by decide, by decide, TX11, 17, rfl⟩
abbrev mX11_letters : zM := (yX11_letters, cX11_letters, 2, (some .int))
theorem vX11_letters : zMv mX11_letters 11 1 := ⟨zut5 (j := 9) rfl rfl, zut1 (j := 1) rfl rfl, zut5 (j := 7) rfl rfl, zut5 (j := 8) rfl rfl, ⟨by decide +kernel, by decide +kernel⟩, by decide +kernel, by decide, by decide, TX11, 17, rfl⟩
abbrev mX11_has : zM := (yX11_has, cX11_has, 3, (some .int))
theorem vX11_has : zMv mX11_has 11 2 := ⟨zut5 (j := 17) rfl rfl, zut1 (j := 1) rfl rfl, zut5 (j := 15) rfl rfl, zut5 (j := 16) rfl rfl, ⟨by decide +kernel, by decide +kernel⟩, by decide +kernel, by decide, by decide, TX11, 17, rfl⟩
abbrev mX11_mixed : zM := (yX11_mixed, cX11_mixed, 5, (some .int))
theorem vX11_mixed : zMv mX11_mixed 11 3 := ⟨zut5 (j := 23) rfl rfl, zut1 (j := 1) rfl rfl, zut5 (j := 21) rfl rfl, zut5 (j := 22) rfl rfl, ⟨by decide +kernel, by decide +kernel⟩, by decide +kernel, by decide, by decide, TX11, 17, rfl⟩
abbrev mX11_mixedRanges : zM := (yX11_mixedRanges, cX11_mixedRanges, 5, (some .int))
theorem vX11_mixedRanges : zMv mX11_mixedRanges 11 3 := ⟨zut5 (j := 32) rfl rfl, zut1 (j := 1) rfl rfl, zut5 (j := 30) rfl rfl, zut5 (j := 31) rfl rfl, ⟨by decide +kernel, by decide +kernel⟩, by decide +kernel, by decide, by decide, TX11, 17, rfl⟩
abbrev mX11_mixedRange : zM := (yX11_mixedRange, cX11_mixedRange, 7, (some .int))
theorem vX11_mixedRange : zMv mX11_mixedRange 11 5 := ⟨zut5 (j := 36) rfl rfl, zut1 (j := 1) rfl rfl, zut5 (j := 34) rfl rfl, zut5 (j := 35) rfl rfl, ⟨by decide +kernel, by decide +kernel⟩, by decide +kernel, by decide, by decide, TX11, 17, rfl⟩
abbrev mX11_size : zM := (yX11_size, cX11_size, 3, (some .int))
theorem vX11_size : zMv mX11_size 11 2 := ⟨zut5 (j := 40) rfl rfl, zut1 (j := 1) rfl rfl, zut5 (j := 38) rfl rfl, zut5 (j := 39) rfl rfl, ⟨by decide +kernel, by decide +kernel⟩, by decide +kernel, by decide, by decide, TX11, 17, rfl⟩
abbrev mX11_edge : zM := (yX11_edge, cX11_edge, 5, (some .int))
theorem vX11_edge : zMv mX11_edge 11 3 := ⟨zut5 (j := 58) rfl rfl, zut1 (j := 1) rfl rfl, zut5 (j := 56) rfl rfl, zut5 (j := 57) rfl rfl, ⟨by decide +kernel, by decide +kernel⟩, by decide +kernel, by decide, by decide, TX11, 17, rfl⟩
abbrev mX11_edgeRange : zM := (yX11_edgeRange, cX11_edgeRange, 5, (some .int))
theorem vX11_edgeRange : zMv mX11_edgeRange 11 4 := ⟨zut5 (j := 80) rfl rfl, zut1 (j := 1) rfl rfl, zut5 (j := 78) rfl rfl, zut5 (j := 79) rfl rfl, ⟨by decide +kernel, by decide +kernel⟩, by decide +kernel, by decide, by decide, TX11, 17, rfl⟩
abbrev mX11_free : zM := (yX11_free, cX11_free, 4, (some .int))
theorem vX11_free : zMv mX11_free 11 3 := ⟨zut5 (j := 88) rfl rfl, zut1 (j := 1) rfl rfl, zut5 (j := 86) rfl rfl, zut5 (j := 87) rfl rfl, ⟨by decide +kernel, by decide +kernel⟩, by decide +kernel, by decide, by decide, TX11, 17, rfl⟩
abbrev mX11_ends : zM := (yX11_ends, cX11_ends, 2, (some .long))
theorem vX11_ends : zMv mX11_ends 11 1 := ⟨zut5 (j := 92) rfl rfl, zut1 (j := 1) rfl rfl, zut5 (j := 90) rfl rfl, zut5 (j := 91) rfl rfl, ⟨by decide +kernel, by decide +kernel⟩, by decide +kernel, by decide, by decide, TX11, 17, rfl⟩
abbrev mX11_block : zM := (yX11_block, cX11_block, 3, (some .int))
theorem vX11_block : zMv mX11_block 11 2 := ⟨zut5 (j := 100) rfl rfl, zut1 (j := 1) rfl rfl, zut5 (j := 98) rfl rfl, zut5 (j := 99) rfl rfl, ⟨by decide +kernel, by decide +kernel⟩, by decide +kernel, by decide, by decide, TX11, 17, rfl⟩
abbrev mX11_sheaf : zM := (yX11_sheaf, cX11_sheaf, 3, (some .long))
theorem vX11_sheaf : zMv mX11_sheaf 11 2 := ⟨zut5 (j := 104) rfl rfl, zut1 (j := 1) rfl rfl, zut5 (j := 102) rfl rfl, zut5 (j := 103) rfl rfl, ⟨by decide +kernel, by decide +kernel⟩, by decide +kernel, by decide, by decide, TX11, 17, rfl⟩
abbrev mX11_useless : zM := (yX11_useless, cX11_useless, 2, (some .long))
theorem vX11_useless : zMv mX11_useless 11 1 := ⟨zut5 (j := 108) rfl rfl, zut1 (j := 1) rfl rfl, zut5 (j := 106) rfl rfl, zut5 (j := 107) rfl rfl, ⟨by decide +kernel, by decide +kernel⟩, by decide +kernel, by decide, by decide, TX11, 17, rfl⟩
abbrev mX11_terms : zM := (yX11_terms, cX11_terms, 3, (some .int))
theorem vX11_terms : zMv mX11_terms 11 2 := ⟨zut5 (j := 128) rfl rfl, zut1 (j := 1) rfl rfl, zut5 (j := 126) rfl rfl, zut5 (j := 127) rfl rfl, ⟨by decide +kernel, by decide +kernel⟩, by decide +kernel, by decide, by decide, TX11, 17, rfl⟩
abbrev mX11_term : zM := (yX11_term, cX11_term, 6, (some .int))
theorem vX11_term : zMv mX11_term 11 4 := ⟨zut5 (j := 142) rfl rfl, zut1 (j := 1) rfl rfl, zut5 (j := 140) rfl rfl, zut5 (j := 141) rfl rfl, ⟨by decide +kernel, by decide +kernel⟩, by decide +kernel, by decide, by decide, TX11, 17, rfl⟩
abbrev mX11_go : zM := (yX11_go, cX11_go, 4, (some .int))
theorem vX11_go : zMv mX11_go 11 3 := ⟨zut5 (j := 159) rfl rfl, zut1 (j := 1) rfl rfl, zut5 (j := 157) rfl rfl, zut5 (j := 158) rfl rfl, ⟨by decide +kernel, by decide +kernel⟩, by decide +kernel, by decide, by decide, TX11, 17, rfl⟩
abbrev mX11_takes : zM := (yX11_takes, cX11_takes, 3, (some .int))
theorem vX11_takes : zMv mX11_takes 11 2 := ⟨zut5 (j := 175) rfl rfl, zut1 (j := 1) rfl rfl, zut5 (j := 173) rfl rfl, zut5 (j := 174) rfl rfl, ⟨by decide +kernel, by decide +kernel⟩, by decide +kernel, by decide, by decide, TX11, 17, rfl⟩
abbrev mX11_dead : zM := (yX11_dead, cX11_dead, 2, (some .int))
theorem vX11_dead : zMv mX11_dead 11 1 := ⟨zut5 (j := 183) rfl rfl, zut1 (j := 1) rfl rfl, zut5 (j := 181) rfl rfl, zut5 (j := 182) rfl rfl, ⟨by decide +kernel, by decide +kernel⟩, by decide +kernel, by decide, by decide, TX11, 17, rfl⟩
abbrev mX11_first : zM := (yX11_first, cX11_first, 4, (some .int))
theorem vX11_first : zMv mX11_first 11 2 := ⟨zut5 (j := 197) rfl rfl, zut1 (j := 1) rfl rfl, zut5 (j := 195) rfl rfl, zut5 (j := 196) rfl rfl, ⟨by decide +kernel, by decide +kernel⟩, by decide +kernel, by decide, by decide, TX11, 17, rfl⟩
abbrev mX11_firstLetter : zM := (yX11_firstLetter, cX11_firstLetter, 6, (some .int))
theorem vX11_firstLetter : zMv mX11_firstLetter 11 3 := ⟨zut5 (j := 201) rfl rfl, zut1 (j := 1) rfl rfl, zut5 (j := 199) rfl rfl, zut5 (j := 200) rfl rfl, ⟨by decide +kernel, by decide +kernel⟩, by decide +kernel, by decide, by decide, TX11, 17, rfl⟩
abbrev mX11_parting : zM := (yX11_parting, cX11_parting, 4, (some .int))
theorem vX11_parting : zMv mX11_parting 11 3 := ⟨zut5 (j := 210) rfl rfl, zut1 (j := 1) rfl rfl, zut5 (j := 208) rfl rfl, zut5 (j := 209) rfl rfl, ⟨by decide +kernel, by decide +kernel⟩, by decide +kernel, by decide, by decide, TX11, 17, rfl⟩
abbrev mX11_partingLetter : zM := (yX11_partingLetter, cX11_partingLetter, 5, (some .int))
theorem vX11_partingLetter : zMv mX11_partingLetter 11 4 := ⟨zut5 (j := 218) rfl rfl, zut1 (j := 1) rfl rfl, zut5 (j := 216) rfl rfl, zut5 (j := 217) rfl rfl, ⟨by decide +kernel, by decide +kernel⟩, by decide +kernel, by decide, by decide, TX11, 17, rfl⟩
abbrev mX11_rounds : zM := (yX11_rounds, cX11_rounds, 2, (some .int))
theorem vX11_rounds : zMv mX11_rounds 11 1 := ⟨zut5 (j := 226) rfl rfl, zut1 (j := 1) rfl rfl, zut5 (j := 224) rfl rfl, zut5 (j := 225) rfl rfl, ⟨by decide +kernel, by decide +kernel⟩, by decide +kernel, by decide, by decide, TX11, 17, rfl⟩
abbrev mX11_word : zM := (yX11_word, cX11_word, 7, (some .int))
theorem vX11_word : zMv mX11_word 11 5 := ⟨zut5 (j := 230) rfl rfl, zut1 (j := 1) rfl rfl, zut5 (j := 228) rfl rfl, zut5 (j := 229) rfl rfl, ⟨by decide +kernel, by decide +kernel⟩, by decide +kernel, by decide, by decide, TX11, 17, rfl⟩
abbrev mX11_more : zM := (yX11_more, cX11_more, 2, (some .int))
theorem vX11_more : zMv mX11_more 11 1 := ⟨zut5 (j := 234) rfl rfl, zut1 (j := 1) rfl rfl, zut5 (j := 232) rfl rfl, zut5 (j := 233) rfl rfl, ⟨by decide +kernel, by decide +kernel⟩, by decide +kernel, by decide, by decide, TX11, 17, rfl⟩
abbrev mX11_taken : zM := (yX11_taken, cX11_taken, 2, (some .int))
theorem vX11_taken : zMv mX11_taken 11 1 := ⟨zut5 (j := 238) rfl rfl, zut1 (j := 1) rfl rfl, zut5 (j := 236) rfl rfl, zut5 (j := 237) rfl rfl, ⟨by decide +kernel, by decide +kernel⟩, by decide +kernel, by decide, by decide, TX11, 17, rfl⟩
abbrev mX11_leads : zM := (yX11_leads, cX11_leads, 2, (some .long))
theorem vX11_leads : zMv mX11_leads 11 1 := ⟨zut6 (j := 8) rfl rfl, zut1 (j := 1) rfl rfl, zut6 (j := 6) rfl rfl, zut6 (j := 7) rfl rfl, ⟨by decide +kernel, by decide +kernel⟩, by decide +kernel, by decide, by decide, TX11, 17, rfl⟩
abbrev mX11_classOf : zM := (yX11_classOf, cX11_classOf, 2, (some .int))
theorem vX11_classOf : zMv mX11_classOf 11 1 := ⟨zut6 (j := 12) rfl rfl, zut1 (j := 1) rfl rfl, zut6 (j := 10) rfl rfl, zut6 (j := 11) rfl rfl, ⟨by decide +kernel, by decide +kernel⟩, by decide +kernel, by decide, by decide, TX11, 17, rfl⟩
abbrev mX11_place : zM := (yX11_place, cX11_place, 2, (some .long))
theorem vX11_place : zMv mX11_place 11 1 := ⟨zut6 (j := 16) rfl rfl, zut1 (j := 1) rfl rfl, zut6 (j := 14) rfl rfl, zut6 (j := 15) rfl rfl, ⟨by decide +kernel, by decide +kernel⟩, by decide +kernel, by decide, by decide, TX11, 17, rfl⟩
abbrev mX11_count : zM := (yX11_count, cX11_count, 3, (some .long))
theorem vX11_count : zMv mX11_count 11 2 := ⟨zut6 (j := 38) rfl rfl, zut1 (j := 1) rfl rfl, zut6 (j := 36) rfl rfl, zut6 (j := 37) rfl rfl, ⟨by decide +kernel, by decide +kernel⟩, by decide +kernel, by decide, by decide, TX11, 17, rfl⟩
abbrev mX11_at : zM := (yX11_at, cX11_at, 6, (some .int))
theorem vX11_at : zMv mX11_at 11 4 := ⟨zut6 (j := 43) rfl rfl, zut1 (j := 1) rfl rfl, zut6 (j := 41) rfl rfl, zut6 (j := 42) rfl rfl, ⟨by decide +kernel, by decide +kernel⟩, by decide +kernel, by decide, by decide, TX11, 17, rfl⟩
abbrev mX11_longest : zM := (yX11_longest, cX11_longest, 2, (some .int))
theorem vX11_longest : zMv mX11_longest 11 1 := ⟨zut6 (j := 51) rfl rfl, zut1 (j := 1) rfl rfl, zut6 (j := 49) rfl rfl, zut6 (j := 50) rfl rfl, ⟨by decide +kernel, by decide +kernel⟩, by decide +kernel, by decide, by decide, TX11, 17, rfl⟩
abbrev mX11_found : zM := (yX11_found, cX11_found, 6, (some .int))
theorem vX11_found : zMv mX11_found 11 3 := ⟨zut6 (j := 61) rfl rfl, zut1 (j := 1) rfl rfl, zut6 (j := 59) rfl rfl, zut6 (j := 60) rfl rfl, ⟨by decide +kernel, by decide +kernel⟩, by decide +kernel, by decide, by decide, TX11, 17, rfl⟩
abbrev mX11_foundLetter : zM := (yX11_foundLetter, cX11_foundLetter, 7, (some .int))
theorem vX11_foundLetter : zMv mX11_foundLetter 11 4 := ⟨zut6 (j := 103) rfl rfl, zut1 (j := 1) rfl rfl, zut6 (j := 101) rfl rfl, zut6 (j := 102) rfl rfl, ⟨by decide +kernel, by decide +kernel⟩, by decide +kernel, by decide, by decide, TX11, 17, rfl⟩
abbrev mX11_same : zM := (yX11_same, cX11_same, 3, (some .int))
theorem vX11_same : zMv mX11_same 11 2 := ⟨zut6 (j := 112) rfl rfl, zut1 (j := 1) rfl rfl, zut6 (j := 110) rfl rfl, zut6 (j := 111) rfl rfl, ⟨by decide +kernel, by decide +kernel⟩, by decide +kernel, by decide, by decide, TX11, 17, rfl⟩
abbrev mX11_within : zM := (yX11_within, cX11_within, 3, (some .int))
theorem vX11_within : zMv mX11_within 11 2 := ⟨zut6 (j := 116) rfl rfl, zut1 (j := 1) rfl rfl, zut6 (j := 114) rfl rfl, zut6 (j := 115) rfl rfl, ⟨by decide +kernel, by decide +kernel⟩, by decide +kernel, by decide, by decide, TX11, 17, rfl⟩
abbrev mX11_sure : zM := (yX11_sure, cX11_sure, 2, (some .int))
theorem vX11_sure : zMv mX11_sure 11 1 := ⟨zut6 (j := 120) rfl rfl, zut1 (j := 1) rfl rfl, zut6 (j := 118) rfl rfl, zut6 (j := 119) rfl rfl, ⟨by decide +kernel, by decide +kernel⟩, by decide +kernel, by decide, by decide, TX11, 17, rfl⟩
abbrev mX11_least : zM := (yX11_least, cX11_least, 2, (some .int))
theorem vX11_least : zMv mX11_least 11 1 := ⟨zut6 (j := 141) rfl rfl, zut1 (j := 1) rfl rfl, zut6 (j := 139) rfl rfl, zut6 (j := 140) rfl rfl, ⟨by decide +kernel, by decide +kernel⟩, by decide +kernel, by decide, by decide, TX11, 17, rfl⟩
abbrev mX11_other : zM := (yX11_other, cX11_other, 2, (some .int))
theorem vX11_other : zMv mX11_other 11 1 := ⟨zut6 (j := 151) rfl rfl, zut1 (j := 1) rfl rfl, zut6 (j := 149) rfl rfl, zut6 (j := 150) rfl rfl, ⟨by decide +kernel, by decide +kernel⟩, by decide +kernel, by decide, by decide, TX11, 17, rfl⟩
abbrev mX11_join : zM := (yX11_join, cX11_join, 5, (some .int))
theorem vX11_join : zMv mX11_join 11 3 := ⟨zut6 (j := 155) rfl rfl, zut1 (j := 1) rfl rfl, zut6 (j := 153) rfl rfl, zut6 (j := 154) rfl rfl, ⟨by decide +kernel, by decide +kernel⟩, by decide +kernel, by decide, by decide, TX11, 17, rfl⟩
abbrev mX11_behind : zM := (yX11_behind, cX11_behind, 5, (some .int))
theorem vX11_behind : zMv mX11_behind 11 2 := ⟨zut6 (j := 164) rfl rfl, zut1 (j := 1) rfl rfl, zut6 (j := 162) rfl rfl, zut6 (j := 163) rfl rfl, ⟨by decide +kernel, by decide +kernel⟩, by decide +kernel, by decide, by decide, TX11, 17, rfl⟩
abbrev mX11_again : zM := (yX11_again, cX11_again, 3, (some .int))
theorem vX11_again : zMv mX11_again 11 1 := ⟨zut6 (j := 194) rfl rfl, zut1 (j := 1) rfl rfl, zut6 (j := 192) rfl rfl, zut6 (j := 193) rfl rfl, ⟨by decide +kernel, by decide +kernel⟩, by decide +kernel, by decide, by decide, TX11, 17, rfl⟩
abbrev mX11_backwards : zM := (yX11_backwards, cX11_backwards, 3, (some .int))
theorem vX11_backwards : zMv mX11_backwards 11 1 := ⟨zut6 (j := 206) rfl rfl, zut1 (j := 1) rfl rfl, zut6 (j := 204) rfl rfl, zut6 (j := 205) rfl rfl, ⟨by decide +kernel, by decide +kernel⟩, by decide +kernel, by decide, by decide, TX11, 17, rfl⟩
abbrev mX11_only : zM := (yX11_only, cX11_only, 4, (some .int))
theorem vX11_only : zMv mX11_only 11 2 := ⟨zut6 (j := 215) rfl rfl, zut1 (j := 1) rfl rfl, zut6 (j := 213) rfl rfl, zut6 (j := 214) rfl rfl, ⟨by decide +kernel, by decide +kernel⟩, by decide +kernel, by decide, by decide, TX11, 17, rfl⟩
abbrev mX11_moved : zM := (yX11_moved, cX11_moved, 4, (some .int))
theorem vX11_moved : zMv mX11_moved 11 2 := ⟨zut6 (j := 228) rfl rfl, zut1 (j := 1) rfl rfl, zut6 (j := 226) rfl rfl, zut6 (j := 227) rfl rfl, ⟨by decide +kernel, by decide +kernel⟩, by decide +kernel, by decide, by decide, TX11, 17, rfl⟩
abbrev mX11_past : zM := (yX11_past, cX11_past, 4, (some .int))
theorem vX11_past : zMv mX11_past 11 2 := ⟨zut6 (j := 233) rfl rfl, zut1 (j := 1) rfl rfl, zut6 (j := 231) rfl rfl, zut6 (j := 232) rfl rfl, ⟨by decide +kernel, by decide +kernel⟩, by decide +kernel, by decide, by decide, TX11, 17, rfl⟩
abbrev mX11_drop : zM := (yX11_drop, cX11_drop, 1, (some .int))
theorem vX11_drop : zMv mX11_drop 11 0 := ⟨zut6 (j := 237) rfl rfl, zut1 (j := 1) rfl rfl, zut6 (j := 235) rfl rfl, zut6 (j := 236) rfl rfl, ⟨by decide +kernel, by decide +kernel⟩, by decide +kernel, by decide, by decide, TX11, 17, rfl⟩
abbrev mX11_twin : zM := (yX11_twin, cX11_twin, 4, (some .int))
theorem vX11_twin : zMv mX11_twin 11 1 := ⟨zut7 (j := 17) rfl rfl, zut1 (j := 1) rfl rfl, zut7 (j := 15) rfl rfl, zut7 (j := 16) rfl rfl, ⟨by decide +kernel, by decide +kernel⟩, by decide +kernel, by decide, by decide, TX11, 17, rfl⟩
abbrev mX11_total : zM := (yX11_total, cX11_total, 2, (some .int))
theorem vX11_total : zMv mX11_total 11 1 := ⟨zut7 (j := 1) rfl rfl, zut1 (j := 1) rfl rfl, zut6 (j := 239) rfl rfl, zut7 (j := 0) rfl rfl, ⟨by decide +kernel, by decide +kernel⟩, by decide +kernel, by decide, by decide, TX11, 17, rfl⟩
abbrev mX11_letter : zM := (yX11_letter, cX11_letter, 2, (some .int))
theorem vX11_letter : zMv mX11_letter 11 1 := ⟨zut7 (j := 5) rfl rfl, zut1 (j := 1) rfl rfl, zut7 (j := 3) rfl rfl, zut7 (j := 4) rfl rfl, ⟨by decide +kernel, by decide +kernel⟩, by decide +kernel, by decide, by decide, TX11, 17, rfl⟩
abbrev mX11_trouble : zM := (yX11_trouble, cX11_trouble, 1, (some .int))
theorem vX11_trouble : zMv mX11_trouble 11 0 := ⟨zut7 (j := 9) rfl rfl, zut1 (j := 1) rfl rfl, zut7 (j := 7) rfl rfl, zut7 (j := 8) rfl rfl, ⟨by decide +kernel, by decide +kernel⟩, by decide +kernel, by decide, by decide, TX11, 17, rfl⟩
abbrev mX11_isIn : zM := (yX11_isIn, cX11_isIn, 2, (some .boolean))
theorem sX11_isIn : zMs mX11_isIn 2 := ⟨zut3 (j := 228) rfl rfl, zut1 (j := 1) rfl rfl, zut3 (j := 227) rfl rfl, ⟨by decide +kernel, by decide +kernel⟩, by decide +kernel, by decide⟩
abbrev mX11_isTrue : zM := (yX11_isTrue, cX11_isTrue, 3, (some .boolean))
theorem sX11_isTrue : zMs mX11_isTrue 3 := ⟨zut4 (j := 135) rfl rfl, zut1 (j := 1) rfl rfl, zut4 (j := 134) rfl rfl, ⟨by decide +kernel, by decide +kernel⟩, by decide +kernel, by decide⟩
abbrev mX11_refused : zM := (yX11_refused, cX11_refused, 2, (some .int))
theorem vX11_refused : zMv mX11_refused 11 1 := ⟨zut3 (j := 75) rfl rfl, zut1 (j := 1) rfl rfl, zut3 (j := 74) rfl rfl, zus1 (j := 1) rfl, ⟨by decide +kernel, by decide +kernel⟩, by decide +kernel, by decide, by decide, TX11, 17, rfl⟩
abbrev mX11_granted : zM := (yX11_granted, cX11_granted, 2, (some .int))
theorem vX11_granted : zMv mX11_granted 11 1 := ⟨zut4 (j := 218) rfl rfl, zut1 (j := 1) rfl rfl, zut4 (j := 217) rfl rfl, zus2 (j := 15) rfl, ⟨by decide +kernel, by decide +kernel⟩, by decide +kernel, by decide, by decide, TX11, 17, rfl⟩
abbrev mX11_grantedLong : zM := (yX11_grantedLong, cX11_grantedLong, 3, (some .long))
theorem vX11_grantedLong : zMv mX11_grantedLong 11 1 := ⟨zut5 (j := 96) rfl rfl, zut1 (j := 1) rfl rfl, zut5 (j := 95) rfl rfl, zus3 (j := 3) rfl, ⟨by decide +kernel, by decide +kernel⟩, by decide +kernel, by decide, by decide, TX11, 17, rfl⟩
abbrev mX11_isSet : zM := (yX11_isSet, cX11_isSet, 2, (some .boolean))
theorem vX11_isSet : zMv mX11_isSet 11 1 := ⟨zut4 (j := 234) rfl rfl, zut1 (j := 1) rfl rfl, zut4 (j := 233) rfl rfl, zus3 (j := 0) rfl, ⟨by decide +kernel, by decide +kernel⟩, by decide +kernel, by decide, by decide, TX11, 17, rfl⟩
abbrev mX11_isMachine : zM := (yX11_isMachine, cX11_isMachine, 2, (some .boolean))
theorem vX11_isMachine : zMv mX11_isMachine 11 1 := ⟨zut5 (j := 44) rfl rfl, zut1 (j := 1) rfl rfl, zut5 (j := 43) rfl rfl, zus3 (j := 2) rfl, ⟨by decide +kernel, by decide +kernel⟩, by decide +kernel, by decide, by decide, TX11, 17, rfl⟩
abbrev mX11_isClass : zM := (yX11_isClass, cX11_isClass, 3, (some .boolean))
theorem vX11_isClass : zMv mX11_isClass 11 2 := ⟨zut5 (j := 163) rfl rfl, zut1 (j := 1) rfl rfl, zut5 (j := 162) rfl rfl, zus3 (j := 6) rfl, ⟨by decide +kernel, by decide +kernel⟩, by decide +kernel, by decide, by decide, TX11, 17, rfl⟩
abbrev mX11_putFour : zM := (yX11_putFour, cX11_putFour, 3, none)
theorem vX11_putFour : zMv mX11_putFour 11 1 := ⟨zut3 (j := 67) rfl rfl, zut1 (j := 1) rfl rfl, zut3 (j := 66) rfl rfl, zus1 (j := 0) rfl, ⟨by decide +kernel, by decide +kernel⟩, by decide +kernel, by decide, by decide, TX11, 17, rfl⟩
abbrev mX11_takeBench : zM := (yX11_takeBench, cX11_takeBench, 4, none)
theorem vX11_takeBench : zMv mX11_takeBench 11 0 := ⟨zut4 (j := 214) rfl rfl, zut1 (j := 1) rfl rfl, zut4 (j := 213) rfl rfl, zus2 (j := 14) rfl, ⟨by decide +kernel, by decide +kernel⟩, by decide +kernel, by decide, by decide, TX11, 17, rfl⟩
abbrev mX11_mix : zM := (yX11_mix, cX11_mix, 4, (some .int))
theorem vX11_mix : zMv mX11_mix 11 3 := ⟨zut5 (j := 27) rfl rfl, zut1 (j := 1) rfl rfl, zut5 (j := 26) rfl rfl, zus3 (j := 1) rfl, ⟨by decide +kernel, by decide +kernel⟩, by decide +kernel, by decide, by decide, TX11, 17, rfl⟩
abbrev mX11_whyNoPair : zM := (yX11_whyNoPair, cX11_whyNoPair, 4, (some .int))
theorem vX11_whyNoPair : zMv mX11_whyNoPair 11 3 := ⟨zut6 (j := 65) rfl rfl, zut1 (j := 1) rfl rfl, zut6 (j := 64) rfl rfl, zus3 (j := 9) rfl, ⟨by decide +kernel, by decide +kernel⟩, by decide +kernel, by decide, by decide, TX11, 17, rfl⟩
abbrev mX11_sheafOfWord : zM := (yX11_sheafOfWord, cX11_sheafOfWord, 4, (some .int))
theorem vX11_sheafOfWord : zMv mX11_sheafOfWord 11 1 := ⟨zut6 (j := 2) rfl rfl, zut1 (j := 1) rfl rfl, zut6 (j := 1) rfl rfl, zus3 (j := 8) rfl, ⟨by decide +kernel, by decide +kernel⟩, by decide +kernel, by decide, by decide, TX11, 17, rfl⟩
abbrev mX11_keepDraft : zM := (yX11_keepDraft, cX11_keepDraft, 1, (some .int))
theorem vX11_keepDraft : zMv mX11_keepDraft 11 0 := ⟨zut6 (j := 136) rfl rfl, zut1 (j := 1) rfl rfl, zut6 (j := 135) rfl rfl, zus3 (j := 15) rfl, ⟨by decide +kernel, by decide +kernel⟩, by decide +kernel, by decide, by decide, TX11, 17, rfl⟩
abbrev mX12_init : zM := (yX12_init, cX12_init, 1, none)
abbrev mX12_thrown : zM := (yX12_thrown, cX12_thrown, 1, (some .int))
theorem vX12_thrown : zMv mX12_thrown 12 0 := ⟨zut8 (j := 119) rfl rfl, zut1 (j := 14) rfl rfl, zut8 (j := 117) rfl rfl, zut8 (j := 118) rfl rfl, ⟨by decide +kernel, by decide +kernel⟩, by decide +kernel, by decide, by decide, TX12, 90, rfl⟩
abbrev mX12_refused : zM := (yX12_refused, cX12_refused, 2, (some .int))
theorem vX12_refused : zMv mX12_refused 12 1 := ⟨zut8 (j := 131) rfl rfl, zut1 (j := 14) rfl rfl, zut8 (j := 130) rfl rfl, zus4 (j := 2) rfl, ⟨by decide +kernel, by decide +kernel⟩, by decide +kernel, by decide, by decide, TX12, 90, rfl⟩
abbrev mX12_good : zM := (yX12_good, cX12_good, 2, (some .int))
theorem vX12_good : zMv mX12_good 12 1 := ⟨zut9 (j := 161) rfl rfl, zut1 (j := 14) rfl rfl, zut9 (j := 160) rfl rfl, zus7 (j := 14) rfl, ⟨by decide +kernel, by decide +kernel⟩, by decide +kernel, by decide, by decide, TX12, 90, rfl⟩
abbrev mX12_goodLong : zM := (yX12_goodLong, cX12_goodLong, 3, (some .long))
theorem vX12_goodLong : zMv mX12_goodLong 12 1 := ⟨zut10 (j := 54) rfl rfl, zut1 (j := 14) rfl rfl, zut10 (j := 53) rfl rfl, zus8 (j := 15) rfl, ⟨by decide +kernel, by decide +kernel⟩, by decide +kernel, by decide, by decide, TX12, 90, rfl⟩
abbrev mX12_in : zM := (yX12_in, cX12_in, 3, (some .boolean))
theorem sX12_in : zMs mX12_in 3 := ⟨zut9 (j := 29) rfl rfl, zut1 (j := 14) rfl rfl, zut9 (j := 28) rfl rfl, ⟨by decide +kernel, by decide +kernel⟩, by decide +kernel, by decide⟩
abbrev mX12_isLetter : zM := (yX12_isLetter, cX12_isLetter, 1, (some .boolean))
theorem sX12_isLetter : zMs mX12_isLetter 1 := ⟨zut9 (j := 192) rfl rfl, zut1 (j := 14) rfl rfl, zut9 (j := 191) rfl rfl, ⟨by decide +kernel, by decide +kernel⟩, by decide +kernel, by decide⟩
abbrev mX12_bit : zM := (yX12_bit, cX12_bit, 3, (some .boolean))
theorem sX12_bit : zMs mX12_bit 2 := ⟨zut9 (j := 53) rfl rfl, zut1 (j := 14) rfl rfl, zut9 (j := 52) rfl rfl, ⟨by decide +kernel, by decide +kernel⟩, by decide +kernel, by decide⟩
abbrev mX12_holds : zM := (yX12_holds, cX12_holds, 3, (some .boolean))
theorem sX12_holds : zMs mX12_holds 3 := ⟨zut9 (j := 215) rfl rfl, zut1 (j := 14) rfl rfl, zut9 (j := 214) rfl rfl, ⟨by decide +kernel, by decide +kernel⟩, by decide +kernel, by decide⟩
abbrev mX12_byteAt : zM := (yX12_byteAt, cX12_byteAt, 2, (some .int))
theorem vX12_byteAt : zMv mX12_byteAt 12 1 := ⟨zut8 (j := 139) rfl rfl, zut1 (j := 14) rfl rfl, zut8 (j := 138) rfl rfl, zus4 (j := 4) rfl, ⟨by decide +kernel, by decide +kernel⟩, by decide +kernel, by decide, by decide, TX12, 90, rfl⟩
abbrev mX12_isSmall : zM := (yX12_isSmall, cX12_isSmall, 1, (some .boolean))
theorem sX12_isSmall : zMs mX12_isSmall 1 := ⟨zut8 (j := 142) rfl rfl, zut1 (j := 14) rfl rfl, zut8 (j := 141) rfl rfl, ⟨by decide +kernel, by decide +kernel⟩, by decide +kernel, by decide⟩
abbrev mX12_isDigit : zM := (yX12_isDigit, cX12_isDigit, 1, (some .boolean))
theorem sX12_isDigit : zMs mX12_isDigit 1 := ⟨zut8 (j := 150) rfl rfl, zut1 (j := 14) rfl rfl, zut8 (j := 149) rfl rfl, ⟨by decide +kernel, by decide +kernel⟩, by decide +kernel, by decide⟩
abbrev mX12_next : zM := (yX12_next, cX12_next, 2, none)
theorem vX12_next : zMv mX12_next 12 0 := ⟨zut8 (j := 135) rfl rfl, zut1 (j := 14) rfl rfl, zut8 (j := 134) rfl rfl, zus4 (j := 3) rfl, ⟨by decide +kernel, by decide +kernel⟩, by decide +kernel, by decide, by decide, TX12, 90, rfl⟩
abbrev mX12_nextName : zM := (yX12_nextName, cX12_nextName, 2, none)
theorem vX12_nextName : zMv mX12_nextName 12 0 := ⟨zut8 (j := 146) rfl rfl, zut1 (j := 14) rfl rfl, zut8 (j := 145) rfl rfl, zus4 (j := 5) rfl, ⟨by decide +kernel, by decide +kernel⟩, by decide +kernel, by decide, by decide, TX12, 90, rfl⟩
abbrev mX12_nextWhole : zM := (yX12_nextWhole, cX12_nextWhole, 2, none)
theorem vX12_nextWhole : zMv mX12_nextWhole 12 0 := ⟨zut8 (j := 154) rfl rfl, zut1 (j := 14) rfl rfl, zut8 (j := 153) rfl rfl, zus4 (j := 6) rfl, ⟨by decide +kernel, by decide +kernel⟩, by decide +kernel, by decide, by decide, TX12, 90, rfl⟩
abbrev mX12_nextDots : zM := (yX12_nextDots, cX12_nextDots, 1, none)
theorem vX12_nextDots : zMv mX12_nextDots 12 0 := ⟨zut8 (j := 158) rfl rfl, zut1 (j := 14) rfl rfl, zut8 (j := 157) rfl rfl, zus4 (j := 7) rfl, ⟨by decide +kernel, by decide +kernel⟩, by decide +kernel, by decide, by decide, TX12, 90, rfl⟩
abbrev mX12_isSign : zM := (yX12_isSign, cX12_isSign, 1, (some .boolean))
theorem sX12_isSign : zMs mX12_isSign 1 := ⟨zut8 (j := 161) rfl rfl, zut1 (j := 14) rfl rfl, zut8 (j := 160) rfl rfl, ⟨by decide +kernel, by decide +kernel⟩, by decide +kernel, by decide⟩
abbrev mX12_nextSign : zM := (yX12_nextSign, cX12_nextSign, 2, none)
theorem vX12_nextSign : zMv mX12_nextSign 12 1 := ⟨zut8 (j := 165) rfl rfl, zut1 (j := 14) rfl rfl, zut8 (j := 164) rfl rfl, zus4 (j := 8) rfl, ⟨by decide +kernel, by decide +kernel⟩, by decide +kernel, by decide, by decide, TX12, 90, rfl⟩
abbrev mX12_wrongThere : zM := (yX12_wrongThere, cX12_wrongThere, 3, none)
theorem vX12_wrongThere : zMv mX12_wrongThere 12 2 := ⟨zut8 (j := 195) rfl rfl, zut1 (j := 14) rfl rfl, zut8 (j := 194) rfl rfl, zus4 (j := 14) rfl, ⟨by decide +kernel, by decide +kernel⟩, by decide +kernel, by decide, by decide, TX12, 90, rfl⟩
abbrev mX12_wrong : zM := (yX12_wrong, cX12_wrong, 2, none)
theorem vX12_wrong : zMv mX12_wrong 12 1 := ⟨zut8 (j := 191) rfl rfl, zut1 (j := 14) rfl rfl, zut8 (j := 190) rfl rfl, zus4 (j := 13) rfl, ⟨by decide +kernel, by decide +kernel⟩, by decide +kernel, by decide, by decide, TX12, 90, rfl⟩
abbrev mX12_is : zM := (yX12_is, cX12_is, 2, (some .boolean))
theorem vX12_is : zMv mX12_is 12 1 := ⟨zut8 (j := 228) rfl rfl, zut1 (j := 14) rfl rfl, zut8 (j := 227) rfl rfl, zus5 (j := 5) rfl, ⟨by decide +kernel, by decide +kernel⟩, by decide +kernel, by decide, by decide, TX12, 90, rfl⟩
abbrev mX12_passes : zM := (yX12_passes, cX12_passes, 3, (some .boolean))
theorem vX12_passes : zMv mX12_passes 12 1 := ⟨zut9 (j := 9) rfl rfl, zut1 (j := 14) rfl rfl, zut9 (j := 8) rfl rfl, zus5 (j := 10) rfl, ⟨by decide +kernel, by decide +kernel⟩, by decide +kernel, by decide, by decide, TX12, 90, rfl⟩
abbrev mX12_must : zM := (yX12_must, cX12_must, 2, none)
theorem vX12_must : zMv mX12_must 12 1 := ⟨zut9 (j := 5) rfl rfl, zut1 (j := 14) rfl rfl, zut9 (j := 4) rfl rfl, zus5 (j := 9) rfl, ⟨by decide +kernel, by decide +kernel⟩, by decide +kernel, by decide, by decide, TX12, 90, rfl⟩
abbrev mX12_packed : zM := (yX12_packed, cX12_packed, 4, (some .long))
theorem sX12_packed : zMs mX12_packed 1 := ⟨zut8 (j := 181) rfl rfl, zut1 (j := 14) rfl rfl, zut8 (j := 180) rfl rfl, ⟨by decide +kernel, by decide +kernel⟩, by decide +kernel, by decide⟩
abbrev mX12_isWord : zM := (yX12_isWord, cX12_isWord, 2, (some .boolean))
theorem vX12_isWord : zMv mX12_isWord 12 1 := ⟨zut8 (j := 178) rfl rfl, zut1 (j := 14) rfl rfl, zut8 (j := 177) rfl rfl, zus4 (j := 11) rfl, ⟨by decide +kernel, by decide +kernel⟩, by decide +kernel, by decide, by decide, TX12, 90, rfl⟩
abbrev mX12_isName : zM := (yX12_isName, cX12_isName, 1, (some .boolean))
theorem vX12_isName : zMv mX12_isName 12 0 := ⟨zut8 (j := 199) rfl rfl, zut1 (j := 14) rfl rfl, zut8 (j := 198) rfl rfl, zus4 (j := 15) rfl, ⟨by decide +kernel, by decide +kernel⟩, by decide +kernel, by decide, by decide, TX12, 90, rfl⟩
abbrev mX12_whole : zM := (yX12_whole, cX12_whole, 4, (some .int))
theorem vX12_whole : zMv mX12_whole 12 2 := ⟨zut9 (j := 26) rfl rfl, zut1 (j := 14) rfl rfl, zut9 (j := 25) rfl rfl, zus5 (j := 14) rfl, ⟨by decide +kernel, by decide +kernel⟩, by decide +kernel, by decide, by decide, TX12, 90, rfl⟩
abbrev mX12_lays : zM := (yX12_lays, cX12_lays, 4, none)
theorem vX12_lays : zMv mX12_lays 12 1 := ⟨zut9 (j := 17) rfl rfl, zut1 (j := 14) rfl rfl, zut9 (j := 16) rfl rfl, zus5 (j := 12) rfl, ⟨by decide +kernel, by decide +kernel⟩, by decide +kernel, by decide, by decide, TX12, 90, rfl⟩
abbrev mX12_laysRange : zM := (yX12_laysRange, cX12_laysRange, 9, none)
theorem vX12_laysRange : zMv mX12_laysRange 12 2 := ⟨zut9 (j := 33) rfl rfl, zut1 (j := 14) rfl rfl, zut9 (j := 32) rfl rfl, zus5 (j := 15) rfl, ⟨by decide +kernel, by decide +kernel⟩, by decide +kernel, by decide, by decide, TX12, 90, rfl⟩
abbrev mX12_joins : zM := (yX12_joins, cX12_joins, 6, none)
theorem vX12_joins : zMv mX12_joins 12 1 := ⟨zut9 (j := 45) rfl rfl, zut1 (j := 14) rfl rfl, zut9 (j := 44) rfl rfl, zus6 (j := 2) rfl, ⟨by decide +kernel, by decide +kernel⟩, by decide +kernel, by decide, by decide, TX12, 90, rfl⟩
abbrev mX12_readBody : zM := (yX12_readBody, cX12_readBody, 1, none)
theorem vX12_readBody : zMv mX12_readBody 12 0 := ⟨zut8 (j := 216) rfl rfl, zut1 (j := 14) rfl rfl, zut8 (j := 215) rfl rfl, zus5 (j := 2) rfl, ⟨by decide +kernel, by decide +kernel⟩, by decide +kernel, by decide, by decide, TX12, 90, rfl⟩
abbrev mX12_readMeet : zM := (yX12_readMeet, cX12_readMeet, 2, none)
theorem vX12_readMeet : zMv mX12_readMeet 12 0 := ⟨zut8 (j := 220) rfl rfl, zut1 (j := 14) rfl rfl, zut8 (j := 219) rfl rfl, zus5 (j := 3) rfl, ⟨by decide +kernel, by decide +kernel⟩, by decide +kernel, by decide, by decide, TX12, 90, rfl⟩
abbrev mX12_opens : zM := (yX12_opens, cX12_opens, 1, (some .boolean))
theorem vX12_opens : zMv mX12_opens 12 0 := ⟨zut8 (j := 232) rfl rfl, zut1 (j := 14) rfl rfl, zut8 (j := 231) rfl rfl, zus5 (j := 6) rfl, ⟨by decide +kernel, by decide +kernel⟩, by decide +kernel, by decide, by decide, TX12, 90, rfl⟩
abbrev mX12_readPart : zM := (yX12_readPart, cX12_readPart, 1, none)
theorem vX12_readPart : zMv mX12_readPart 12 0 := ⟨zut8 (j := 224) rfl rfl, zut1 (j := 14) rfl rfl, zut8 (j := 223) rfl rfl, zus5 (j := 4) rfl, ⟨by decide +kernel, by decide +kernel⟩, by decide +kernel, by decide, by decide, TX12, 90, rfl⟩
abbrev mX12_readOthers : zM := (yX12_readOthers, cX12_readOthers, 2, none)
theorem vX12_readOthers : zMv mX12_readOthers 12 0 := ⟨zut8 (j := 236) rfl rfl, zut1 (j := 14) rfl rfl, zut8 (j := 235) rfl rfl, zus5 (j := 7) rfl, ⟨by decide +kernel, by decide +kernel⟩, by decide +kernel, by decide, by decide, TX12, 90, rfl⟩
abbrev mX12_readInner : zM := (yX12_readInner, cX12_readInner, 1, none)
theorem vX12_readInner : zMv mX12_readInner 12 0 := ⟨zut9 (j := 1) rfl rfl, zut1 (j := 14) rfl rfl, zut9 (j := 0) rfl rfl, zus5 (j := 8) rfl, ⟨by decide +kernel, by decide +kernel⟩, by decide +kernel, by decide, by decide, TX12, 90, rfl⟩
abbrev mX12_readAny : zM := (yX12_readAny, cX12_readAny, 1, none)
theorem vX12_readAny : zMv mX12_readAny 12 0 := ⟨zut9 (j := 37) rfl rfl, zut1 (j := 14) rfl rfl, zut9 (j := 36) rfl rfl, zus6 (j := 0) rfl, ⟨by decide +kernel, by decide +kernel⟩, by decide +kernel, by decide, by decide, TX12, 90, rfl⟩
abbrev mX12_readRanges : zM := (yX12_readRanges, cX12_readRanges, 1, none)
theorem vX12_readRanges : zMv mX12_readRanges 12 0 := ⟨zut9 (j := 13) rfl rfl, zut1 (j := 14) rfl rfl, zut9 (j := 12) rfl rfl, zus5 (j := 11) rfl, ⟨by decide +kernel, by decide +kernel⟩, by decide +kernel, by decide, by decide, TX12, 90, rfl⟩
abbrev mX12_readRange : zM := (yX12_readRange, cX12_readRange, 3, none)
theorem vX12_readRange : zMv mX12_readRange 12 0 := ⟨zut9 (j := 21) rfl rfl, zut1 (j := 14) rfl rfl, zut9 (j := 20) rfl rfl, zus5 (j := 13) rfl, ⟨by decide +kernel, by decide +kernel⟩, by decide +kernel, by decide, by decide, TX12, 90, rfl⟩
abbrev mX12_readNamed : zM := (yX12_readNamed, cX12_readNamed, 3, none)
theorem vX12_readNamed : zMv mX12_readNamed 12 0 := ⟨zut9 (j := 41) rfl rfl, zut1 (j := 14) rfl rfl, zut9 (j := 40) rfl rfl, zus6 (j := 1) rfl, ⟨by decide +kernel, by decide +kernel⟩, by decide +kernel, by decide, by decide, TX12, 90, rfl⟩
abbrev mX12_named : zM := (yX12_named, cX12_named, 2, (some .int))
theorem vX12_named : zMv mX12_named 12 0 := ⟨zut8 (j := 208) rfl rfl, zut1 (j := 14) rfl rfl, zut8 (j := 207) rfl rfl, zus5 (j := 0) rfl, ⟨by decide +kernel, by decide +kernel⟩, by decide +kernel, by decide, by decide, TX12, 90, rfl⟩
abbrev mX12_bitAt : zM := (yX12_bitAt, cX12_bitAt, 2, (some .boolean))
theorem vX12_bitAt : zMv mX12_bitAt 12 1 := ⟨zut9 (j := 50) rfl rfl, zut1 (j := 14) rfl rfl, zut9 (j := 49) rfl rfl, zus6 (j := 3) rfl, ⟨by decide +kernel, by decide +kernel⟩, by decide +kernel, by decide, by decide, TX12, 90, rfl⟩
abbrev mX12_readSet : zM := (yX12_readSet, cX12_readSet, 5, none)
theorem vX12_readSet : zMv mX12_readSet 12 0 := ⟨zut8 (j := 212) rfl rfl, zut1 (j := 14) rfl rfl, zut8 (j := 211) rfl rfl, zus5 (j := 1) rfl, ⟨by decide +kernel, by decide +kernel⟩, by decide +kernel, by decide, by decide, TX12, 90, rfl⟩
abbrev mX12_foundRange : zM := (yX12_foundRange, cX12_foundRange, 3, (some .int))
theorem vX12_foundRange : zMv mX12_foundRange 12 1 := ⟨zut9 (j := 57) rfl rfl, zut1 (j := 14) rfl rfl, zut9 (j := 56) rfl rfl, zus6 (j := 4) rfl, ⟨by decide +kernel, by decide +kernel⟩, by decide +kernel, by decide, by decide, TX12, 90, rfl⟩
abbrev mX12_readAll : zM := (yX12_readAll, cX12_readAll, 2, none)
theorem vX12_readAll : zMv mX12_readAll 12 0 := ⟨zut8 (j := 169) rfl rfl, zut1 (j := 14) rfl rfl, zut8 (j := 168) rfl rfl, zus4 (j := 9) rfl, ⟨by decide +kernel, by decide +kernel⟩, by decide +kernel, by decide, by decide, TX12, 90, rfl⟩
abbrev mX12_readLine : zM := (yX12_readLine, cX12_readLine, 1, none)
theorem vX12_readLine : zMv mX12_readLine 12 0 := ⟨zut8 (j := 173) rfl rfl, zut1 (j := 14) rfl rfl, zut8 (j := 172) rfl rfl, zus4 (j := 10) rfl, ⟨by decide +kernel, by decide +kernel⟩, by decide +kernel, by decide, by decide, TX12, 90, rfl⟩
abbrev mX12_readSetLine : zM := (yX12_readSetLine, cX12_readSetLine, 3, none)
theorem vX12_readSetLine : zMv mX12_readSetLine 12 0 := ⟨zut8 (j := 187) rfl rfl, zut1 (j := 14) rfl rfl, zut8 (j := 186) rfl rfl, zus4 (j := 12) rfl, ⟨by decide +kernel, by decide +kernel⟩, by decide +kernel, by decide, by decide, TX12, 90, rfl⟩
abbrev mX12_keepsRanges : zM := (yX12_keepsRanges, cX12_keepsRanges, 6, none)
theorem vX12_keepsRanges : zMv mX12_keepsRanges 12 4 := ⟨zut9 (j := 61) rfl rfl, zut1 (j := 14) rfl rfl, zut9 (j := 60) rfl rfl, zus6 (j := 5) rfl, ⟨by decide +kernel, by decide +kernel⟩, by decide +kernel, by decide, by decide, TX12, 90, rfl⟩
abbrev mX12_readMachine : zM := (yX12_readMachine, cX12_readMachine, 2, none)
theorem vX12_readMachine : zMv mX12_readMachine 12 0 := ⟨zut9 (j := 65) rfl rfl, zut1 (j := 14) rfl rfl, zut9 (j := 64) rfl rfl, zus6 (j := 6) rfl, ⟨by decide +kernel, by decide +kernel⟩, by decide +kernel, by decide, by decide, TX12, 90, rfl⟩
abbrev mX12_latest : zM := (yX12_latest, cX12_latest, 1, (some .int))
theorem vX12_latest : zMv mX12_latest 12 0 := ⟨zut9 (j := 73) rfl rfl, zut1 (j := 14) rfl rfl, zut9 (j := 72) rfl rfl, zus6 (j := 8) rfl, ⟨by decide +kernel, by decide +kernel⟩, by decide +kernel, by decide, by decide, TX12, 90, rfl⟩
abbrev mX12_state : zM := (yX12_state, cX12_state, 1, (some .int))
theorem vX12_state : zMv mX12_state 12 0 := ⟨zut9 (j := 81) rfl rfl, zut1 (j := 14) rfl rfl, zut9 (j := 80) rfl rfl, zus6 (j := 10) rfl, ⟨by decide +kernel, by decide +kernel⟩, by decide +kernel, by decide, by decide, TX12, 90, rfl⟩
abbrev mX12_readState : zM := (yX12_readState, cX12_readState, 2, (some .int))
theorem vX12_readState : zMv mX12_readState 12 0 := ⟨zut9 (j := 77) rfl rfl, zut1 (j := 14) rfl rfl, zut9 (j := 76) rfl rfl, zus6 (j := 9) rfl, ⟨by decide +kernel, by decide +kernel⟩, by decide +kernel, by decide, by decide, TX12, 90, rfl⟩
abbrev mX12_readEdge : zM := (yX12_readEdge, cX12_readEdge, 5, none)
theorem vX12_readEdge : zMv mX12_readEdge 12 0 := ⟨zut9 (j := 69) rfl rfl, zut1 (j := 14) rfl rfl, zut9 (j := 68) rfl rfl, zus6 (j := 7) rfl, ⟨by decide +kernel, by decide +kernel⟩, by decide +kernel, by decide, by decide, TX12, 90, rfl⟩
abbrev mX12_readFree : zM := (yX12_readFree, cX12_readFree, 4, none)
theorem vX12_readFree : zMv mX12_readFree 12 0 := ⟨zut9 (j := 85) rfl rfl, zut1 (j := 14) rfl rfl, zut9 (j := 84) rfl rfl, zus6 (j := 11) rfl, ⟨by decide +kernel, by decide +kernel⟩, by decide +kernel, by decide, by decide, TX12, 90, rfl⟩
abbrev mX12_readEnd : zM := (yX12_readEnd, cX12_readEnd, 3, none)
theorem vX12_readEnd : zMv mX12_readEnd 12 0 := ⟨zut9 (j := 89) rfl rfl, zut1 (j := 14) rfl rfl, zut9 (j := 88) rfl rfl, zus6 (j := 12) rfl, ⟨by decide +kernel, by decide +kernel⟩, by decide +kernel, by decide, by decide, TX12, 90, rfl⟩
abbrev mX12_feed : zM := (yX12_feed, cX12_feed, 8, (some .int))
theorem vX12_feed : zMv mX12_feed 12 5 := ⟨zut8 (j := 123) rfl rfl, zut1 (j := 14) rfl rfl, zut8 (j := 121) rfl rfl, zut8 (j := 122) rfl rfl, ⟨by decide +kernel, by decide +kernel⟩, by decide +kernel, by decide, by decide, TX12, 90, rfl⟩
abbrev mX12_bench : zM := (yX12_bench, cX12_bench, 3, (some .int))
theorem vX12_bench : zMv mX12_bench 12 1 := ⟨zut8 (j := 127) rfl rfl, zut1 (j := 14) rfl rfl, zut8 (j := 125) rfl rfl, zut8 (j := 126) rfl rfl, ⟨by decide +kernel, by decide +kernel⟩, by decide +kernel, by decide, by decide, TX12, 90, rfl⟩
abbrev mX12_keepsSet : zM := (yX12_keepsSet, cX12_keepsSet, 3, none)
theorem vX12_keepsSet : zMv mX12_keepsSet 12 1 := ⟨zut9 (j := 153) rfl rfl, zut1 (j := 14) rfl rfl, zut9 (j := 152) rfl rfl, zus7 (j := 12) rfl, ⟨by decide +kernel, by decide +kernel⟩, by decide +kernel, by decide, by decide, TX12, 90, rfl⟩
abbrev mX12_fault : zM := (yX12_fault, cX12_fault, 1, (some .int))
theorem vX12_fault : zMv mX12_fault 12 0 := ⟨zut9 (j := 165) rfl rfl, zut1 (j := 14) rfl rfl, zut9 (j := 163) rfl rfl, zut9 (j := 164) rfl rfl, ⟨by decide +kernel, by decide +kernel⟩, by decide +kernel, by decide, by decide, TX12, 90, rfl⟩
abbrev mX12_where : zM := (yX12_where, cX12_where, 1, (some .int))
theorem vX12_where : zMv mX12_where 12 0 := ⟨zut9 (j := 169) rfl rfl, zut1 (j := 14) rfl rfl, zut9 (j := 167) rfl rfl, zut9 (j := 168) rfl rfl, ⟨by decide +kernel, by decide +kernel⟩, by decide +kernel, by decide, by decide, TX12, 90, rfl⟩
abbrev mX12_isSet : zM := (yX12_isSet, cX12_isSet, 2, (some .boolean))
theorem vX12_isSet : zMv mX12_isSet 12 1 := ⟨zut9 (j := 177) rfl rfl, zut1 (j := 14) rfl rfl, zut9 (j := 176) rfl rfl, zus7 (j := 15) rfl, ⟨by decide +kernel, by decide +kernel⟩, by decide +kernel, by decide, by decide, TX12, 90, rfl⟩
abbrev mX12_setHas : zM := (yX12_setHas, cX12_setHas, 4, (some .boolean))
theorem vX12_setHas : zMv mX12_setHas 12 2 := ⟨zut9 (j := 196) rfl rfl, zut1 (j := 14) rfl rfl, zut9 (j := 195) rfl rfl, zus8 (j := 0) rfl, ⟨by decide +kernel, by decide +kernel⟩, by decide +kernel, by decide, by decide, TX12, 90, rfl⟩
abbrev mX12_setTurns : zM := (yX12_setTurns, cX12_setTurns, 4, (some .int))
theorem vX12_setTurns : zMv mX12_setTurns 12 2 := ⟨zut9 (j := 212) rfl rfl, zut1 (j := 14) rfl rfl, zut9 (j := 211) rfl rfl, zus8 (j := 3) rfl, ⟨by decide +kernel, by decide +kernel⟩, by decide +kernel, by decide, by decide, TX12, 90, rfl⟩
abbrev mX12_ranges : zM := (yX12_ranges, cX12_ranges, 2, (some .int))
theorem vX12_ranges : zMv mX12_ranges 12 1 := ⟨zut9 (j := 173) rfl rfl, zut1 (j := 14) rfl rfl, zut9 (j := 171) rfl rfl, zut9 (j := 172) rfl rfl, ⟨by decide +kernel, by decide +kernel⟩, by decide +kernel, by decide, by decide, TX12, 90, rfl⟩
abbrev mX12_range : zM := (yX12_range, cX12_range, 4, (some .int))
theorem vX12_range : zMv mX12_range 12 3 := ⟨zut9 (j := 181) rfl rfl, zut1 (j := 14) rfl rfl, zut9 (j := 179) rfl rfl, zut9 (j := 180) rfl rfl, ⟨by decide +kernel, by decide +kernel⟩, by decide +kernel, by decide, by decide, TX12, 90, rfl⟩
abbrev mX12_letters : zM := (yX12_letters, cX12_letters, 4, (some .int))
theorem vX12_letters : zMv mX12_letters 12 1 := ⟨zut9 (j := 185) rfl rfl, zut1 (j := 14) rfl rfl, zut9 (j := 183) rfl rfl, zut9 (j := 184) rfl rfl, ⟨by decide +kernel, by decide +kernel⟩, by decide +kernel, by decide, by decide, TX12, 90, rfl⟩
abbrev mX12_has : zM := (yX12_has, cX12_has, 3, (some .int))
theorem vX12_has : zMv mX12_has 12 2 := ⟨zut9 (j := 189) rfl rfl, zut1 (j := 14) rfl rfl, zut9 (j := 187) rfl rfl, zut9 (j := 188) rfl rfl, ⟨by decide +kernel, by decide +kernel⟩, by decide +kernel, by decide, by decide, TX12, 90, rfl⟩
abbrev mX12_mixes : zM := (yX12_mixes, cX12_mixes, 11, none)
theorem vX12_mixes : zMv mX12_mixes 12 4 := ⟨zut9 (j := 208) rfl rfl, zut1 (j := 14) rfl rfl, zut9 (j := 207) rfl rfl, zus8 (j := 2) rfl, ⟨by decide +kernel, by decide +kernel⟩, by decide +kernel, by decide, by decide, TX12, 90, rfl⟩
abbrev mX12_refusesMix : zM := (yX12_refusesMix, cX12_refusesMix, 4, (some .int))
theorem vX12_refusesMix : zMv mX12_refusesMix 12 3 := ⟨zut9 (j := 204) rfl rfl, zut1 (j := 14) rfl rfl, zut9 (j := 203) rfl rfl, zus8 (j := 1) rfl, ⟨by decide +kernel, by decide +kernel⟩, by decide +kernel, by decide, by decide, TX12, 90, rfl⟩
abbrev mX12_mixed : zM := (yX12_mixed, cX12_mixed, 5, (some .int))
theorem vX12_mixed : zMv mX12_mixed 12 3 := ⟨zut9 (j := 200) rfl rfl, zut1 (j := 14) rfl rfl, zut9 (j := 198) rfl rfl, zut9 (j := 199) rfl rfl, ⟨by decide +kernel, by decide +kernel⟩, by decide +kernel, by decide, by decide, TX12, 90, rfl⟩
abbrev mX12_mixedRanges : zM := (yX12_mixedRanges, cX12_mixedRanges, 5, (some .int))
theorem vX12_mixedRanges : zMv mX12_mixedRanges 12 3 := ⟨zut9 (j := 219) rfl rfl, zut1 (j := 14) rfl rfl, zut9 (j := 217) rfl rfl, zut9 (j := 218) rfl rfl, ⟨by decide +kernel, by decide +kernel⟩, by decide +kernel, by decide, by decide, TX12, 90, rfl⟩
abbrev mX12_mixedRange : zM := (yX12_mixedRange, cX12_mixedRange, 7, (some .int))
theorem vX12_mixedRange : zMv mX12_mixedRange 12 5 := ⟨zut9 (j := 223) rfl rfl, zut1 (j := 14) rfl rfl, zut9 (j := 221) rfl rfl, zut9 (j := 222) rfl rfl, ⟨by decide +kernel, by decide +kernel⟩, by decide +kernel, by decide, by decide, TX12, 90, rfl⟩
abbrev mX12_builds : zM := (yX12_builds, cX12_builds, 2, none)
theorem vX12_builds : zMv mX12_builds 12 1 := ⟨zut9 (j := 97) rfl rfl, zut1 (j := 14) rfl rfl, zut9 (j := 96) rfl rfl, zus6 (j := 14) rfl, ⟨by decide +kernel, by decide +kernel⟩, by decide +kernel, by decide, by decide, TX12, 90, rfl⟩
abbrev mX12_buildsEdge : zM := (yX12_buildsEdge, cX12_buildsEdge, 3, (some .boolean))
theorem vX12_buildsEdge : zMv mX12_buildsEdge 12 2 := ⟨zut9 (j := 101) rfl rfl, zut1 (j := 14) rfl rfl, zut9 (j := 100) rfl rfl, zus6 (j := 15) rfl, ⟨by decide +kernel, by decide +kernel⟩, by decide +kernel, by decide, by decide, TX12, 90, rfl⟩
abbrev mX12_buildsRange : zM := (yX12_buildsRange, cX12_buildsRange, 4, none)
theorem vX12_buildsRange : zMv mX12_buildsRange 12 2 := ⟨zut9 (j := 105) rfl rfl, zut1 (j := 14) rfl rfl, zut9 (j := 104) rfl rfl, zus7 (j := 0) rfl, ⟨by decide +kernel, by decide +kernel⟩, by decide +kernel, by decide, by decide, TX12, 90, rfl⟩
abbrev mX12_keepsEdge : zM := (yX12_keepsEdge, cX12_keepsEdge, 1, none)
theorem vX12_keepsEdge : zMv mX12_keepsEdge 12 0 := ⟨zut11 (j := 82) rfl rfl, zut1 (j := 14) rfl rfl, zut11 (j := 81) rfl rfl, zus10 (j := 15) rfl, ⟨by decide +kernel, by decide +kernel⟩, by decide +kernel, by decide, by decide, TX12, 90, rfl⟩
abbrev mX12_buildsFree : zM := (yX12_buildsFree, cX12_buildsFree, 3, none)
theorem vX12_buildsFree : zMv mX12_buildsFree 12 2 := ⟨zut9 (j := 109) rfl rfl, zut1 (j := 14) rfl rfl, zut9 (j := 108) rfl rfl, zus7 (j := 1) rfl, ⟨by decide +kernel, by decide +kernel⟩, by decide +kernel, by decide, by decide, TX12, 90, rfl⟩
abbrev mX12_buildsTold : zM := (yX12_buildsTold, cX12_buildsTold, 4, none)
theorem vX12_buildsTold : zMv mX12_buildsTold 12 1 := ⟨zut9 (j := 93) rfl rfl, zut1 (j := 14) rfl rfl, zut9 (j := 92) rfl rfl, zus6 (j := 13) rfl, ⟨by decide +kernel, by decide +kernel⟩, by decide +kernel, by decide, by decide, TX12, 90, rfl⟩
abbrev mX12_keepsMachine : zM := (yX12_keepsMachine, cX12_keepsMachine, 4, none)
theorem vX12_keepsMachine : zMv mX12_keepsMachine 12 2 := ⟨zut9 (j := 157) rfl rfl, zut1 (j := 14) rfl rfl, zut9 (j := 156) rfl rfl, zus7 (j := 13) rfl, ⟨by decide +kernel, by decide +kernel⟩, by decide +kernel, by decide, by decide, TX12, 90, rfl⟩
abbrev mX12_cuts : zM := (yX12_cuts, cX12_cuts, 6, (some .boolean))
theorem vX12_cuts : zMv mX12_cuts 12 2 := ⟨zut9 (j := 121) rfl rfl, zut1 (j := 14) rfl rfl, zut9 (j := 120) rfl rfl, zus7 (j := 4) rfl, ⟨by decide +kernel, by decide +kernel⟩, by decide +kernel, by decide, by decide, TX12, 90, rfl⟩
abbrev mX12_cutsAll : zM := (yX12_cutsAll, cX12_cutsAll, 3, (some .boolean))
theorem vX12_cutsAll : zMv mX12_cutsAll 12 1 := ⟨zut9 (j := 117) rfl rfl, zut1 (j := 14) rfl rfl, zut9 (j := 116) rfl rfl, zus7 (j := 3) rfl, ⟨by decide +kernel, by decide +kernel⟩, by decide +kernel, by decide, by decide, TX12, 90, rfl⟩
abbrev mX12_settles : zM := (yX12_settles, cX12_settles, 3, (some .boolean))
theorem vX12_settles : zMv mX12_settles 12 1 := ⟨zut9 (j := 113) rfl rfl, zut1 (j := 14) rfl rfl, zut9 (j := 112) rfl rfl, zus7 (j := 2) rfl, ⟨by decide +kernel, by decide +kernel⟩, by decide +kernel, by decide, by decide, TX12, 90, rfl⟩
abbrev mX12_settlesEdge : zM := (yX12_settlesEdge, cX12_settlesEdge, 6, none)
theorem vX12_settlesEdge : zMv mX12_settlesEdge 12 2 := ⟨zut9 (j := 125) rfl rfl, zut1 (j := 14) rfl rfl, zut9 (j := 124) rfl rfl, zus7 (j := 5) rfl, ⟨by decide +kernel, by decide +kernel⟩, by decide +kernel, by decide, by decide, TX12, 90, rfl⟩
abbrev mX12_blockAt : zM := (yX12_blockAt, cX12_blockAt, 4, (some .int))
theorem vX12_blockAt : zMv mX12_blockAt 12 2 := ⟨zut9 (j := 129) rfl rfl, zut1 (j := 14) rfl rfl, zut9 (j := 128) rfl rfl, zus7 (j := 6) rfl, ⟨by decide +kernel, by decide +kernel⟩, by decide +kernel, by decide, by decide, TX12, 90, rfl⟩
abbrev mX12_blockEnd : zM := (yX12_blockEnd, cX12_blockEnd, 3, (some .int))
theorem vX12_blockEnd : zMv mX12_blockEnd 12 2 := ⟨zut10 (j := 38) rfl rfl, zut1 (j := 14) rfl rfl, zut10 (j := 37) rfl rfl, zus8 (j := 14) rfl, ⟨by decide +kernel, by decide +kernel⟩, by decide +kernel, by decide, by decide, TX12, 90, rfl⟩
abbrev mX12_edgeHas : zM := (yX12_edgeHas, cX12_edgeHas, 4, (some .boolean))
theorem vX12_edgeHas : zMv mX12_edgeHas 12 3 := ⟨zut9 (j := 145) rfl rfl, zut1 (j := 14) rfl rfl, zut9 (j := 144) rfl rfl, zus7 (j := 10) rfl, ⟨by decide +kernel, by decide +kernel⟩, by decide +kernel, by decide, by decide, TX12, 90, rfl⟩
abbrev mX12_freed : zM := (yX12_freed, cX12_freed, 10, (some .long))
theorem vX12_freed : zMv mX12_freed 12 2 := ⟨zut9 (j := 137) rfl rfl, zut1 (j := 14) rfl rfl, zut9 (j := 136) rfl rfl, zus7 (j := 8) rfl, ⟨by decide +kernel, by decide +kernel⟩, by decide +kernel, by decide, by decide, TX12, 90, rfl⟩
abbrev mX12_stepped : zM := (yX12_stepped, cX12_stepped, 8, (some .long))
theorem vX12_stepped : zMv mX12_stepped 12 3 := ⟨zut9 (j := 141) rfl rfl, zut1 (j := 14) rfl rfl, zut9 (j := 140) rfl rfl, zus7 (j := 9) rfl, ⟨by decide +kernel, by decide +kernel⟩, by decide +kernel, by decide, by decide, TX12, 90, rfl⟩
abbrev mX12_gathers : zM := (yX12_gathers, cX12_gathers, 10, (some .boolean))
theorem vX12_gathers : zMv mX12_gathers 12 2 := ⟨zut9 (j := 133) rfl rfl, zut1 (j := 14) rfl rfl, zut9 (j := 132) rfl rfl, zus7 (j := 7) rfl, ⟨by decide +kernel, by decide +kernel⟩, by decide +kernel, by decide, by decide, TX12, 90, rfl⟩
abbrev mX12_sheafIn : zM := (yX12_sheafIn, cX12_sheafIn, 6, (some .int))
theorem vX12_sheafIn : zMv mX12_sheafIn 12 3 := ⟨zut9 (j := 149) rfl rfl, zut1 (j := 14) rfl rfl, zut9 (j := 148) rfl rfl, zus7 (j := 11) rfl, ⟨by decide +kernel, by decide +kernel⟩, by decide +kernel, by decide, by decide, TX12, 90, rfl⟩
abbrev mX12_goesTo : zM := (yX12_goesTo, cX12_goesTo, 4, (some .int))
theorem vX12_goesTo : zMv mX12_goesTo 12 3 := ⟨zut10 (j := 18) rfl rfl, zut1 (j := 14) rfl rfl, zut10 (j := 17) rfl rfl, zus8 (j := 10) rfl, ⟨by decide +kernel, by decide +kernel⟩, by decide +kernel, by decide, by decide, TX12, 90, rfl⟩
abbrev mX12_sheafEnds : zM := (yX12_sheafEnds, cX12_sheafEnds, 4, (some .boolean))
theorem vX12_sheafEnds : zMv mX12_sheafEnds 12 3 := ⟨zut10 (j := 6) rfl rfl, zut1 (j := 14) rfl rfl, zut10 (j := 5) rfl rfl, zus8 (j := 7) rfl, ⟨by decide +kernel, by decide +kernel⟩, by decide +kernel, by decide, by decide, TX12, 90, rfl⟩
abbrev mX12_parts : zM := (yX12_parts, cX12_parts, 6, none)
theorem vX12_parts : zMv mX12_parts 12 2 := ⟨zut10 (j := 2) rfl rfl, zut1 (j := 14) rfl rfl, zut10 (j := 1) rfl rfl, zus8 (j := 6) rfl, ⟨by decide +kernel, by decide +kernel⟩, by decide +kernel, by decide, by decide, TX12, 90, rfl⟩
abbrev mX12_partsMore : zM := (yX12_partsMore, cX12_partsMore, 7, (some .boolean))
theorem vX12_partsMore : zMv mX12_partsMore 12 3 := ⟨zut10 (j := 10) rfl rfl, zut1 (j := 14) rfl rfl, zut10 (j := 9) rfl rfl, zus8 (j := 8) rfl, ⟨by decide +kernel, by decide +kernel⟩, by decide +kernel, by decide, by decide, TX12, 90, rfl⟩
abbrev mX12_partingBlock : zM := (yX12_partingBlock, cX12_partingBlock, 7, (some .int))
theorem vX12_partingBlock : zMv mX12_partingBlock 12 5 := ⟨zut10 (j := 14) rfl rfl, zut1 (j := 14) rfl rfl, zut10 (j := 13) rfl rfl, zus8 (j := 9) rfl, ⟨by decide +kernel, by decide +kernel⟩, by decide +kernel, by decide, by decide, TX12, 90, rfl⟩
abbrev mX12_sorts : zM := (yX12_sorts, cX12_sorts, 7, none)
theorem vX12_sorts : zMv mX12_sorts 12 2 := ⟨zut9 (j := 238) rfl rfl, zut1 (j := 14) rfl rfl, zut9 (j := 237) rfl rfl, zus8 (j := 5) rfl, ⟨by decide +kernel, by decide +kernel⟩, by decide +kernel, by decide, by decide, TX12, 90, rfl⟩
abbrev mX12_classGoes : zM := (yX12_classGoes, cX12_classGoes, 4, (some .int))
theorem vX12_classGoes : zMv mX12_classGoes 12 3 := ⟨zut10 (j := 109) rfl rfl, zut1 (j := 14) rfl rfl, zut10 (j := 108) rfl rfl, zus9 (j := 6) rfl, ⟨by decide +kernel, by decide +kernel⟩, by decide +kernel, by decide, by decide, TX12, 90, rfl⟩
abbrev mX12_classEnds : zM := (yX12_classEnds, cX12_classEnds, 4, (some .boolean))
theorem vX12_classEnds : zMv mX12_classEnds 12 3 := ⟨zut10 (j := 117) rfl rfl, zut1 (j := 14) rfl rfl, zut10 (j := 116) rfl rfl, zus9 (j := 7) rfl, ⟨by decide +kernel, by decide +kernel⟩, by decide +kernel, by decide, by decide, TX12, 90, rfl⟩
abbrev mX12_isMachine : zM := (yX12_isMachine, cX12_isMachine, 2, (some .boolean))
theorem vX12_isMachine : zMv mX12_isMachine 12 1 := ⟨zut9 (j := 231) rfl rfl, zut1 (j := 14) rfl rfl, zut9 (j := 230) rfl rfl, zus8 (j := 4) rfl, ⟨by decide +kernel, by decide +kernel⟩, by decide +kernel, by decide, by decide, TX12, 90, rfl⟩
abbrev mX12_bitsIn : zM := (yX12_bitsIn, cX12_bitsIn, 4, (some .int))
theorem sX12_bitsIn : zMs mX12_bitsIn 1 := ⟨zut9 (j := 234) rfl rfl, zut1 (j := 14) rfl rfl, zut9 (j := 233) rfl rfl, ⟨by decide +kernel, by decide +kernel⟩, by decide +kernel, by decide⟩
abbrev mX12_size : zM := (yX12_size, cX12_size, 3, (some .int))
theorem vX12_size : zMv mX12_size 12 2 := ⟨zut9 (j := 227) rfl rfl, zut1 (j := 14) rfl rfl, zut9 (j := 225) rfl rfl, zut9 (j := 226) rfl rfl, ⟨by decide +kernel, by decide +kernel⟩, by decide +kernel, by decide, by decide, TX12, 90, rfl⟩
abbrev mX12_isEdge : zM := (yX12_isEdge, cX12_isEdge, 3, (some .boolean))
theorem vX12_isEdge : zMv mX12_isEdge 12 2 := ⟨zut10 (j := 26) rfl rfl, zut1 (j := 14) rfl rfl, zut10 (j := 25) rfl rfl, zus8 (j := 11) rfl, ⟨by decide +kernel, by decide +kernel⟩, by decide +kernel, by decide, by decide, TX12, 90, rfl⟩
abbrev mX12_edgeRanges : zM := (yX12_edgeRanges, cX12_edgeRanges, 5, (some .int))
theorem vX12_edgeRanges : zMv mX12_edgeRanges 12 2 := ⟨zut10 (j := 30) rfl rfl, zut1 (j := 14) rfl rfl, zut10 (j := 29) rfl rfl, zus8 (j := 12) rfl, ⟨by decide +kernel, by decide +kernel⟩, by decide +kernel, by decide, by decide, TX12, 90, rfl⟩
abbrev mX12_edgeLetters : zM := (yX12_edgeLetters, cX12_edgeLetters, 5, (some .int))
theorem vX12_edgeLetters : zMv mX12_edgeLetters 12 2 := ⟨zut10 (j := 34) rfl rfl, zut1 (j := 14) rfl rfl, zut10 (j := 33) rfl rfl, zus8 (j := 13) rfl, ⟨by decide +kernel, by decide +kernel⟩, by decide +kernel, by decide, by decide, TX12, 90, rfl⟩
abbrev mX12_edge : zM := (yX12_edge, cX12_edge, 4, (some .int))
theorem vX12_edge : zMv mX12_edge 12 3 := ⟨zut10 (j := 22) rfl rfl, zut1 (j := 14) rfl rfl, zut10 (j := 20) rfl rfl, zut10 (j := 21) rfl rfl, ⟨by decide +kernel, by decide +kernel⟩, by decide +kernel, by decide, by decide, TX12, 90, rfl⟩
abbrev mX12_edgeRange : zM := (yX12_edgeRange, cX12_edgeRange, 8, (some .int))
theorem vX12_edgeRange : zMv mX12_edgeRange 12 4 := ⟨zut10 (j := 42) rfl rfl, zut1 (j := 14) rfl rfl, zut10 (j := 40) rfl rfl, zut10 (j := 41) rfl rfl, ⟨by decide +kernel, by decide +kernel⟩, by decide +kernel, by decide, by decide, TX12, 90, rfl⟩
abbrev mX12_free : zM := (yX12_free, cX12_free, 4, (some .int))
theorem vX12_free : zMv mX12_free 12 3 := ⟨zut10 (j := 46) rfl rfl, zut1 (j := 14) rfl rfl, zut10 (j := 44) rfl rfl, zut10 (j := 45) rfl rfl, ⟨by decide +kernel, by decide +kernel⟩, by decide +kernel, by decide, by decide, TX12, 90, rfl⟩
abbrev mX12_ends : zM := (yX12_ends, cX12_ends, 2, (some .long))
theorem vX12_ends : zMv mX12_ends 12 1 := ⟨zut10 (j := 50) rfl rfl, zut1 (j := 14) rfl rfl, zut10 (j := 48) rfl rfl, zut10 (j := 49) rfl rfl, ⟨by decide +kernel, by decide +kernel⟩, by decide +kernel, by decide, by decide, TX12, 90, rfl⟩
abbrev mX12_block : zM := (yX12_block, cX12_block, 3, (some .int))
theorem vX12_block : zMv mX12_block 12 2 := ⟨zut10 (j := 58) rfl rfl, zut1 (j := 14) rfl rfl, zut10 (j := 56) rfl rfl, zut10 (j := 57) rfl rfl, ⟨by decide +kernel, by decide +kernel⟩, by decide +kernel, by decide, by decide, TX12, 90, rfl⟩
abbrev mX12_sheaf : zM := (yX12_sheaf, cX12_sheaf, 3, (some .long))
theorem vX12_sheaf : zMv mX12_sheaf 12 2 := ⟨zut10 (j := 62) rfl rfl, zut1 (j := 14) rfl rfl, zut10 (j := 60) rfl rfl, zut10 (j := 61) rfl rfl, ⟨by decide +kernel, by decide +kernel⟩, by decide +kernel, by decide, by decide, TX12, 90, rfl⟩
abbrev mX12_reached : zM := (yX12_reached, cX12_reached, 11, (some .long))
theorem vX12_reached : zMv mX12_reached 12 3 := ⟨zut10 (j := 70) rfl rfl, zut1 (j := 14) rfl rfl, zut10 (j := 69) rfl rfl, zus9 (j := 0) rfl, ⟨by decide +kernel, by decide +kernel⟩, by decide +kernel, by decide, by decide, TX12, 90, rfl⟩
abbrev mX12_oneMore : zM := (yX12_oneMore, cX12_oneMore, 5, (some .long))
theorem sX12_oneMore : zMs mX12_oneMore 4 := ⟨zut10 (j := 73) rfl rfl, zut1 (j := 14) rfl rfl, zut10 (j := 72) rfl rfl, ⟨by decide +kernel, by decide +kernel⟩, by decide +kernel, by decide⟩
abbrev mX12_useless : zM := (yX12_useless, cX12_useless, 4, (some .long))
theorem vX12_useless : zMv mX12_useless 12 1 := ⟨zut10 (j := 66) rfl rfl, zut1 (j := 14) rfl rfl, zut10 (j := 64) rfl rfl, zut10 (j := 65) rfl rfl, ⟨by decide +kernel, by decide +kernel⟩, by decide +kernel, by decide, by decide, TX12, 90, rfl⟩
abbrev mX12_isState : zM := (yX12_isState, cX12_isState, 3, (some .boolean))
theorem vX12_isState : zMv mX12_isState 12 2 := ⟨zut10 (j := 81) rfl rfl, zut1 (j := 14) rfl rfl, zut10 (j := 80) rfl rfl, zus9 (j := 1) rfl, ⟨by decide +kernel, by decide +kernel⟩, by decide +kernel, by decide, by decide, TX12, 90, rfl⟩
abbrev mX12_isLike : zM := (yX12_isLike, cX12_isLike, 6, (some .boolean))
theorem vX12_isLike : zMv mX12_isLike 12 4 := ⟨zut10 (j := 89) rfl rfl, zut1 (j := 14) rfl rfl, zut10 (j := 88) rfl rfl, zus9 (j := 3) rfl, ⟨by decide +kernel, by decide +kernel⟩, by decide +kernel, by decide, by decide, TX12, 90, rfl⟩
abbrev mX12_beginsTerm : zM := (yX12_beginsTerm, cX12_beginsTerm, 5, (some .boolean))
theorem vX12_beginsTerm : zMv mX12_beginsTerm 12 3 := ⟨zut10 (j := 85) rfl rfl, zut1 (j := 14) rfl rfl, zut10 (j := 84) rfl rfl, zus9 (j := 2) rfl, ⟨by decide +kernel, by decide +kernel⟩, by decide +kernel, by decide, by decide, TX12, 90, rfl⟩
abbrev mX12_terms : zM := (yX12_terms, cX12_terms, 5, (some .int))
theorem vX12_terms : zMv mX12_terms 12 2 := ⟨zut10 (j := 77) rfl rfl, zut1 (j := 14) rfl rfl, zut10 (j := 75) rfl rfl, zut10 (j := 76) rfl rfl, ⟨by decide +kernel, by decide +kernel⟩, by decide +kernel, by decide, by decide, TX12, 90, rfl⟩
abbrev mX12_termAt : zM := (yX12_termAt, cX12_termAt, 6, (some .int))
theorem vX12_termAt : zMv mX12_termAt 12 3 := ⟨zut10 (j := 97) rfl rfl, zut1 (j := 14) rfl rfl, zut10 (j := 96) rfl rfl, zus9 (j := 4) rfl, ⟨by decide +kernel, by decide +kernel⟩, by decide +kernel, by decide, by decide, TX12, 90, rfl⟩
abbrev mX12_term : zM := (yX12_term, cX12_term, 8, (some .int))
theorem vX12_term : zMv mX12_term 12 4 := ⟨zut10 (j := 93) rfl rfl, zut1 (j := 14) rfl rfl, zut10 (j := 91) rfl rfl, zut10 (j := 92) rfl rfl, ⟨by decide +kernel, by decide +kernel⟩, by decide +kernel, by decide, by decide, TX12, 90, rfl⟩
abbrev mX12_isClass : zM := (yX12_isClass, cX12_isClass, 3, (some .boolean))
theorem vX12_isClass : zMv mX12_isClass 12 2 := ⟨zut10 (j := 105) rfl rfl, zut1 (j := 14) rfl rfl, zut10 (j := 104) rfl rfl, zus9 (j := 5) rfl, ⟨by decide +kernel, by decide +kernel⟩, by decide +kernel, by decide, by decide, TX12, 90, rfl⟩
abbrev mX12_go : zM := (yX12_go, cX12_go, 4, (some .int))
theorem vX12_go : zMv mX12_go 12 3 := ⟨zut10 (j := 101) rfl rfl, zut1 (j := 14) rfl rfl, zut10 (j := 99) rfl rfl, zut10 (j := 100) rfl rfl, ⟨by decide +kernel, by decide +kernel⟩, by decide +kernel, by decide, by decide, TX12, 90, rfl⟩
abbrev mX12_takes : zM := (yX12_takes, cX12_takes, 3, (some .int))
theorem vX12_takes : zMv mX12_takes 12 2 := ⟨zut10 (j := 113) rfl rfl, zut1 (j := 14) rfl rfl, zut10 (j := 111) rfl rfl, zut10 (j := 112) rfl rfl, ⟨by decide +kernel, by decide +kernel⟩, by decide +kernel, by decide, by decide, TX12, 90, rfl⟩
abbrev mX12_isDead : zM := (yX12_isDead, cX12_isDead, 4, (some .boolean))
theorem vX12_isDead : zMv mX12_isDead 12 2 := ⟨zut10 (j := 125) rfl rfl, zut1 (j := 14) rfl rfl, zut10 (j := 124) rfl rfl, zus9 (j := 8) rfl, ⟨by decide +kernel, by decide +kernel⟩, by decide +kernel, by decide, by decide, TX12, 90, rfl⟩
abbrev mX12_dead : zM := (yX12_dead, cX12_dead, 3, (some .int))
theorem vX12_dead : zMv mX12_dead 12 1 := ⟨zut10 (j := 121) rfl rfl, zut1 (j := 14) rfl rfl, zut10 (j := 119) rfl rfl, zut10 (j := 120) rfl rfl, ⟨by decide +kernel, by decide +kernel⟩, by decide +kernel, by decide, by decide, TX12, 90, rfl⟩
abbrev mX12_wordOf : zM := (yX12_wordOf, cX12_wordOf, 4, (some .int))
theorem vX12_wordOf : zMv mX12_wordOf 12 1 := ⟨zut10 (j := 133) rfl rfl, zut1 (j := 14) rfl rfl, zut10 (j := 132) rfl rfl, zus9 (j := 9) rfl, ⟨by decide +kernel, by decide +kernel⟩, by decide +kernel, by decide, by decide, TX12, 90, rfl⟩
abbrev mX12_first : zM := (yX12_first, cX12_first, 3, (some .int))
theorem vX12_first : zMv mX12_first 12 2 := ⟨zut10 (j := 129) rfl rfl, zut1 (j := 14) rfl rfl, zut10 (j := 127) rfl rfl, zut10 (j := 128) rfl rfl, ⟨by decide +kernel, by decide +kernel⟩, by decide +kernel, by decide, by decide, TX12, 90, rfl⟩
abbrev mX12_firstLetter : zM := (yX12_firstLetter, cX12_firstLetter, 7, (some .int))
theorem vX12_firstLetter : zMv mX12_firstLetter 12 3 := ⟨zut10 (j := 137) rfl rfl, zut1 (j := 14) rfl rfl, zut10 (j := 135) rfl rfl, zut10 (j := 136) rfl rfl, ⟨by decide +kernel, by decide +kernel⟩, by decide +kernel, by decide, by decide, TX12, 90, rfl⟩
abbrev mX12_partedBy : zM := (yX12_partedBy, cX12_partedBy, 3, (some .int))
theorem vX12_partedBy : zMv mX12_partedBy 12 2 := ⟨zut10 (j := 145) rfl rfl, zut1 (j := 14) rfl rfl, zut10 (j := 144) rfl rfl, zus9 (j := 10) rfl, ⟨by decide +kernel, by decide +kernel⟩, by decide +kernel, by decide, by decide, TX12, 90, rfl⟩
abbrev mX12_parting : zM := (yX12_parting, cX12_parting, 4, (some .int))
theorem vX12_parting : zMv mX12_parting 12 3 := ⟨zut10 (j := 141) rfl rfl, zut1 (j := 14) rfl rfl, zut10 (j := 139) rfl rfl, zut10 (j := 140) rfl rfl, ⟨by decide +kernel, by decide +kernel⟩, by decide +kernel, by decide, by decide, TX12, 90, rfl⟩
abbrev mX12_partingLetter : zM := (yX12_partingLetter, cX12_partingLetter, 10, (some .int))
theorem vX12_partingLetter : zMv mX12_partingLetter 12 4 := ⟨zut10 (j := 149) rfl rfl, zut1 (j := 14) rfl rfl, zut10 (j := 147) rfl rfl, zut10 (j := 148) rfl rfl, ⟨by decide +kernel, by decide +kernel⟩, by decide +kernel, by decide, by decide, TX12, 90, rfl⟩
abbrev mX12_rounds : zM := (yX12_rounds, cX12_rounds, 2, (some .int))
theorem vX12_rounds : zMv mX12_rounds 12 1 := ⟨zut10 (j := 153) rfl rfl, zut1 (j := 14) rfl rfl, zut10 (j := 151) rfl rfl, zut10 (j := 152) rfl rfl, ⟨by decide +kernel, by decide +kernel⟩, by decide +kernel, by decide, by decide, TX12, 90, rfl⟩
abbrev mX12_word : zM := (yX12_word, cX12_word, 7, (some .int))
theorem vX12_word : zMv mX12_word 12 5 := ⟨zut10 (j := 157) rfl rfl, zut1 (j := 14) rfl rfl, zut10 (j := 155) rfl rfl, zut10 (j := 156) rfl rfl, ⟨by decide +kernel, by decide +kernel⟩, by decide +kernel, by decide, by decide, TX12, 90, rfl⟩
abbrev mX12_more : zM := (yX12_more, cX12_more, 2, (some .int))
theorem vX12_more : zMv mX12_more 12 1 := ⟨zut10 (j := 161) rfl rfl, zut1 (j := 14) rfl rfl, zut10 (j := 159) rfl rfl, zut10 (j := 160) rfl rfl, ⟨by decide +kernel, by decide +kernel⟩, by decide +kernel, by decide, by decide, TX12, 90, rfl⟩
abbrev mX12_led : zM := (yX12_led, cX12_led, 5, (some .long))
theorem vX12_led : zMv mX12_led 12 1 := ⟨zut10 (j := 169) rfl rfl, zut1 (j := 14) rfl rfl, zut10 (j := 168) rfl rfl, zus9 (j := 11) rfl, ⟨by decide +kernel, by decide +kernel⟩, by decide +kernel, by decide, by decide, TX12, 90, rfl⟩
abbrev mX12_taken : zM := (yX12_taken, cX12_taken, 2, (some .int))
theorem vX12_taken : zMv mX12_taken 12 1 := ⟨zut10 (j := 165) rfl rfl, zut1 (j := 14) rfl rfl, zut10 (j := 163) rfl rfl, zut10 (j := 164) rfl rfl, ⟨by decide +kernel, by decide +kernel⟩, by decide +kernel, by decide, by decide, TX12, 90, rfl⟩
abbrev mX12_leads : zM := (yX12_leads, cX12_leads, 2, (some .long))
theorem vX12_leads : zMv mX12_leads 12 1 := ⟨zut10 (j := 173) rfl rfl, zut1 (j := 14) rfl rfl, zut10 (j := 171) rfl rfl, zut10 (j := 172) rfl rfl, ⟨by decide +kernel, by decide +kernel⟩, by decide +kernel, by decide, by decide, TX12, 90, rfl⟩
abbrev mX12_classOf : zM := (yX12_classOf, cX12_classOf, 2, (some .int))
theorem vX12_classOf : zMv mX12_classOf 12 1 := ⟨zut10 (j := 177) rfl rfl, zut1 (j := 14) rfl rfl, zut10 (j := 175) rfl rfl, zut10 (j := 176) rfl rfl, ⟨by decide +kernel, by decide +kernel⟩, by decide +kernel, by decide, by decide, TX12, 90, rfl⟩
abbrev mX12_width : zM := (yX12_width, cX12_width, 3, (some .int))
theorem vX12_width : zMv mX12_width 12 2 := ⟨zut10 (j := 197) rfl rfl, zut1 (j := 14) rfl rfl, zut10 (j := 196) rfl rfl, zus9 (j := 15) rfl, ⟨by decide +kernel, by decide +kernel⟩, by decide +kernel, by decide, by decide, TX12, 90, rfl⟩
abbrev mX12_counts : zM := (yX12_counts, cX12_counts, 4, none)
theorem vX12_counts : zMv mX12_counts 12 1 := ⟨zut10 (j := 185) rfl rfl, zut1 (j := 14) rfl rfl, zut10 (j := 184) rfl rfl, zus9 (j := 12) rfl, ⟨by decide +kernel, by decide +kernel⟩, by decide +kernel, by decide, by decide, TX12, 90, rfl⟩
abbrev mX12_waysFrom : zM := (yX12_waysFrom, cX12_waysFrom, 7, (some .long))
theorem vX12_waysFrom : zMv mX12_waysFrom 12 3 := ⟨zut10 (j := 189) rfl rfl, zut1 (j := 14) rfl rfl, zut10 (j := 188) rfl rfl, zus9 (j := 13) rfl, ⟨by decide +kernel, by decide +kernel⟩, by decide +kernel, by decide, by decide, TX12, 90, rfl⟩
abbrev mX12_waysBy : zM := (yX12_waysBy, cX12_waysBy, 5, (some .long))
theorem vX12_waysBy : zMv mX12_waysBy 12 4 := ⟨zut10 (j := 193) rfl rfl, zut1 (j := 14) rfl rfl, zut10 (j := 192) rfl rfl, zus9 (j := 14) rfl, ⟨by decide +kernel, by decide +kernel⟩, by decide +kernel, by decide, by decide, TX12, 90, rfl⟩
abbrev mX12_place : zM := (yX12_place, cX12_place, 9, (some .long))
theorem vX12_place : zMv mX12_place 12 1 := ⟨zut10 (j := 181) rfl rfl, zut1 (j := 14) rfl rfl, zut10 (j := 179) rfl rfl, zut10 (j := 180) rfl rfl, ⟨by decide +kernel, by decide +kernel⟩, by decide +kernel, by decide, by decide, TX12, 90, rfl⟩
abbrev mX12_count : zM := (yX12_count, cX12_count, 3, (some .long))
theorem vX12_count : zMv mX12_count 12 2 := ⟨zut10 (j := 201) rfl rfl, zut1 (j := 14) rfl rfl, zut10 (j := 199) rfl rfl, zut10 (j := 200) rfl rfl, ⟨by decide +kernel, by decide +kernel⟩, by decide +kernel, by decide, by decide, TX12, 90, rfl⟩
abbrev mX12_at : zM := (yX12_at, cX12_at, 14, (some .int))
theorem vX12_at : zMv mX12_at 12 4 := ⟨zut10 (j := 205) rfl rfl, zut1 (j := 14) rfl rfl, zut10 (j := 203) rfl rfl, zut10 (j := 204) rfl rfl, ⟨by decide +kernel, by decide +kernel⟩, by decide +kernel, by decide, by decide, TX12, 90, rfl⟩
abbrev mX12_longest : zM := (yX12_longest, cX12_longest, 11, (some .int))
theorem vX12_longest : zMv mX12_longest 12 1 := ⟨zut10 (j := 209) rfl rfl, zut1 (j := 14) rfl rfl, zut10 (j := 207) rfl rfl, zut10 (j := 208) rfl rfl, ⟨by decide +kernel, by decide +kernel⟩, by decide +kernel, by decide, by decide, TX12, 90, rfl⟩
abbrev mX12_cutsBoth : zM := (yX12_cutsBoth, cX12_cutsBoth, 9, none)
theorem vX12_cutsBoth : zMv mX12_cutsBoth 12 2 := ⟨zut10 (j := 225) rfl rfl, zut1 (j := 14) rfl rfl, zut10 (j := 224) rfl rfl, zus10 (j := 2) rfl, ⟨by decide +kernel, by decide +kernel⟩, by decide +kernel, by decide, by decide, TX12, 90, rfl⟩
abbrev mX12_pairsBegin : zM := (yX12_pairsBegin, cX12_pairsBegin, 2, none)
theorem vX12_pairsBegin : zMv mX12_pairsBegin 12 0 := ⟨zut10 (j := 229) rfl rfl, zut1 (j := 14) rfl rfl, zut10 (j := 228) rfl rfl, zus10 (j := 3) rfl, ⟨by decide +kernel, by decide +kernel⟩, by decide +kernel, by decide, by decide, TX12, 90, rfl⟩
abbrev mX12_pairOf : zM := (yX12_pairOf, cX12_pairOf, 6, (some .int))
theorem vX12_pairOf : zMv mX12_pairOf 12 4 := ⟨zut10 (j := 233) rfl rfl, zut1 (j := 14) rfl rfl, zut10 (j := 232) rfl rfl, zus10 (j := 4) rfl, ⟨by decide +kernel, by decide +kernel⟩, by decide +kernel, by decide, by decide, TX12, 90, rfl⟩
abbrev mX12_finds : zM := (yX12_finds, cX12_finds, 8, (some .int))
theorem vX12_finds : zMv mX12_finds 12 3 := ⟨zut10 (j := 221) rfl rfl, zut1 (j := 14) rfl rfl, zut10 (j := 220) rfl rfl, zus10 (j := 1) rfl, ⟨by decide +kernel, by decide +kernel⟩, by decide +kernel, by decide, by decide, TX12, 90, rfl⟩
abbrev mX12_pairLength : zM := (yX12_pairLength, cX12_pairLength, 4, (some .int))
theorem vX12_pairLength : zMv mX12_pairLength 12 1 := ⟨zut10 (j := 237) rfl rfl, zut1 (j := 14) rfl rfl, zut10 (j := 236) rfl rfl, zus10 (j := 5) rfl, ⟨by decide +kernel, by decide +kernel⟩, by decide +kernel, by decide, by decide, TX12, 90, rfl⟩
abbrev mX12_refusesTwo : zM := (yX12_refusesTwo, cX12_refusesTwo, 4, (some .int))
theorem vX12_refusesTwo : zMv mX12_refusesTwo 12 3 := ⟨zut10 (j := 217) rfl rfl, zut1 (j := 14) rfl rfl, zut10 (j := 216) rfl rfl, zus10 (j := 0) rfl, ⟨by decide +kernel, by decide +kernel⟩, by decide +kernel, by decide, by decide, TX12, 90, rfl⟩
abbrev mX12_found : zM := (yX12_found, cX12_found, 6, (some .int))
theorem vX12_found : zMv mX12_found 12 3 := ⟨zut10 (j := 213) rfl rfl, zut1 (j := 14) rfl rfl, zut10 (j := 211) rfl rfl, zut10 (j := 212) rfl rfl, ⟨by decide +kernel, by decide +kernel⟩, by decide +kernel, by decide, by decide, TX12, 90, rfl⟩
abbrev mX12_foundLetter : zM := (yX12_foundLetter, cX12_foundLetter, 9, (some .int))
theorem vX12_foundLetter : zMv mX12_foundLetter 12 4 := ⟨zut11 (j := 1) rfl rfl, zut1 (j := 14) rfl rfl, zut10 (j := 239) rfl rfl, zut11 (j := 0) rfl rfl, ⟨by decide +kernel, by decide +kernel⟩, by decide +kernel, by decide, by decide, TX12, 90, rfl⟩
abbrev mX12_same : zM := (yX12_same, cX12_same, 3, (some .int))
theorem vX12_same : zMv mX12_same 12 2 := ⟨zut11 (j := 5) rfl rfl, zut1 (j := 14) rfl rfl, zut11 (j := 3) rfl rfl, zut11 (j := 4) rfl rfl, ⟨by decide +kernel, by decide +kernel⟩, by decide +kernel, by decide, by decide, TX12, 90, rfl⟩
abbrev mX12_within : zM := (yX12_within, cX12_within, 3, (some .int))
theorem vX12_within : zMv mX12_within 12 2 := ⟨zut11 (j := 9) rfl rfl, zut1 (j := 14) rfl rfl, zut11 (j := 7) rfl rfl, zut11 (j := 8) rfl rfl, ⟨by decide +kernel, by decide +kernel⟩, by decide +kernel, by decide, by decide, TX12, 90, rfl⟩
abbrev mX12_makes : zM := (yX12_makes, cX12_makes, 1, (some .int))
theorem vX12_makes : zMv mX12_makes 12 0 := ⟨zut11 (j := 29) rfl rfl, zut1 (j := 14) rfl rfl, zut11 (j := 28) rfl rfl, zus10 (j := 9) rfl, ⟨by decide +kernel, by decide +kernel⟩, by decide +kernel, by decide, by decide, TX12, 90, rfl⟩
abbrev mX12_mostMachines : zM := (yX12_mostMachines, cX12_mostMachines, 1, (some .int))
theorem vX12_mostMachines : zMv mX12_mostMachines 12 0 := ⟨zut11 (j := 21) rfl rfl, zut1 (j := 14) rfl rfl, zut11 (j := 20) rfl rfl, zus10 (j := 7) rfl, ⟨by decide +kernel, by decide +kernel⟩, by decide +kernel, by decide, by decide, TX12, 90, rfl⟩
abbrev mX12_refusesOne : zM := (yX12_refusesOne, cX12_refusesOne, 2, (some .int))
theorem vX12_refusesOne : zMv mX12_refusesOne 12 1 := ⟨zut11 (j := 17) rfl rfl, zut1 (j := 14) rfl rfl, zut11 (j := 16) rfl rfl, zus10 (j := 6) rfl, ⟨by decide +kernel, by decide +kernel⟩, by decide +kernel, by decide, by decide, TX12, 90, rfl⟩
abbrev mX12_buildsTable : zM := (yX12_buildsTable, cX12_buildsTable, 12, none)
theorem vX12_buildsTable : zMv mX12_buildsTable 12 6 := ⟨zut11 (j := 25) rfl rfl, zut1 (j := 14) rfl rfl, zut11 (j := 24) rfl rfl, zus10 (j := 8) rfl, ⟨by decide +kernel, by decide +kernel⟩, by decide +kernel, by decide, by decide, TX12, 90, rfl⟩
abbrev mX12_sure : zM := (yX12_sure, cX12_sure, 7, (some .int))
theorem vX12_sure : zMv mX12_sure 12 1 := ⟨zut11 (j := 13) rfl rfl, zut1 (j := 14) rfl rfl, zut11 (j := 11) rfl rfl, zut11 (j := 12) rfl rfl, ⟨by decide +kernel, by decide +kernel⟩, by decide +kernel, by decide, by decide, TX12, 90, rfl⟩
abbrev mX12_makesClasses : zM := (yX12_makesClasses, cX12_makesClasses, 8, (some .int))
theorem vX12_makesClasses : zMv mX12_makesClasses 12 2 := ⟨zut11 (j := 37) rfl rfl, zut1 (j := 14) rfl rfl, zut11 (j := 36) rfl rfl, zus10 (j := 10) rfl, ⟨by decide +kernel, by decide +kernel⟩, by decide +kernel, by decide, by decide, TX12, 90, rfl⟩
abbrev mX12_least : zM := (yX12_least, cX12_least, 3, (some .int))
theorem vX12_least : zMv mX12_least 12 1 := ⟨zut11 (j := 33) rfl rfl, zut1 (j := 14) rfl rfl, zut11 (j := 31) rfl rfl, zut11 (j := 32) rfl rfl, ⟨by decide +kernel, by decide +kernel⟩, by decide +kernel, by decide, by decide, TX12, 90, rfl⟩
abbrev mX12_other : zM := (yX12_other, cX12_other, 3, (some .int))
theorem vX12_other : zMv mX12_other 12 1 := ⟨zut11 (j := 41) rfl rfl, zut1 (j := 14) rfl rfl, zut11 (j := 39) rfl rfl, zut11 (j := 40) rfl rfl, ⟨by decide +kernel, by decide +kernel⟩, by decide +kernel, by decide, by decide, TX12, 90, rfl⟩
abbrev mX12_join : zM := (yX12_join, cX12_join, 11, (some .int))
theorem vX12_join : zMv mX12_join 12 3 := ⟨zut11 (j := 45) rfl rfl, zut1 (j := 14) rfl rfl, zut11 (j := 43) rfl rfl, zut11 (j := 44) rfl rfl, ⟨by decide +kernel, by decide +kernel⟩, by decide +kernel, by decide, by decide, TX12, 90, rfl⟩
abbrev mX12_buildsEdges : zM := (yX12_buildsEdges, cX12_buildsEdges, 5, none)
theorem vX12_buildsEdges : zMv mX12_buildsEdges 12 3 := ⟨zut11 (j := 53) rfl rfl, zut1 (j := 14) rfl rfl, zut11 (j := 52) rfl rfl, zus10 (j := 11) rfl, ⟨by decide +kernel, by decide +kernel⟩, by decide +kernel, by decide, by decide, TX12, 90, rfl⟩
abbrev mX12_buildsLetters : zM := (yX12_buildsLetters, cX12_buildsLetters, 4, none)
theorem vX12_buildsLetters : zMv mX12_buildsLetters 12 2 := ⟨zut11 (j := 57) rfl rfl, zut1 (j := 14) rfl rfl, zut11 (j := 56) rfl rfl, zus10 (j := 12) rfl, ⟨by decide +kernel, by decide +kernel⟩, by decide +kernel, by decide, by decide, TX12, 90, rfl⟩
abbrev mX12_buildsFrees : zM := (yX12_buildsFrees, cX12_buildsFrees, 5, none)
theorem vX12_buildsFrees : zMv mX12_buildsFrees 12 3 := ⟨zut11 (j := 61) rfl rfl, zut1 (j := 14) rfl rfl, zut11 (j := 60) rfl rfl, zus10 (j := 13) rfl, ⟨by decide +kernel, by decide +kernel⟩, by decide +kernel, by decide, by decide, TX12, 90, rfl⟩
abbrev mX12_behind : zM := (yX12_behind, cX12_behind, 6, (some .int))
theorem vX12_behind : zMv mX12_behind 12 2 := ⟨zut11 (j := 49) rfl rfl, zut1 (j := 14) rfl rfl, zut11 (j := 47) rfl rfl, zut11 (j := 48) rfl rfl, ⟨by decide +kernel, by decide +kernel⟩, by decide +kernel, by decide, by decide, TX12, 90, rfl⟩
abbrev mX12_again : zM := (yX12_again, cX12_again, 4, (some .int))
theorem vX12_again : zMv mX12_again 12 1 := ⟨zut11 (j := 65) rfl rfl, zut1 (j := 14) rfl rfl, zut11 (j := 63) rfl rfl, zut11 (j := 64) rfl rfl, ⟨by decide +kernel, by decide +kernel⟩, by decide +kernel, by decide, by decide, TX12, 90, rfl⟩
abbrev mX12_backwards : zM := (yX12_backwards, cX12_backwards, 4, (some .int))
theorem vX12_backwards : zMv mX12_backwards 12 1 := ⟨zut11 (j := 69) rfl rfl, zut1 (j := 14) rfl rfl, zut11 (j := 67) rfl rfl, zut11 (j := 68) rfl rfl, ⟨by decide +kernel, by decide +kernel⟩, by decide +kernel, by decide, by decide, TX12, 90, rfl⟩
abbrev mX12_only : zM := (yX12_only, cX12_only, 5, (some .int))
theorem vX12_only : zMv mX12_only 12 2 := ⟨zut11 (j := 74) rfl rfl, zut1 (j := 14) rfl rfl, zut11 (j := 72) rfl rfl, zut11 (j := 73) rfl rfl, ⟨by decide +kernel, by decide +kernel⟩, by decide +kernel, by decide, by decide, TX12, 90, rfl⟩
abbrev mX12_buildsOnly : zM := (yX12_buildsOnly, cX12_buildsOnly, 7, none)
theorem vX12_buildsOnly : zMv mX12_buildsOnly 12 3 := ⟨zut11 (j := 78) rfl rfl, zut1 (j := 14) rfl rfl, zut11 (j := 77) rfl rfl, zus10 (j := 14) rfl, ⟨by decide +kernel, by decide +kernel⟩, by decide +kernel, by decide, by decide, TX12, 90, rfl⟩
abbrev mX12_makesLike : zM := (yX12_makesLike, cX12_makesLike, 2, (some .int))
theorem vX12_makesLike : zMv mX12_makesLike 12 1 := ⟨zut11 (j := 86) rfl rfl, zut1 (j := 14) rfl rfl, zut11 (j := 85) rfl rfl, zus11 (j := 0) rfl, ⟨by decide +kernel, by decide +kernel⟩, by decide +kernel, by decide, by decide, TX12, 90, rfl⟩
abbrev mX12_moved : zM := (yX12_moved, cX12_moved, 5, (some .int))
theorem vX12_moved : zMv mX12_moved 12 2 := ⟨zut11 (j := 90) rfl rfl, zut1 (j := 14) rfl rfl, zut11 (j := 88) rfl rfl, zut11 (j := 89) rfl rfl, ⟨by decide +kernel, by decide +kernel⟩, by decide +kernel, by decide, by decide, TX12, 90, rfl⟩
abbrev mX12_buildsMoved : zM := (yX12_buildsMoved, cX12_buildsMoved, 5, none)
theorem vX12_buildsMoved : zMv mX12_buildsMoved 12 2 := ⟨zut11 (j := 95) rfl rfl, zut1 (j := 14) rfl rfl, zut11 (j := 94) rfl rfl, zus11 (j := 1) rfl, ⟨by decide +kernel, by decide +kernel⟩, by decide +kernel, by decide, by decide, TX12, 90, rfl⟩
abbrev mX12_past : zM := (yX12_past, cX12_past, 6, (some .int))
theorem vX12_past : zMv mX12_past 12 2 := ⟨zut11 (j := 99) rfl rfl, zut1 (j := 14) rfl rfl, zut11 (j := 97) rfl rfl, zut11 (j := 98) rfl rfl, ⟨by decide +kernel, by decide +kernel⟩, by decide +kernel, by decide, by decide, TX12, 90, rfl⟩
abbrev mX12_drop : zM := (yX12_drop, cX12_drop, 1, (some .int))
theorem vX12_drop : zMv mX12_drop 12 0 := ⟨zut11 (j := 103) rfl rfl, zut1 (j := 14) rfl rfl, zut11 (j := 101) rfl rfl, zut11 (j := 102) rfl rfl, ⟨by decide +kernel, by decide +kernel⟩, by decide +kernel, by decide, by decide, TX12, 90, rfl⟩
abbrev mX12_twin : zM := (yX12_twin, cX12_twin, 3, (some .int))
theorem vX12_twin : zMv mX12_twin 12 1 := ⟨zut11 (j := 107) rfl rfl, zut1 (j := 14) rfl rfl, zut11 (j := 105) rfl rfl, zut11 (j := 106) rfl rfl, ⟨by decide +kernel, by decide +kernel⟩, by decide +kernel, by decide, by decide, TX12, 90, rfl⟩
abbrev mX12_total : zM := (yX12_total, cX12_total, 2, (some .int))
theorem vX12_total : zMv mX12_total 12 1 := ⟨zut11 (j := 111) rfl rfl, zut1 (j := 14) rfl rfl, zut11 (j := 109) rfl rfl, zut11 (j := 110) rfl rfl, ⟨by decide +kernel, by decide +kernel⟩, by decide +kernel, by decide, by decide, TX12, 90, rfl⟩
abbrev mX12_letter : zM := (yX12_letter, cX12_letter, 2, (some .int))
theorem vX12_letter : zMv mX12_letter 12 1 := ⟨zut11 (j := 115) rfl rfl, zut1 (j := 14) rfl rfl, zut11 (j := 113) rfl rfl, zut11 (j := 114) rfl rfl, ⟨by decide +kernel, by decide +kernel⟩, by decide +kernel, by decide, by decide, TX12, 90, rfl⟩
abbrev mX12_trouble : zM := (yX12_trouble, cX12_trouble, 1, (some .int))
theorem vX12_trouble : zMv mX12_trouble 12 0 := ⟨zut11 (j := 119) rfl rfl, zut1 (j := 14) rfl rfl, zut11 (j := 117) rfl rfl, zut11 (j := 118) rfl rfl, ⟨by decide +kernel, by decide +kernel⟩, by decide +kernel, by decide, by decide, TX12, 90, rfl⟩
abbrev mJ11_isValidCodePoint_9a6ad : zM := (yJ11_isValidCodePoint_9a6ad, cJ11_isValidCodePoint_9a6ad, 2, (some .boolean))
theorem sJ11_isValidCodePoint_9a6ad : zMs mJ11_isValidCodePoint_9a6ad 1 := ⟨zut3 (j := 209) rfl rfl, zut1 (j := 19) rfl rfl, zut3 (j := 208) rfl rfl, ⟨by decide +kernel, by decide +kernel⟩, by decide +kernel, by decide⟩
abbrev mJ11_highSurrogate_5068e : zM := (yJ11_highSurrogate_5068e, cJ11_highSurrogate_5068e, 1, (some .char))
theorem sJ11_highSurrogate_5068e : zMs mJ11_highSurrogate_5068e 1 := ⟨zut3 (j := 212) rfl rfl, zut1 (j := 19) rfl rfl, zut3 (j := 211) rfl rfl, ⟨by decide +kernel, by decide +kernel⟩, by decide +kernel, by decide⟩
abbrev mJ11_lowSurrogate_5068e : zM := (yJ11_lowSurrogate_5068e, cJ11_lowSurrogate_5068e, 1, (some .char))
theorem sJ11_lowSurrogate_5068e : zMs mJ11_lowSurrogate_5068e 1 := ⟨zut3 (j := 216) rfl rfl, zut1 (j := 19) rfl rfl, zut3 (j := 215) rfl rfl, ⟨by decide +kernel, by decide +kernel⟩, by decide +kernel, by decide⟩
abbrev mJ13_bitCount_95d88 : zM := (yJ13_bitCount_95d88, cJ13_bitCount_95d88, 2, (some .int))
theorem sJ13_bitCount_95d88 : zMs mJ13_bitCount_95d88 1 := ⟨zut5 (j := 51) rfl rfl, zut1 (j := 22) rfl rfl, zut5 (j := 50) rfl rfl, ⟨by decide +kernel, by decide +kernel⟩, by decide +kernel, by decide⟩
abbrev mJ9_max_7cf53 : zM := (yJ9_max_7cf53, cJ9_max_7cf53, 2, (some .int))
theorem sJ9_max_7cf53 : zMs mJ9_max_7cf53 2 := ⟨zut1 (j := 172) rfl rfl, zut1 (j := 7) rfl rfl, zut1 (j := 171) rfl rfl, ⟨by decide +kernel, by decide +kernel⟩, by decide +kernel, by decide⟩
abbrev mJ9_min_7cf53 : zM := (yJ9_min_7cf53, cJ9_min_7cf53, 2, (some .int))
theorem sJ9_min_7cf53 : zMs mJ9_min_7cf53 2 := ⟨zut3 (j := 179) rfl rfl, zut1 (j := 7) rfl rfl, zut3 (j := 178) rfl rfl, ⟨by decide +kernel, by decide +kernel⟩, by decide +kernel, by decide⟩
abbrev mJ0_length_8abf5 : zM := (yJ0_length_8abf5, cJ0_length_8abf5, 1, (some .int))
abbrev mJ0_charAt_5068e : zM := (yJ0_charAt_5068e, cJ0_charAt_5068e, 2, (some .char))
abbrev mJ0_indexOf_0f7a4 : zM := (yJ0_indexOf_0f7a4, cJ0_indexOf_0f7a4, 2, (some .int))
abbrev mJ0_indexOf_7cf53 : zM := (yJ0_indexOf_7cf53, cJ0_indexOf_7cf53, 3, (some .int))
abbrev mJ0_coder_7d493 : zM := (yJ0_coder_7d493, cJ0_coder_7d493, 1, (some .byte))
abbrev mJ0_isLatin1_aae02 : zM := (yJ0_isLatin1_aae02, cJ0_isLatin1_aae02, 1, (some .boolean))
abbrev mJ0_checkIndex_df160 : zM := (yJ0_checkIndex_df160, cJ0_checkIndex_df160, 2, none)
theorem sJ0_checkIndex_df160 : zMs mJ0_checkIndex_df160 2 := ⟨zut3 (j := 125) rfl rfl, zut1 (j := 15) rfl rfl, zut3 (j := 124) rfl rfl, ⟨by decide +kernel, by decide +kernel⟩, by decide +kernel, by decide⟩
abbrev mJ0_checkBoundsBeginEnd_23922 : zM := (yJ0_checkBoundsBeginEnd_23922, cJ0_checkBoundsBeginEnd_23922, 3, none)
theorem sJ0_checkBoundsBeginEnd_23922 : zMs mJ0_checkBoundsBeginEnd_23922 3 := ⟨zut3 (j := 197) rfl rfl, zut1 (j := 15) rfl rfl, zut3 (j := 196) rfl rfl, ⟨by decide +kernel, by decide +kernel⟩, by decide +kernel, by decide⟩
abbrev mJ1_charAt_3b067 : zM := (yJ1_charAt_3b067, cJ1_charAt_3b067, 2, (some .char))
theorem sJ1_charAt_3b067 : zMs mJ1_charAt_3b067 2 := ⟨zut3 (j := 122) rfl rfl, zut1 (j := 16) rfl rfl, zut3 (j := 121) rfl rfl, ⟨by decide +kernel, by decide +kernel⟩, by decide +kernel, by decide⟩
abbrev mJ1_canEncode_9a6ad : zM := (yJ1_canEncode_9a6ad, cJ1_canEncode_9a6ad, 1, (some .boolean))
theorem sJ1_canEncode_9a6ad : zMs mJ1_canEncode_9a6ad 1 := ⟨zut3 (j := 175) rfl rfl, zut1 (j := 16) rfl rfl, zut3 (j := 174) rfl rfl, ⟨by decide +kernel, by decide +kernel⟩, by decide +kernel, by decide⟩
abbrev mJ1_indexOf_4cfef : zM := (yJ1_indexOf_4cfef, cJ1_indexOf_4cfef, 4, (some .int))
theorem sJ1_indexOf_4cfef : zMs mJ1_indexOf_4cfef 4 := ⟨zut3 (j := 172) rfl rfl, zut1 (j := 16) rfl rfl, zut3 (j := 171) rfl rfl, ⟨by decide +kernel, by decide +kernel⟩, by decide +kernel, by decide⟩
abbrev mJ1_indexOfChar_4cfef : zM := (yJ1_indexOfChar_4cfef, cJ1_indexOfChar_4cfef, 6, (some .int))
theorem sJ1_indexOfChar_4cfef : zMs mJ1_indexOfChar_4cfef 4 := ⟨zut3 (j := 182) rfl rfl, zut1 (j := 16) rfl rfl, zut3 (j := 181) rfl rfl, ⟨by decide +kernel, by decide +kernel⟩, by decide +kernel, by decide⟩
abbrev mJ2_getChar_3b067 : zM := (yJ2_getChar_3b067, cJ2_getChar_3b067, 2, (some .char))
theorem sJ2_getChar_3b067 : zMs mJ2_getChar_3b067 2 := ⟨zut3 (j := 143) rfl rfl, zut1 (j := 18) rfl rfl, zut3 (j := 142) rfl rfl, ⟨by decide +kernel, by decide +kernel⟩, by decide +kernel, by decide⟩
abbrev mJ2_length_9d52b : zM := (yJ2_length_9d52b, cJ2_length_9d52b, 1, (some .int))
theorem sJ2_length_9d52b : zMs mJ2_length_9d52b 1 := ⟨zut3 (j := 139) rfl rfl, zut1 (j := 18) rfl rfl, zut3 (j := 138) rfl rfl, ⟨by decide +kernel, by decide +kernel⟩, by decide +kernel, by decide⟩
abbrev mJ2_indexOf_4cfef : zM := (yJ2_indexOf_4cfef, cJ2_indexOf_4cfef, 4, (some .int))
theorem sJ2_indexOf_4cfef : zMs mJ2_indexOf_4cfef 4 := ⟨zut3 (j := 185) rfl rfl, zut1 (j := 18) rfl rfl, zut3 (j := 184) rfl rfl, ⟨by decide +kernel, by decide +kernel⟩, by decide +kernel, by decide⟩
abbrev mJ2_indexOfChar_4cfef : zM := (yJ2_indexOfChar_4cfef, cJ2_indexOfChar_4cfef, 4, (some .int))
theorem sJ2_indexOfChar_4cfef : zMs mJ2_indexOfChar_4cfef 4 := ⟨zut3 (j := 191) rfl rfl, zut1 (j := 18) rfl rfl, zut3 (j := 190) rfl rfl, ⟨by decide +kernel, by decide +kernel⟩, by decide +kernel, by decide⟩
abbrev mJ2_indexOfCharUnsafe_4cfef : zM := (yJ2_indexOfCharUnsafe_4cfef, cJ2_indexOfCharUnsafe_4cfef, 5, (some .int))
theorem sJ2_indexOfCharUnsafe_4cfef : zMs mJ2_indexOfCharUnsafe_4cfef 4 := ⟨zut3 (j := 203) rfl rfl, zut1 (j := 18) rfl rfl, zut3 (j := 202) rfl rfl, ⟨by decide +kernel, by decide +kernel⟩, by decide +kernel, by decide⟩
abbrev mJ2_indexOfSupplementary_4cfef : zM := (yJ2_indexOfSupplementary_4cfef, cJ2_indexOfSupplementary_4cfef, 7, (some .int))
theorem sJ2_indexOfSupplementary_4cfef : zMs mJ2_indexOfSupplementary_4cfef 4 := ⟨zut3 (j := 206) rfl rfl, zut1 (j := 18) rfl rfl, zut3 (j := 205) rfl rfl, ⟨by decide +kernel, by decide +kernel⟩, by decide +kernel, by decide⟩
abbrev mJ2_charAt_3b067 : zM := (yJ2_charAt_3b067, cJ2_charAt_3b067, 2, (some .char))
theorem sJ2_charAt_3b067 : zMs mJ2_charAt_3b067 2 := ⟨zut3 (j := 133) rfl rfl, zut1 (j := 18) rfl rfl, zut3 (j := 132) rfl rfl, ⟨by decide +kernel, by decide +kernel⟩, by decide +kernel, by decide⟩
abbrev mJ2_checkIndex_2214a : zM := (yJ2_checkIndex_2214a, cJ2_checkIndex_2214a, 2, none)
theorem sJ2_checkIndex_2214a : zMs mJ2_checkIndex_2214a 2 := ⟨zut3 (j := 136) rfl rfl, zut1 (j := 18) rfl rfl, zut3 (j := 135) rfl rfl, ⟨by decide +kernel, by decide +kernel⟩, by decide +kernel, by decide⟩
abbrev mJ2_checkBoundsBeginEnd_d044e : zM := (yJ2_checkBoundsBeginEnd_d044e, cJ2_checkBoundsBeginEnd_d044e, 3, none)
theorem sJ2_checkBoundsBeginEnd_d044e : zMs mJ2_checkBoundsBeginEnd_d044e 3 := ⟨zut3 (j := 194) rfl rfl, zut1 (j := 18) rfl rfl, zut3 (j := 193) rfl rfl, ⟨by decide +kernel, by decide +kernel⟩, by decide +kernel, by decide⟩
abbrev mJ7_fill_d0a16 : zM := (yJ7_fill_d0a16, cJ7_fill_d0a16, 5, none)
theorem sJ7_fill_d0a16 : zMs mJ7_fill_d0a16 2 := ⟨zut4 (j := 24) rfl rfl, zut1 (j := 21) rfl rfl, zut4 (j := 23) rfl rfl, ⟨by decide +kernel, by decide +kernel⟩, by decide +kernel, by decide⟩
abbrev mJ7_fill_53178 : zM := (yJ7_fill_53178, cJ7_fill_53178, 4, none)
theorem sJ7_fill_53178 : zMs mJ7_fill_53178 2 := ⟨zut4 (j := 64) rfl rfl, zut1 (j := 21) rfl rfl, zut4 (j := 63) rfl rfl, ⟨by decide +kernel, by decide +kernel⟩, by decide +kernel, by decide⟩
abbrev mJ3_checkIndex_8e157 : zM := (yJ3_checkIndex_8e157, cJ3_checkIndex_8e157, 3, (some .int))
theorem sJ3_checkIndex_8e157 : zMs mJ3_checkIndex_8e157 3 := ⟨zut3 (j := 130) rfl rfl, zut1 (j := 17) rfl rfl, zut3 (j := 129) rfl rfl, ⟨by decide +kernel, by decide +kernel⟩, by decide +kernel, by decide⟩
abbrev mJ3_checkFromToIndex_8c36e : zM := (yJ3_checkFromToIndex_8c36e, cJ3_checkFromToIndex_8c36e, 4, (some .int))
theorem sJ3_checkFromToIndex_8c36e : zMs mJ3_checkFromToIndex_8c36e 4 := ⟨zut3 (j := 200) rfl rfl, zut1 (j := 17) rfl rfl, zut3 (j := 199) rfl rfl, ⟨by decide +kernel, by decide +kernel⟩, by decide +kernel, by decide⟩
theorem kX3_9 : Cond.methodLink RX3 9 yJ9_max_7cf53 ∈ zUU := zut1 (j := 170) rfl rfl
theorem kL_19 : Cond.methodLink RL 19 yX11_feed ∈ zUU := zut3 (j := 60) rfl rfl
theorem kX11_81 : Cond.methodLink RX11 81 yX11_putFour ∈ zUU := zut3 (j := 64) rfl rfl
theorem kL_24 : Cond.methodLink RL 24 yX11_bench ∈ zUU := zut3 (j := 68) rfl rfl
theorem kX11_84 : Cond.methodLink RX11 84 yX11_refused ∈ zUU := zut3 (j := 72) rfl rfl
theorem kX11_88 : Cond.methodLink RX11 88 yX8_readBench ∈ zUU := zut3 (j := 76) rfl rfl
theorem kX8_54 : Cond.methodLink RX8 54 yX10_split ∈ zUU := zut3 (j := 80) rfl rfl
theorem kX10_32 : Cond.methodLink RX10 32 yX10_addToken ∈ zUU := zut3 (j := 84) rfl rfl
theorem kX10_56 : Cond.methodLink RX10 56 yX10_runOf ∈ zUU := zut3 (j := 88) rfl rfl
theorem kX10_60 : Cond.methodLink RX10 60 yX10_valueOf ∈ zUU := zut3 (j := 91) rfl rfl
theorem kX10_64 : Cond.methodLink RX10 64 yX10_kindOf ∈ zUU := zut3 (j := 94) rfl rfl
theorem kX10_78 : Cond.methodLink RX10 78 yX10_codeOf ∈ zUU := zut3 (j := 98) rfl rfl
theorem kX10_92 : Cond.methodLink RX10 92 yJ0_length_8abf5 ∈ zUU := zut3 (j := 101) rfl rfl
theorem kJ0_335 : Cond.methodLink RJ0 335 yJ0_coder_7d493 ∈ zUU := zut3 (j := 105) rfl rfl
theorem kX10_98 : Cond.methodLink RX10 98 yJ0_charAt_5068e ∈ zUU := zut3 (j := 112) rfl rfl
theorem kJ0_492 : Cond.methodLink RJ0 492 yJ0_isLatin1_aae02 ∈ zUU := zut3 (j := 116) rfl rfl
theorem kJ0_495 : Cond.methodLink RJ0 495 yJ1_charAt_3b067 ∈ zUU := zut3 (j := 120) rfl rfl
theorem kJ1_9 : Cond.methodLink RJ1 9 yJ0_checkIndex_df160 ∈ zUU := zut3 (j := 123) rfl rfl
theorem kJ0_1059 : Cond.methodLink RJ0 1059 yJ3_checkIndex_8e157 ∈ zUU := zut3 (j := 128) rfl rfl
theorem kJ0_498 : Cond.methodLink RJ0 498 yJ2_charAt_3b067 ∈ zUU := zut3 (j := 131) rfl rfl
theorem kJ2_67 : Cond.methodLink RJ2 67 yJ2_checkIndex_2214a ∈ zUU := zut3 (j := 134) rfl rfl
theorem kJ2_48 : Cond.methodLink RJ2 48 yJ2_length_9d52b ∈ zUU := zut3 (j := 137) rfl rfl
theorem kJ2_414 : Cond.methodLink RJ2 414 yJ0_checkIndex_df160 ∈ zUU := zut3 (j := 140) rfl rfl
theorem kJ2_71 : Cond.methodLink RJ2 71 yJ2_getChar_3b067 ∈ zUU := zut3 (j := 141) rfl rfl
theorem kX10_36 : Cond.methodLink RX10 36 yX10_add ∈ zUU := zut3 (j := 156) rfl rfl
theorem kX10_70 : Cond.methodLink RX10 70 yJ0_indexOf_0f7a4 ∈ zUU := zut3 (j := 161) rfl rfl
theorem kJ0_633 : Cond.methodLink RJ0 633 yJ0_indexOf_7cf53 ∈ zUU := zut3 (j := 165) rfl rfl
theorem kJ0_505 : Cond.methodLink RJ0 505 yJ0_length_8abf5 ∈ zUU := zut3 (j := 169) rfl rfl
theorem kJ0_637 : Cond.methodLink RJ0 637 yJ1_indexOf_4cfef ∈ zUU := zut3 (j := 170) rfl rfl
theorem kJ1_88 : Cond.methodLink RJ1 88 yJ1_canEncode_9a6ad ∈ zUU := zut3 (j := 173) rfl rfl
theorem kJ1_92 : Cond.methodLink RJ1 92 yJ9_max_7cf53 ∈ zUU := zut3 (j := 176) rfl rfl
theorem kJ1_38 : Cond.methodLink RJ1 38 yJ9_min_7cf53 ∈ zUU := zut3 (j := 177) rfl rfl
theorem kJ1_95 : Cond.methodLink RJ1 95 yJ1_indexOfChar_4cfef ∈ zUU := zut3 (j := 180) rfl rfl
theorem kJ0_640 : Cond.methodLink RJ0 640 yJ2_indexOf_4cfef ∈ zUU := zut3 (j := 183) rfl rfl
theorem kJ2_224 : Cond.methodLink RJ2 224 yJ9_max_7cf53 ∈ zUU := zut3 (j := 186) rfl rfl
theorem kJ2_183 : Cond.methodLink RJ2 183 yJ9_min_7cf53 ∈ zUU := zut3 (j := 187) rfl rfl
theorem kJ2_228 : Cond.methodLink RJ2 228 yJ2_indexOfChar_4cfef ∈ zUU := zut3 (j := 189) rfl rfl
theorem kJ2_96 : Cond.methodLink RJ2 96 yJ2_checkBoundsBeginEnd_d044e ∈ zUU := zut3 (j := 192) rfl rfl
theorem kJ2_241 : Cond.methodLink RJ2 241 yJ0_checkBoundsBeginEnd_23922 ∈ zUU := zut3 (j := 195) rfl rfl
theorem kJ0_1062 : Cond.methodLink RJ0 1062 yJ3_checkFromToIndex_8c36e ∈ zUU := zut3 (j := 198) rfl rfl
theorem kJ2_244 : Cond.methodLink RJ2 244 yJ2_indexOfCharUnsafe_4cfef ∈ zUU := zut3 (j := 201) rfl rfl
theorem kJ2_232 : Cond.methodLink RJ2 232 yJ2_indexOfSupplementary_4cfef ∈ zUU := zut3 (j := 204) rfl rfl
theorem kJ2_164 : Cond.methodLink RJ2 164 yJ11_isValidCodePoint_9a6ad ∈ zUU := zut3 (j := 207) rfl rfl
theorem kJ2_157 : Cond.methodLink RJ2 157 yJ11_highSurrogate_5068e ∈ zUU := zut3 (j := 210) rfl rfl
theorem kJ2_161 : Cond.methodLink RJ2 161 yJ11_lowSurrogate_5068e ∈ zUU := zut3 (j := 214) rfl rfl
theorem kX10_43 : Cond.methodLink RX10 43 yX10_step ∈ zUU := zut3 (j := 218) rfl rfl
theorem kX8_72 : Cond.methodLink RX8 72 yX8_closeMachine ∈ zUU := zut3 (j := 222) rfl rfl
theorem kX8_157 : Cond.methodLink RX8 157 yJ9_min_7cf53 ∈ zUU := zut3 (j := 229) rfl rfl
theorem kX8_162 : Cond.methodLink RX8 162 yX2_cutBy ∈ zUU := zut3 (j := 230) rfl rfl
theorem kX2_64 : Cond.methodLink RX2 64 yX2_cut ∈ zUU := zut3 (j := 234) rfl rfl
theorem kX8_166 : Cond.methodLink RX8 166 yX2_markSet ∈ zUU := zut3 (j := 239) rfl rfl
theorem kX2_80 : Cond.methodLink RX2 80 yX3_holds ∈ zUU := zut4 (j := 3) rfl rfl
theorem kX2_88 : Cond.methodLink RX2 88 yX2_mark ∈ zUU := zut4 (j := 7) rfl rfl
theorem kX8_170 : Cond.methodLink RX8 170 yX4_settle ∈ zUU := zut4 (j := 11) rfl rfl
theorem kX4_72 : Cond.methodLink RX4 72 yX4_takeBlocks ∈ zUU := zut4 (j := 18) rfl rfl
theorem kX4_83 : Cond.methodLink RX4 83 yJ7_fill_d0a16 ∈ zUU := zut4 (j := 22) rfl rfl
theorem kX4_93 : Cond.methodLink RX4 93 yX4_beginsBlock ∈ zUU := zut4 (j := 25) rfl rfl
theorem kX4_98 : Cond.methodLink RX4 98 yX2_isMarked ∈ zUU := zut4 (j := 29) rfl rfl
theorem kX4_76 : Cond.methodLink RX4 76 yX7_findSheaves ∈ zUU := zut4 (j := 33) rfl rfl
theorem kX7_53 : Cond.methodLink RX7 53 yX7_closeFrees ∈ zUU := zut4 (j := 37) rfl rfl
theorem kX7_64 : Cond.methodLink RX7 64 yX7_addSheaf ∈ zUU := zut4 (j := 41) rfl rfl
theorem kX7_68 : Cond.methodLink RX7 68 yX7_findTargets ∈ zUU := zut4 (j := 45) rfl rfl
theorem kX7_88 : Cond.methodLink RX7 88 yJ7_fill_d0a16 ∈ zUU := zut4 (j := 49) rfl rfl
theorem kX7_103 : Cond.methodLink RX7 103 yX4_edgeHas ∈ zUU := zut4 (j := 50) rfl rfl
theorem kX7_72 : Cond.methodLink RX7 72 yX7_sheafWith ∈ zUU := zut4 (j := 54) rfl rfl
theorem kX4_80 : Cond.methodLink RX4 80 yX7_findClasses ∈ zUU := zut4 (j := 58) rfl rfl
theorem kX7_110 : Cond.methodLink RX7 110 yJ7_fill_53178 ∈ zUU := zut4 (j := 62) rfl rfl
theorem kX7_125 : Cond.methodLink RX7 125 yX7_partSheaves ∈ zUU := zut4 (j := 66) rfl rfl
theorem kX7_132 : Cond.methodLink RX7 132 yX7_areAlike ∈ zUU := zut4 (j := 70) rfl rfl
theorem kX7_136 : Cond.methodLink RX7 136 yX7_sheafTakes ∈ zUU := zut4 (j := 74) rfl rfl
theorem kX7_140 : Cond.methodLink RX7 140 yX7_sheafStep ∈ zUU := zut4 (j := 78) rfl rfl
theorem kX7_129 : Cond.methodLink RX7 129 yX7_noteApart ∈ zUU := zut4 (j := 82) rfl rfl
theorem kX8_75 : Cond.methodLink RX8 75 yX8_readSet ∈ zUU := zut4 (j := 86) rfl rfl
theorem kX8_91 : Cond.methodLink RX8 91 yX10_fail ∈ zUU := zut4 (j := 90) rfl rfl
theorem kX8_95 : Cond.methodLink RX8 95 yX10_step ∈ zUU := zut4 (j := 94) rfl rfl
theorem kX8_102 : Cond.methodLink RX8 102 yX9_numberOf ∈ zUU := zut4 (j := 95) rfl rfl
theorem kX8_108 : Cond.methodLink RX8 108 yX0_readBody ∈ zUU := zut4 (j := 99) rfl rfl
theorem kX0_56 : Cond.methodLink RX0 56 yX0_openLevel ∈ zUU := zut4 (j := 103) rfl rfl
theorem kX0_90 : Cond.methodLink RX0 90 yX3_clear ∈ zUU := zut4 (j := 107) rfl rfl
theorem kX0_93 : Cond.methodLink RX0 93 yX0_openMeet ∈ zUU := zut4 (j := 111) rfl rfl
theorem kX0_97 : Cond.methodLink RX0 97 yX3_become ∈ zUU := zut4 (j := 116) rfl rfl
theorem kX0_63 : Cond.methodLink RX0 63 yX0_readSign ∈ zUU := zut4 (j := 120) rfl rfl
theorem kX0_75 : Cond.methodLink RX0 75 yX0_closeMeet ∈ zUU := zut4 (j := 124) rfl rfl
theorem kX0_101 : Cond.methodLink RX0 101 yX3_combine ∈ zUU := zut4 (j := 128) rfl rfl
theorem kX3_29 : Cond.methodLink RX3 29 yX3_addCut ∈ zUU := zut4 (j := 136) rfl rfl
theorem kX3_38 : Cond.methodLink RX3 38 yJ9_min_7cf53 ∈ zUU := zut4 (j := 140) rfl rfl
theorem kX0_117 : Cond.methodLink RX0 117 yX0_closePart ∈ zUU := zut4 (j := 141) rfl rfl
theorem kX0_108 : Cond.methodLink RX0 108 yX10_step ∈ zUU := zut4 (j := 145) rfl rfl
theorem kX0_67 : Cond.methodLink RX0 67 yX0_readPart ∈ zUU := zut4 (j := 146) rfl rfl
theorem kX0_71 : Cond.methodLink RX0 71 yX10_fail ∈ zUU := zut4 (j := 150) rfl rfl
theorem kX0_111 : Cond.methodLink RX0 111 yX0_readRanges ∈ zUU := zut4 (j := 151) rfl rfl
theorem kX0_133 : Cond.methodLink RX0 133 yX0_readBound ∈ zUU := zut4 (j := 155) rfl rfl
theorem kX0_114 : Cond.methodLink RX0 114 yX0_readName ∈ zUU := zut4 (j := 160) rfl rfl
theorem kX0_124 : Cond.methodLink RX0 124 yX9_numberOf ∈ zUU := zut4 (j := 164) rfl rfl
theorem kX0_86 : Cond.methodLink RX0 86 yX3_copy ∈ zUU := zut4 (j := 165) rfl rfl
theorem kX0_78 : Cond.methodLink RX0 78 yX3_rangeCount ∈ zUU := zut4 (j := 169) rfl rfl
theorem kX0_82 : Cond.methodLink RX0 82 yX10_failAt ∈ zUU := zut4 (j := 173) rfl rfl
theorem kX8_79 : Cond.methodLink RX8 79 yX8_readMachine ∈ zUU := zut4 (j := 177) rfl rfl
theorem kX8_118 : Cond.methodLink RX8 118 yX2_begin ∈ zUU := zut4 (j := 182) rfl rfl
theorem kX8_82 : Cond.methodLink RX8 82 yX8_readEdge ∈ zUU := zut4 (j := 186) rfl rfl
theorem kX8_126 : Cond.methodLink RX8 126 yX8_readState ∈ zUU := zut4 (j := 190) rfl rfl
theorem kX8_130 : Cond.methodLink RX8 130 yX2_addEdge ∈ zUU := zut4 (j := 194) rfl rfl
theorem kX8_85 : Cond.methodLink RX8 85 yX8_readFree ∈ zUU := zut4 (j := 198) rfl rfl
theorem kX8_137 : Cond.methodLink RX8 137 yX2_addFree ∈ zUU := zut4 (j := 202) rfl rfl
theorem kX8_88 : Cond.methodLink RX8 88 yX8_readEnd ∈ zUU := zut4 (j := 206) rfl rfl
theorem kX8_147 : Cond.methodLink RX8 147 yX10_failAt ∈ zUU := zut4 (j := 210) rfl rfl
theorem kX11_110 : Cond.methodLink RX11 110 yX11_takeBench ∈ zUU := zut4 (j := 211) rfl rfl
theorem kX11_116 : Cond.methodLink RX11 116 yX11_granted ∈ zUU := zut4 (j := 215) rfl rfl
theorem kL_28 : Cond.methodLink RL 28 yX11_fault ∈ zUU := zut4 (j := 219) rfl rfl
theorem kL_33 : Cond.methodLink RL 33 yX11_where ∈ zUU := zut4 (j := 223) rfl rfl
theorem kL_37 : Cond.methodLink RL 37 yX11_ranges ∈ zUU := zut4 (j := 227) rfl rfl
theorem kX11_122 : Cond.methodLink RX11 122 yX11_isSet ∈ zUU := zut4 (j := 231) rfl rfl
theorem kX11_133 : Cond.methodLink RX11 133 yX11_isIn ∈ zUU := zut4 (j := 235) rfl rfl
theorem kX11_129 : Cond.methodLink RX11 129 yX3_rangeCount ∈ zUU := zut4 (j := 236) rfl rfl
theorem kL_41 : Cond.methodLink RL 41 yX11_range ∈ zUU := zut4 (j := 237) rfl rfl
theorem kX11_137 : Cond.methodLink RX11 137 yX3_bound ∈ zUU := zut5 (j := 1) rfl rfl
theorem kL_46 : Cond.methodLink RL 46 yX11_letters ∈ zUU := zut5 (j := 6) rfl rfl
theorem kX11_141 : Cond.methodLink RX11 141 yX3_amount ∈ zUU := zut5 (j := 10) rfl rfl
theorem kL_50 : Cond.methodLink RL 50 yX11_has ∈ zUU := zut5 (j := 14) rfl rfl
theorem kX11_145 : Cond.methodLink RX11 145 yX3_holds ∈ zUU := zut5 (j := 19) rfl rfl
theorem kL_55 : Cond.methodLink RL 55 yX11_mixed ∈ zUU := zut5 (j := 20) rfl rfl
theorem kX11_148 : Cond.methodLink RX11 148 yX11_mix ∈ zUU := zut5 (j := 24) rfl rfl
theorem kX11_393 : Cond.methodLink RX11 393 yX3_combine ∈ zUU := zut5 (j := 28) rfl rfl
theorem kL_60 : Cond.methodLink RL 60 yX11_mixedRanges ∈ zUU := zut5 (j := 29) rfl rfl
theorem kL_64 : Cond.methodLink RL 64 yX11_mixedRange ∈ zUU := zut5 (j := 33) rfl rfl
theorem kL_69 : Cond.methodLink RL 69 yX11_size ∈ zUU := zut5 (j := 37) rfl rfl
theorem kX11_152 : Cond.methodLink RX11 152 yX11_isMachine ∈ zUU := zut5 (j := 41) rfl rfl
theorem kX11_155 : Cond.methodLink RX11 155 yX4_howMany ∈ zUU := zut5 (j := 45) rfl rfl
theorem kX4_107 : Cond.methodLink RX4 107 yJ13_bitCount_95d88 ∈ zUU := zut5 (j := 49) rfl rfl
theorem kL_73 : Cond.methodLink RL 73 yX11_edge ∈ zUU := zut5 (j := 55) rfl rfl
theorem kX11_167 : Cond.methodLink RX11 167 yX4_edgeRanges ∈ zUU := zut5 (j := 59) rfl rfl
theorem kX4_119 : Cond.methodLink RX4 119 yX4_edgeHas ∈ zUU := zut5 (j := 63) rfl rfl
theorem kX11_170 : Cond.methodLink RX11 170 yX4_edgeLetters ∈ zUU := zut5 (j := 64) rfl rfl
theorem kX4_122 : Cond.methodLink RX4 122 yX4_lengthOf ∈ zUU := zut5 (j := 68) rfl rfl
theorem kX4_103 : Cond.methodLink RX4 103 yX4_endOf ∈ zUU := zut5 (j := 72) rfl rfl
theorem kL_77 : Cond.methodLink RL 77 yX11_edgeRange ∈ zUU := zut5 (j := 77) rfl rfl
theorem kX11_173 : Cond.methodLink RX11 173 yX4_edgeBound ∈ zUU := zut5 (j := 81) rfl rfl
theorem kL_82 : Cond.methodLink RL 82 yX11_free ∈ zUU := zut5 (j := 85) rfl rfl
theorem kL_86 : Cond.methodLink RL 86 yX11_ends ∈ zUU := zut5 (j := 89) rfl rfl
theorem kX11_190 : Cond.methodLink RX11 190 yX11_grantedLong ∈ zUU := zut5 (j := 93) rfl rfl
theorem kL_91 : Cond.methodLink RL 91 yX11_block ∈ zUU := zut5 (j := 97) rfl rfl
theorem kL_95 : Cond.methodLink RL 95 yX11_sheaf ∈ zUU := zut5 (j := 101) rfl rfl
theorem kL_100 : Cond.methodLink RL 100 yX11_useless ∈ zUU := zut5 (j := 105) rfl rfl
theorem kX11_213 : Cond.methodLink RX11 213 yX4_uselessStates ∈ zUU := zut5 (j := 109) rfl rfl
theorem kX4_125 : Cond.methodLink RX4 125 yX4_spread ∈ zUU := zut5 (j := 113) rfl rfl
theorem kX4_131 : Cond.methodLink RX4 131 yX4_carry ∈ zUU := zut5 (j := 117) rfl rfl
theorem kX4_135 : Cond.methodLink RX4 135 yX4_edgeIsFilled ∈ zUU := zut5 (j := 120) rfl rfl
theorem kL_104 : Cond.methodLink RL 104 yX11_terms ∈ zUU := zut5 (j := 125) rfl rfl
theorem kX11_220 : Cond.methodLink RX11 220 yX5_group ∈ zUU := zut5 (j := 129) rfl rfl
theorem kX5_18 : Cond.methodLink RX5 18 yJ7_fill_53178 ∈ zUU := zut5 (j := 133) rfl rfl
theorem kX5_36 : Cond.methodLink RX5 36 yX5_partBy ∈ zUU := zut5 (j := 134) rfl rfl
theorem kX5_43 : Cond.methodLink RX5 43 yX4_edgeHas ∈ zUU := zut5 (j := 138) rfl rfl
theorem kL_108 : Cond.methodLink RL 108 yX11_term ∈ zUU := zut5 (j := 139) rfl rfl
theorem kX11_227 : Cond.methodLink RX11 227 yX5_leaderOf ∈ zUU := zut5 (j := 143) rfl rfl
theorem kX11_231 : Cond.methodLink RX11 231 yX5_amountOf ∈ zUU := zut5 (j := 147) rfl rfl
theorem kX5_47 : Cond.methodLink RX5 47 yX4_lengthOf ∈ zUU := zut5 (j := 151) rfl rfl
theorem kX11_234 : Cond.methodLink RX11 234 yX4_edgesWith ∈ zUU := zut5 (j := 152) rfl rfl
theorem kL_113 : Cond.methodLink RL 113 yX11_go ∈ zUU := zut5 (j := 156) rfl rfl
theorem kX11_238 : Cond.methodLink RX11 238 yX11_isClass ∈ zUU := zut5 (j := 160) rfl rfl
theorem kX11_241 : Cond.methodLink RX11 241 yX4_blockOf ∈ zUU := zut5 (j := 164) rfl rfl
theorem kX11_244 : Cond.methodLink RX11 244 yX7_classStep ∈ zUU := zut5 (j := 168) rfl rfl
theorem kL_117 : Cond.methodLink RL 117 yX11_takes ∈ zUU := zut5 (j := 172) rfl rfl
theorem kX11_247 : Cond.methodLink RX11 247 yX7_classTakes ∈ zUU := zut5 (j := 176) rfl rfl
theorem kL_121 : Cond.methodLink RL 121 yX11_dead ∈ zUU := zut5 (j := 180) rfl rfl
theorem kX11_250 : Cond.methodLink RX11 250 yX7_deadClass ∈ zUU := zut5 (j := 184) rfl rfl
theorem kX7_144 : Cond.methodLink RX7 144 yX7_classTakes ∈ zUU := zut5 (j := 188) rfl rfl
theorem kX7_147 : Cond.methodLink RX7 147 yX7_classesAfter ∈ zUU := zut5 (j := 189) rfl rfl
theorem kX7_151 : Cond.methodLink RX7 151 yX7_classStep ∈ zUU := zut5 (j := 193) rfl rfl
theorem kL_125 : Cond.methodLink RL 125 yX11_first ∈ zUU := zut5 (j := 194) rfl rfl
theorem kL_129 : Cond.methodLink RL 129 yX11_firstLetter ∈ zUU := zut5 (j := 198) rfl rfl
theorem kX11_259 : Cond.methodLink RX11 259 yX7_blockOnWay ∈ zUU := zut5 (j := 202) rfl rfl
theorem kX7_154 : Cond.methodLink RX7 154 yJ9_max_7cf53 ∈ zUU := zut5 (j := 206) rfl rfl
theorem kL_133 : Cond.methodLink RL 133 yX11_parting ∈ zUU := zut5 (j := 207) rfl rfl
theorem kX11_262 : Cond.methodLink RX11 262 yX7_classesApart ∈ zUU := zut5 (j := 211) rfl rfl
theorem kL_137 : Cond.methodLink RL 137 yX11_partingLetter ∈ zUU := zut5 (j := 215) rfl rfl
theorem kX11_265 : Cond.methodLink RX11 265 yX7_partingBlock ∈ zUU := zut5 (j := 219) rfl rfl
theorem kL_141 : Cond.methodLink RL 141 yX11_rounds ∈ zUU := zut5 (j := 223) rfl rfl
theorem kL_145 : Cond.methodLink RL 145 yX11_word ∈ zUU := zut5 (j := 227) rfl rfl
theorem kL_149 : Cond.methodLink RL 149 yX11_more ∈ zUU := zut5 (j := 231) rfl rfl
theorem kL_153 : Cond.methodLink RL 153 yX11_taken ∈ zUU := zut5 (j := 235) rfl rfl
theorem kX11_274 : Cond.methodLink RX11 274 yX11_sheafOfWord ∈ zUU := zut5 (j := 239) rfl rfl
theorem kX11_373 : Cond.methodLink RX11 373 yX7_sheafStep ∈ zUU := zut6 (j := 3) rfl rfl
theorem kX11_278 : Cond.methodLink RX11 278 yX7_sheafTakes ∈ zUU := zut6 (j := 4) rfl rfl
theorem kL_157 : Cond.methodLink RL 157 yX11_leads ∈ zUU := zut6 (j := 5) rfl rfl
theorem kL_161 : Cond.methodLink RL 161 yX11_classOf ∈ zUU := zut6 (j := 9) rfl rfl
theorem kL_165 : Cond.methodLink RL 165 yX11_place ∈ zUU := zut6 (j := 13) rfl rfl
theorem kX11_284 : Cond.methodLink RX11 284 yX1_fill ∈ zUU := zut6 (j := 17) rfl rfl
theorem kX1_27 : Cond.methodLink RX1 27 yX7_sheafTakes ∈ zUU := zut6 (j := 21) rfl rfl
theorem kX1_34 : Cond.methodLink RX1 34 yX4_lengthOf ∈ zUU := zut6 (j := 22) rfl rfl
theorem kX1_38 : Cond.methodLink RX1 38 yX7_sheafStep ∈ zUU := zut6 (j := 23) rfl rfl
theorem kX1_42 : Cond.methodLink RX1 42 yX1_behindSheaf ∈ zUU := zut6 (j := 24) rfl rfl
theorem kX11_287 : Cond.methodLink RX11 287 yX1_aheadOf ∈ zUU := zut6 (j := 28) rfl rfl
theorem kX1_46 : Cond.methodLink RX1 46 yX4_blockOf ∈ zUU := zut6 (j := 32) rfl rfl
theorem kX1_49 : Cond.methodLink RX1 49 yX4_endOf ∈ zUU := zut6 (j := 33) rfl rfl
theorem kX1_52 : Cond.methodLink RX1 52 yJ9_min_7cf53 ∈ zUU := zut6 (j := 34) rfl rfl
theorem kL_169 : Cond.methodLink RL 169 yX11_count ∈ zUU := zut6 (j := 35) rfl rfl
theorem kX11_291 : Cond.methodLink RX11 291 yX1_behindSheaf ∈ zUU := zut6 (j := 39) rfl rfl
theorem kL_175 : Cond.methodLink RL 175 yX11_at ∈ zUU := zut6 (j := 40) rfl rfl
theorem kX11_295 : Cond.methodLink RX11 295 yX1_letterOfKth ∈ zUU := zut6 (j := 44) rfl rfl
theorem kL_180 : Cond.methodLink RL 180 yX11_longest ∈ zUU := zut6 (j := 48) rfl rfl
theorem kX11_299 : Cond.methodLink RX11 299 yX7_longestTaken ∈ zUU := zut6 (j := 52) rfl rfl
theorem kX7_159 : Cond.methodLink RX7 159 yX7_deadClass ∈ zUU := zut6 (j := 56) rfl rfl
theorem kL_184 : Cond.methodLink RL 184 yX11_found ∈ zUU := zut6 (j := 58) rfl rfl
theorem kX11_302 : Cond.methodLink RX11 302 yX11_whyNoPair ∈ zUU := zut6 (j := 62) rfl rfl
theorem kX11_305 : Cond.methodLink RX11 305 yX6_firstOf ∈ zUU := zut6 (j := 66) rfl rfl
theorem kX6_40 : Cond.methodLink RX6 40 yX6_begin ∈ zUU := zut6 (j := 70) rfl rfl
theorem kX6_85 : Cond.methodLink RX6 85 yX2_begin ∈ zUU := zut6 (j := 74) rfl rfl
theorem kX6_88 : Cond.methodLink RX6 88 yX2_cutLike ∈ zUU := zut6 (j := 75) rfl rfl
theorem kX6_92 : Cond.methodLink RX6 92 yX4_blockOf ∈ zUU := zut6 (j := 79) rfl rfl
theorem kX6_98 : Cond.methodLink RX6 98 yJ7_fill_53178 ∈ zUU := zut6 (j := 80) rfl rfl
theorem kX6_104 : Cond.methodLink RX6 104 yX6_add ∈ zUU := zut6 (j := 81) rfl rfl
theorem kX6_48 : Cond.methodLink RX6 48 yX6_isTrueOf ∈ zUU := zut6 (j := 85) rfl rfl
theorem kX6_111 : Cond.methodLink RX6 111 yX7_classTakes ∈ zUU := zut6 (j := 89) rfl rfl
theorem kX6_52 : Cond.methodLink RX6 52 yX6_widen ∈ zUU := zut6 (j := 91) rfl rfl
theorem kX6_64 : Cond.methodLink RX6 64 yX6_keyAfter ∈ zUU := zut6 (j := 95) rfl rfl
theorem kX6_121 : Cond.methodLink RX6 121 yX7_classStep ∈ zUU := zut6 (j := 99) rfl rfl
theorem kL_188 : Cond.methodLink RL 188 yX11_foundLetter ∈ zUU := zut6 (j := 100) rfl rfl
theorem kX11_310 : Cond.methodLink RX11 310 yX6_letterOnWay ∈ zUU := zut6 (j := 104) rfl rfl
theorem kX6_79 : Cond.methodLink RX6 79 yJ9_max_7cf53 ∈ zUU := zut6 (j := 108) rfl rfl
theorem kL_192 : Cond.methodLink RL 192 yX11_same ∈ zUU := zut6 (j := 109) rfl rfl
theorem kL_196 : Cond.methodLink RL 196 yX11_within ∈ zUU := zut6 (j := 113) rfl rfl
theorem kL_200 : Cond.methodLink RL 200 yX11_sure ∈ zUU := zut6 (j := 117) rfl rfl
theorem kX11_313 : Cond.methodLink RX11 313 yX2_drawSheaves ∈ zUU := zut6 (j := 121) rfl rfl
theorem kX2_128 : Cond.methodLink RX2 128 yX2_begin ∈ zUU := zut6 (j := 125) rfl rfl
theorem kX2_95 : Cond.methodLink RX2 95 yX2_cutLike ∈ zUU := zut6 (j := 126) rfl rfl
theorem kX2_131 : Cond.methodLink RX2 131 yX7_sheafStep ∈ zUU := zut6 (j := 127) rfl rfl
theorem kX2_134 : Cond.methodLink RX2 134 yX2_lead ∈ zUU := zut6 (j := 128) rfl rfl
theorem kX2_91 : Cond.methodLink RX2 91 yX2_addEdge ∈ zUU := zut6 (j := 132) rfl rfl
theorem kX11_317 : Cond.methodLink RX11 317 yX11_keepDraft ∈ zUU := zut6 (j := 133) rfl rfl
theorem kX11_397 : Cond.methodLink RX11 397 yX4_settle ∈ zUU := zut6 (j := 137) rfl rfl
theorem kL_204 : Cond.methodLink RL 204 yX11_least ∈ zUU := zut6 (j := 138) rfl rfl
theorem kX11_320 : Cond.methodLink RX11 320 yX2_drawClasses ∈ zUU := zut6 (j := 142) rfl rfl
theorem kX2_144 : Cond.methodLink RX2 144 yX7_classStep ∈ zUU := zut6 (j := 146) rfl rfl
theorem kX2_147 : Cond.methodLink RX2 147 yX7_classTakes ∈ zUU := zut6 (j := 147) rfl rfl
theorem kL_208 : Cond.methodLink RL 208 yX11_other ∈ zUU := zut6 (j := 148) rfl rfl
theorem kL_212 : Cond.methodLink RL 212 yX11_join ∈ zUU := zut6 (j := 152) rfl rfl
theorem kX11_324 : Cond.methodLink RX11 324 yX6_drawAll ∈ zUU := zut6 (j := 156) rfl rfl
theorem kX6_68 : Cond.methodLink RX6 68 yX2_lead ∈ zUU := zut6 (j := 160) rfl rfl
theorem kL_216 : Cond.methodLink RL 216 yX11_behind ∈ zUU := zut6 (j := 161) rfl rfl
theorem kX11_328 : Cond.methodLink RX11 328 yX2_begin ∈ zUU := zut6 (j := 165) rfl rfl
theorem kX11_331 : Cond.methodLink RX11 331 yX2_cutLike ∈ zUU := zut6 (j := 166) rfl rfl
theorem kX11_334 : Cond.methodLink RX11 334 yX2_trace ∈ zUU := zut6 (j := 167) rfl rfl
theorem kX2_76 : Cond.methodLink RX2 76 yX4_blockOf ∈ zUU := zut6 (j := 172) rfl rfl
theorem kX11_337 : Cond.methodLink RX11 337 yX2_copyEdges ∈ zUU := zut6 (j := 173) rfl rfl
theorem kX2_112 : Cond.methodLink RX2 112 yX2_copyMarks ∈ zUU := zut6 (j := 177) rfl rfl
theorem kX2_150 : Cond.methodLink RX2 150 yX4_edgeHas ∈ zUU := zut6 (j := 181) rfl rfl
theorem kX11_341 : Cond.methodLink RX11 341 yX2_copyFrees ∈ zUU := zut6 (j := 182) rfl rfl
theorem kX2_84 : Cond.methodLink RX2 84 yX2_addFree ∈ zUU := zut6 (j := 186) rfl rfl
theorem kX11_344 : Cond.methodLink RX11 344 yX2_freeFromEach ∈ zUU := zut6 (j := 187) rfl rfl
theorem kL_220 : Cond.methodLink RL 220 yX11_again ∈ zUU := zut6 (j := 191) rfl rfl
theorem kX11_349 : Cond.methodLink RX11 349 yX2_addFree ∈ zUU := zut6 (j := 195) rfl rfl
theorem kX11_353 : Cond.methodLink RX11 353 yX2_copyWhole ∈ zUU := zut6 (j := 196) rfl rfl
theorem kX2_99 : Cond.methodLink RX2 99 yX2_trace ∈ zUU := zut6 (j := 200) rfl rfl
theorem kX2_102 : Cond.methodLink RX2 102 yX2_copyEdges ∈ zUU := zut6 (j := 201) rfl rfl
theorem kX2_106 : Cond.methodLink RX2 106 yX2_copyFrees ∈ zUU := zut6 (j := 202) rfl rfl
theorem kL_224 : Cond.methodLink RL 224 yX11_backwards ∈ zUU := zut6 (j := 203) rfl rfl
theorem kX11_356 : Cond.methodLink RX11 356 yX2_freeToEach ∈ zUU := zut6 (j := 207) rfl rfl
theorem kL_228 : Cond.methodLink RL 228 yX11_only ∈ zUU := zut6 (j := 212) rfl rfl
theorem kX11_362 : Cond.methodLink RX11 362 yX2_cutBy ∈ zUU := zut6 (j := 216) rfl rfl
theorem kX11_366 : Cond.methodLink RX11 366 yX2_leaveOutside ∈ zUU := zut6 (j := 217) rfl rfl
theorem kX11_369 : Cond.methodLink RX11 369 yX2_copyFilledEdges ∈ zUU := zut6 (j := 221) rfl rfl
theorem kL_232 : Cond.methodLink RL 232 yX11_moved ∈ zUU := zut6 (j := 225) rfl rfl
theorem kL_236 : Cond.methodLink RL 236 yX11_past ∈ zUU := zut6 (j := 230) rfl rfl
theorem kL_240 : Cond.methodLink RL 240 yX11_drop ∈ zUU := zut6 (j := 234) rfl rfl
theorem kL_253 : Cond.methodLink RL 253 yX11_total ∈ zUU := zut6 (j := 238) rfl rfl
theorem kL_257 : Cond.methodLink RL 257 yX11_letter ∈ zUU := zut7 (j := 2) rfl rfl
theorem kL_261 : Cond.methodLink RL 261 yX11_trouble ∈ zUU := zut7 (j := 6) rfl rfl
theorem kL_7 : Cond.methodLink RL 7 yX11_twin ∈ zUU := zut7 (j := 14) rfl rfl
theorem kL_250 : Cond.methodLink RL 250 yX12_thrown ∈ zUU := zut8 (j := 116) rfl rfl
theorem kL_23 : Cond.methodLink RL 23 yX12_feed ∈ zUU := zut8 (j := 120) rfl rfl
theorem kL_27 : Cond.methodLink RL 27 yX12_bench ∈ zUU := zut8 (j := 124) rfl rfl
theorem kX12_426 : Cond.methodLink RX12 426 yX12_refused ∈ zUU := zut8 (j := 128) rfl rfl
theorem kX12_262 : Cond.methodLink RX12 262 yX12_next ∈ zUU := zut8 (j := 132) rfl rfl
theorem kX12_214 : Cond.methodLink RX12 214 yX12_byteAt ∈ zUU := zut8 (j := 136) rfl rfl
theorem kX12_223 : Cond.methodLink RX12 223 yX12_isSmall ∈ zUU := zut8 (j := 140) rfl rfl
theorem kX12_227 : Cond.methodLink RX12 227 yX12_nextName ∈ zUU := zut8 (j := 143) rfl rfl
theorem kX12_230 : Cond.methodLink RX12 230 yX12_isDigit ∈ zUU := zut8 (j := 148) rfl rfl
theorem kX12_233 : Cond.methodLink RX12 233 yX12_nextWhole ∈ zUU := zut8 (j := 151) rfl rfl
theorem kX12_236 : Cond.methodLink RX12 236 yX12_nextDots ∈ zUU := zut8 (j := 155) rfl rfl
theorem kX12_239 : Cond.methodLink RX12 239 yX12_isSign ∈ zUU := zut8 (j := 159) rfl rfl
theorem kX12_242 : Cond.methodLink RX12 242 yX12_nextSign ∈ zUU := zut8 (j := 162) rfl rfl
theorem kX12_429 : Cond.methodLink RX12 429 yX12_readAll ∈ zUU := zut8 (j := 166) rfl rfl
theorem kX12_380 : Cond.methodLink RX12 380 yX12_readLine ∈ zUU := zut8 (j := 170) rfl rfl
theorem kX12_287 : Cond.methodLink RX12 287 yX12_isWord ∈ zUU := zut8 (j := 175) rfl rfl
theorem kX12_281 : Cond.methodLink RX12 281 yX12_packed ∈ zUU := zut8 (j := 179) rfl rfl
theorem kX12_271 : Cond.methodLink RX12 271 yJ0_length_8abf5 ∈ zUU := zut8 (j := 182) rfl rfl
theorem kX12_277 : Cond.methodLink RX12 277 yJ0_charAt_5068e ∈ zUU := zut8 (j := 183) rfl rfl
theorem kX12_392 : Cond.methodLink RX12 392 yX12_readSetLine ∈ zUU := zut8 (j := 184) rfl rfl
theorem kX12_268 : Cond.methodLink RX12 268 yX12_wrong ∈ zUU := zut8 (j := 188) rfl rfl
theorem kX12_255 : Cond.methodLink RX12 255 yX12_wrongThere ∈ zUU := zut8 (j := 192) rfl rfl
theorem kX12_357 : Cond.methodLink RX12 357 yX12_isName ∈ zUU := zut8 (j := 196) rfl rfl
theorem kX12_360 : Cond.methodLink RX12 360 yX12_named ∈ zUU := zut8 (j := 205) rfl rfl
theorem kX12_407 : Cond.methodLink RX12 407 yX12_readSet ∈ zUU := zut8 (j := 209) rfl rfl
theorem kX12_337 : Cond.methodLink RX12 337 yX12_readBody ∈ zUU := zut8 (j := 213) rfl rfl
theorem kX12_306 : Cond.methodLink RX12 306 yX12_readMeet ∈ zUU := zut8 (j := 217) rfl rfl
theorem kX12_312 : Cond.methodLink RX12 312 yX12_readPart ∈ zUU := zut8 (j := 221) rfl rfl
theorem kX12_259 : Cond.methodLink RX12 259 yX12_is ∈ zUU := zut8 (j := 225) rfl rfl
theorem kX12_318 : Cond.methodLink RX12 318 yX12_opens ∈ zUU := zut8 (j := 229) rfl rfl
theorem kX12_322 : Cond.methodLink RX12 322 yX12_readOthers ∈ zUU := zut8 (j := 233) rfl rfl
theorem kX12_325 : Cond.methodLink RX12 325 yX12_readInner ∈ zUU := zut8 (j := 238) rfl rfl
theorem kX12_340 : Cond.methodLink RX12 340 yX12_must ∈ zUU := zut9 (j := 2) rfl rfl
theorem kX12_265 : Cond.methodLink RX12 265 yX12_passes ∈ zUU := zut9 (j := 6) rfl rfl
theorem kX12_328 : Cond.methodLink RX12 328 yX12_readRanges ∈ zUU := zut9 (j := 10) rfl rfl
theorem kX12_343 : Cond.methodLink RX12 343 yX12_lays ∈ zUU := zut9 (j := 14) rfl rfl
theorem kX12_347 : Cond.methodLink RX12 347 yX12_readRange ∈ zUU := zut9 (j := 18) rfl rfl
theorem kX12_350 : Cond.methodLink RX12 350 yX12_whole ∈ zUU := zut9 (j := 23) rfl rfl
theorem kX12_201 : Cond.methodLink RX12 201 yX12_in ∈ zUU := zut9 (j := 27) rfl rfl
theorem kX12_354 : Cond.methodLink RX12 354 yX12_laysRange ∈ zUU := zut9 (j := 30) rfl rfl
theorem kX12_331 : Cond.methodLink RX12 331 yX12_readAny ∈ zUU := zut9 (j := 34) rfl rfl
theorem kX12_334 : Cond.methodLink RX12 334 yX12_readNamed ∈ zUU := zut9 (j := 38) rfl rfl
theorem kX12_309 : Cond.methodLink RX12 309 yX12_joins ∈ zUU := zut9 (j := 42) rfl rfl
theorem kX12_374 : Cond.methodLink RX12 374 yX12_bitAt ∈ zUU := zut9 (j := 47) rfl rfl
theorem kX12_366 : Cond.methodLink RX12 366 yX12_bit ∈ zUU := zut9 (j := 51) rfl rfl
theorem kX12_377 : Cond.methodLink RX12 377 yX12_foundRange ∈ zUU := zut9 (j := 54) rfl rfl
theorem kX12_410 : Cond.methodLink RX12 410 yX12_keepsRanges ∈ zUU := zut9 (j := 58) rfl rfl
theorem kX12_395 : Cond.methodLink RX12 395 yX12_readMachine ∈ zUU := zut9 (j := 62) rfl rfl
theorem kX12_398 : Cond.methodLink RX12 398 yX12_readEdge ∈ zUU := zut9 (j := 66) rfl rfl
theorem kX12_417 : Cond.methodLink RX12 417 yX12_latest ∈ zUU := zut9 (j := 70) rfl rfl
theorem kX12_420 : Cond.methodLink RX12 420 yX12_readState ∈ zUU := zut9 (j := 74) rfl rfl
theorem kX12_414 : Cond.methodLink RX12 414 yX12_state ∈ zUU := zut9 (j := 78) rfl rfl
theorem kX12_401 : Cond.methodLink RX12 401 yX12_readFree ∈ zUU := zut9 (j := 82) rfl rfl
theorem kX12_404 : Cond.methodLink RX12 404 yX12_readEnd ∈ zUU := zut9 (j := 86) rfl rfl
theorem kX12_386 : Cond.methodLink RX12 386 yX12_buildsTold ∈ zUU := zut9 (j := 90) rfl rfl
theorem kX12_500 : Cond.methodLink RX12 500 yX12_builds ∈ zUU := zut9 (j := 94) rfl rfl
theorem kX12_503 : Cond.methodLink RX12 503 yX12_buildsEdge ∈ zUU := zut9 (j := 98) rfl rfl
theorem kX12_506 : Cond.methodLink RX12 506 yX12_buildsRange ∈ zUU := zut9 (j := 102) rfl rfl
theorem kX12_509 : Cond.methodLink RX12 509 yX12_buildsFree ∈ zUU := zut9 (j := 106) rfl rfl
theorem kX12_389 : Cond.methodLink RX12 389 yX12_settles ∈ zUU := zut9 (j := 110) rfl rfl
theorem kX12_515 : Cond.methodLink RX12 515 yX12_cutsAll ∈ zUU := zut9 (j := 114) rfl rfl
theorem kX12_512 : Cond.methodLink RX12 512 yX12_cuts ∈ zUU := zut9 (j := 118) rfl rfl
theorem kX12_518 : Cond.methodLink RX12 518 yX12_settlesEdge ∈ zUU := zut9 (j := 122) rfl rfl
theorem kX12_524 : Cond.methodLink RX12 524 yX12_blockAt ∈ zUU := zut9 (j := 126) rfl rfl
theorem kX12_521 : Cond.methodLink RX12 521 yX12_gathers ∈ zUU := zut9 (j := 130) rfl rfl
theorem kX12_530 : Cond.methodLink RX12 530 yX12_freed ∈ zUU := zut9 (j := 134) rfl rfl
theorem kX12_534 : Cond.methodLink RX12 534 yX12_stepped ∈ zUU := zut9 (j := 138) rfl rfl
theorem kX12_527 : Cond.methodLink RX12 527 yX12_edgeHas ∈ zUU := zut9 (j := 142) rfl rfl
theorem kX12_538 : Cond.methodLink RX12 538 yX12_sheafIn ∈ zUU := zut9 (j := 146) rfl rfl
theorem kX12_435 : Cond.methodLink RX12 435 yX12_keepsSet ∈ zUU := zut9 (j := 150) rfl rfl
theorem kX12_444 : Cond.methodLink RX12 444 yX12_keepsMachine ∈ zUU := zut9 (j := 154) rfl rfl
theorem kX12_196 : Cond.methodLink RX12 196 yX12_good ∈ zUU := zut9 (j := 158) rfl rfl
theorem kL_32 : Cond.methodLink RL 32 yX12_fault ∈ zUU := zut9 (j := 162) rfl rfl
theorem kL_36 : Cond.methodLink RL 36 yX12_where ∈ zUU := zut9 (j := 166) rfl rfl
theorem kL_40 : Cond.methodLink RL 40 yX12_ranges ∈ zUU := zut9 (j := 170) rfl rfl
theorem kX12_447 : Cond.methodLink RX12 447 yX12_isSet ∈ zUU := zut9 (j := 174) rfl rfl
theorem kL_45 : Cond.methodLink RL 45 yX12_range ∈ zUU := zut9 (j := 178) rfl rfl
theorem kL_49 : Cond.methodLink RL 49 yX12_letters ∈ zUU := zut9 (j := 182) rfl rfl
theorem kL_54 : Cond.methodLink RL 54 yX12_has ∈ zUU := zut9 (j := 186) rfl rfl
theorem kX12_450 : Cond.methodLink RX12 450 yX12_isLetter ∈ zUU := zut9 (j := 190) rfl rfl
theorem kX12_453 : Cond.methodLink RX12 453 yX12_setHas ∈ zUU := zut9 (j := 193) rfl rfl
theorem kL_59 : Cond.methodLink RL 59 yX12_mixed ∈ zUU := zut9 (j := 197) rfl rfl
theorem kX12_476 : Cond.methodLink RX12 476 yX12_refusesMix ∈ zUU := zut9 (j := 201) rfl rfl
theorem kX12_480 : Cond.methodLink RX12 480 yX12_mixes ∈ zUU := zut9 (j := 205) rfl rfl
theorem kX12_463 : Cond.methodLink RX12 463 yX12_setTurns ∈ zUU := zut9 (j := 209) rfl rfl
theorem kX12_466 : Cond.methodLink RX12 466 yX12_holds ∈ zUU := zut9 (j := 213) rfl rfl
theorem kL_63 : Cond.methodLink RL 63 yX12_mixedRanges ∈ zUU := zut9 (j := 216) rfl rfl
theorem kL_68 : Cond.methodLink RL 68 yX12_mixedRange ∈ zUU := zut9 (j := 220) rfl rfl
theorem kL_72 : Cond.methodLink RL 72 yX12_size ∈ zUU := zut9 (j := 224) rfl rfl
theorem kX12_561 : Cond.methodLink RX12 561 yX12_isMachine ∈ zUU := zut9 (j := 228) rfl rfl
theorem kX12_564 : Cond.methodLink RX12 564 yX12_bitsIn ∈ zUU := zut9 (j := 232) rfl rfl
theorem kX12_568 : Cond.methodLink RX12 568 yX12_sorts ∈ zUU := zut9 (j := 235) rfl rfl
theorem kX12_558 : Cond.methodLink RX12 558 yX12_parts ∈ zUU := zut9 (j := 239) rfl rfl
theorem kX12_542 : Cond.methodLink RX12 542 yX12_sheafEnds ∈ zUU := zut10 (j := 3) rfl rfl
theorem kX12_548 : Cond.methodLink RX12 548 yX12_partsMore ∈ zUU := zut10 (j := 7) rfl rfl
theorem kX12_551 : Cond.methodLink RX12 551 yX12_partingBlock ∈ zUU := zut10 (j := 11) rfl rfl
theorem kX12_555 : Cond.methodLink RX12 555 yX12_goesTo ∈ zUU := zut10 (j := 15) rfl rfl
theorem kL_76 : Cond.methodLink RL 76 yX12_edge ∈ zUU := zut10 (j := 19) rfl rfl
theorem kX12_574 : Cond.methodLink RX12 574 yX12_isEdge ∈ zUU := zut10 (j := 23) rfl rfl
theorem kX12_577 : Cond.methodLink RX12 577 yX12_edgeRanges ∈ zUU := zut10 (j := 27) rfl rfl
theorem kX12_580 : Cond.methodLink RX12 580 yX12_edgeLetters ∈ zUU := zut10 (j := 31) rfl rfl
theorem kX12_571 : Cond.methodLink RX12 571 yX12_blockEnd ∈ zUU := zut10 (j := 35) rfl rfl
theorem kL_81 : Cond.methodLink RL 81 yX12_edgeRange ∈ zUU := zut10 (j := 39) rfl rfl
theorem kL_85 : Cond.methodLink RL 85 yX12_free ∈ zUU := zut10 (j := 43) rfl rfl
theorem kL_90 : Cond.methodLink RL 90 yX12_ends ∈ zUU := zut10 (j := 47) rfl rfl
theorem kX12_583 : Cond.methodLink RX12 583 yX12_goodLong ∈ zUU := zut10 (j := 51) rfl rfl
theorem kL_94 : Cond.methodLink RL 94 yX12_block ∈ zUU := zut10 (j := 55) rfl rfl
theorem kL_99 : Cond.methodLink RL 99 yX12_sheaf ∈ zUU := zut10 (j := 59) rfl rfl
theorem kL_103 : Cond.methodLink RL 103 yX12_useless ∈ zUU := zut10 (j := 63) rfl rfl
theorem kX12_591 : Cond.methodLink RX12 591 yX12_reached ∈ zUU := zut10 (j := 67) rfl rfl
theorem kX12_587 : Cond.methodLink RX12 587 yX12_oneMore ∈ zUU := zut10 (j := 71) rfl rfl
theorem kL_107 : Cond.methodLink RL 107 yX12_terms ∈ zUU := zut10 (j := 74) rfl rfl
theorem kX12_599 : Cond.methodLink RX12 599 yX12_isState ∈ zUU := zut10 (j := 78) rfl rfl
theorem kX12_602 : Cond.methodLink RX12 602 yX12_beginsTerm ∈ zUU := zut10 (j := 82) rfl rfl
theorem kX12_595 : Cond.methodLink RX12 595 yX12_isLike ∈ zUU := zut10 (j := 86) rfl rfl
theorem kL_112 : Cond.methodLink RL 112 yX12_term ∈ zUU := zut10 (j := 90) rfl rfl
theorem kX12_605 : Cond.methodLink RX12 605 yX12_termAt ∈ zUU := zut10 (j := 94) rfl rfl
theorem kL_116 : Cond.methodLink RL 116 yX12_go ∈ zUU := zut10 (j := 98) rfl rfl
theorem kX12_608 : Cond.methodLink RX12 608 yX12_isClass ∈ zUU := zut10 (j := 102) rfl rfl
theorem kX12_611 : Cond.methodLink RX12 611 yX12_classGoes ∈ zUU := zut10 (j := 106) rfl rfl
theorem kL_120 : Cond.methodLink RL 120 yX12_takes ∈ zUU := zut10 (j := 110) rfl rfl
theorem kX12_614 : Cond.methodLink RX12 614 yX12_classEnds ∈ zUU := zut10 (j := 114) rfl rfl
theorem kL_124 : Cond.methodLink RL 124 yX12_dead ∈ zUU := zut10 (j := 118) rfl rfl
theorem kX12_617 : Cond.methodLink RX12 617 yX12_isDead ∈ zUU := zut10 (j := 122) rfl rfl
theorem kL_128 : Cond.methodLink RL 128 yX12_first ∈ zUU := zut10 (j := 126) rfl rfl
theorem kX12_620 : Cond.methodLink RX12 620 yX12_wordOf ∈ zUU := zut10 (j := 130) rfl rfl
theorem kL_132 : Cond.methodLink RL 132 yX12_firstLetter ∈ zUU := zut10 (j := 134) rfl rfl
theorem kL_136 : Cond.methodLink RL 136 yX12_parting ∈ zUU := zut10 (j := 138) rfl rfl
theorem kX12_623 : Cond.methodLink RX12 623 yX12_partedBy ∈ zUU := zut10 (j := 142) rfl rfl
theorem kL_140 : Cond.methodLink RL 140 yX12_partingLetter ∈ zUU := zut10 (j := 146) rfl rfl
theorem kL_144 : Cond.methodLink RL 144 yX12_rounds ∈ zUU := zut10 (j := 150) rfl rfl
theorem kL_148 : Cond.methodLink RL 148 yX12_word ∈ zUU := zut10 (j := 154) rfl rfl
theorem kL_152 : Cond.methodLink RL 152 yX12_more ∈ zUU := zut10 (j := 158) rfl rfl
theorem kL_156 : Cond.methodLink RL 156 yX12_taken ∈ zUU := zut10 (j := 162) rfl rfl
theorem kX12_629 : Cond.methodLink RX12 629 yX12_led ∈ zUU := zut10 (j := 166) rfl rfl
theorem kL_160 : Cond.methodLink RL 160 yX12_leads ∈ zUU := zut10 (j := 170) rfl rfl
theorem kL_164 : Cond.methodLink RL 164 yX12_classOf ∈ zUU := zut10 (j := 174) rfl rfl
theorem kL_168 : Cond.methodLink RL 168 yX12_place ∈ zUU := zut10 (j := 178) rfl rfl
theorem kX12_644 : Cond.methodLink RX12 644 yX12_counts ∈ zUU := zut10 (j := 182) rfl rfl
theorem kX12_633 : Cond.methodLink RX12 633 yX12_waysFrom ∈ zUU := zut10 (j := 186) rfl rfl
theorem kX12_637 : Cond.methodLink RX12 637 yX12_waysBy ∈ zUU := zut10 (j := 190) rfl rfl
theorem kX12_641 : Cond.methodLink RX12 641 yX12_width ∈ zUU := zut10 (j := 194) rfl rfl
theorem kL_172 : Cond.methodLink RL 172 yX12_count ∈ zUU := zut10 (j := 198) rfl rfl
theorem kL_179 : Cond.methodLink RL 179 yX12_at ∈ zUU := zut10 (j := 202) rfl rfl
theorem kL_183 : Cond.methodLink RL 183 yX12_longest ∈ zUU := zut10 (j := 206) rfl rfl
theorem kL_187 : Cond.methodLink RL 187 yX12_found ∈ zUU := zut10 (j := 210) rfl rfl
theorem kX12_663 : Cond.methodLink RX12 663 yX12_refusesTwo ∈ zUU := zut10 (j := 214) rfl rfl
theorem kX12_666 : Cond.methodLink RX12 666 yX12_finds ∈ zUU := zut10 (j := 218) rfl rfl
theorem kX12_653 : Cond.methodLink RX12 653 yX12_cutsBoth ∈ zUU := zut10 (j := 222) rfl rfl
theorem kX12_656 : Cond.methodLink RX12 656 yX12_pairsBegin ∈ zUU := zut10 (j := 226) rfl rfl
theorem kX12_659 : Cond.methodLink RX12 659 yX12_pairOf ∈ zUU := zut10 (j := 230) rfl rfl
theorem kX12_669 : Cond.methodLink RX12 669 yX12_pairLength ∈ zUU := zut10 (j := 234) rfl rfl
theorem kL_191 : Cond.methodLink RL 191 yX12_foundLetter ∈ zUU := zut10 (j := 238) rfl rfl
theorem kL_195 : Cond.methodLink RL 195 yX12_same ∈ zUU := zut11 (j := 2) rfl rfl
theorem kL_199 : Cond.methodLink RL 199 yX12_within ∈ zUU := zut11 (j := 6) rfl rfl
theorem kL_203 : Cond.methodLink RL 203 yX12_sure ∈ zUU := zut11 (j := 10) rfl rfl
theorem kX12_675 : Cond.methodLink RX12 675 yX12_refusesOne ∈ zUU := zut11 (j := 14) rfl rfl
theorem kX12_672 : Cond.methodLink RX12 672 yX12_mostMachines ∈ zUU := zut11 (j := 18) rfl rfl
theorem kX12_678 : Cond.methodLink RX12 678 yX12_buildsTable ∈ zUU := zut11 (j := 22) rfl rfl
theorem kX12_682 : Cond.methodLink RX12 682 yX12_makes ∈ zUU := zut11 (j := 26) rfl rfl
theorem kL_207 : Cond.methodLink RL 207 yX12_least ∈ zUU := zut11 (j := 30) rfl rfl
theorem kX12_685 : Cond.methodLink RX12 685 yX12_makesClasses ∈ zUU := zut11 (j := 34) rfl rfl
theorem kL_211 : Cond.methodLink RL 211 yX12_other ∈ zUU := zut11 (j := 38) rfl rfl
theorem kL_215 : Cond.methodLink RL 215 yX12_join ∈ zUU := zut11 (j := 42) rfl rfl
theorem kL_219 : Cond.methodLink RL 219 yX12_behind ∈ zUU := zut11 (j := 46) rfl rfl
theorem kX12_692 : Cond.methodLink RX12 692 yX12_buildsEdges ∈ zUU := zut11 (j := 50) rfl rfl
theorem kX12_689 : Cond.methodLink RX12 689 yX12_buildsLetters ∈ zUU := zut11 (j := 54) rfl rfl
theorem kX12_696 : Cond.methodLink RX12 696 yX12_buildsFrees ∈ zUU := zut11 (j := 58) rfl rfl
theorem kL_223 : Cond.methodLink RL 223 yX12_again ∈ zUU := zut11 (j := 62) rfl rfl
theorem kL_227 : Cond.methodLink RL 227 yX12_backwards ∈ zUU := zut11 (j := 66) rfl rfl
theorem kL_231 : Cond.methodLink RL 231 yX12_only ∈ zUU := zut11 (j := 71) rfl rfl
theorem kX12_701 : Cond.methodLink RX12 701 yX12_buildsOnly ∈ zUU := zut11 (j := 75) rfl rfl
theorem kX12_705 : Cond.methodLink RX12 705 yX12_keepsEdge ∈ zUU := zut11 (j := 79) rfl rfl
theorem kX12_708 : Cond.methodLink RX12 708 yX12_makesLike ∈ zUU := zut11 (j := 83) rfl rfl
theorem kL_235 : Cond.methodLink RL 235 yX12_moved ∈ zUU := zut11 (j := 87) rfl rfl
theorem kX12_712 : Cond.methodLink RX12 712 yX12_buildsMoved ∈ zUU := zut11 (j := 92) rfl rfl
theorem kL_239 : Cond.methodLink RL 239 yX12_past ∈ zUU := zut11 (j := 96) rfl rfl
theorem kL_243 : Cond.methodLink RL 243 yX12_drop ∈ zUU := zut11 (j := 100) rfl rfl
theorem kL_249 : Cond.methodLink RL 249 yX12_twin ∈ zUU := zut11 (j := 104) rfl rfl
theorem kL_256 : Cond.methodLink RL 256 yX12_total ∈ zUU := zut11 (j := 108) rfl rfl
theorem kL_260 : Cond.methodLink RL 260 yX12_letter ∈ zUU := zut11 (j := 112) rfl rfl
theorem kL_264 : Cond.methodLink RL 264 yX12_trouble ∈ zUU := zut11 (j := 116) rfl rfl
theorem qJ0_38 : Cond.fieldLink RJ0 38 "java/lang/String" "COMPACT_STRINGS" "Z" ∈ zUU := zut3 (j := 109) rfl rfl
theorem qJ0_1053 : Cond.fieldLink RJ0 1053 "jdk/internal/util/Preconditions" "SIOOBE_FORMATTER" "Ljava/util/function/BiFunction;" ∈ zUU := zut3 (j := 126) rfl rfl
theorem qJ0_9 : Cond.fieldLink RJ0 9 "java/lang/String" "value" "[B" ∈ zUU := zut11 (j := 138) rfl rfl
theorem qJ0_15 : Cond.fieldLink RJ0 15 "java/lang/String" "coder" "B" ∈ zUU := zut11 (j := 139) rfl rfl
theorem kX4_63 : Cond.methodLink RX4 63 arraycopyName ∈ zUU := zut4 (j := 15) rfl rfl
theorem kX7_119 : Cond.methodLink RX7 119 arraycopyName ∈ zUU := zut4 (j := 65) rfl rfl
theorem kcopy : Cond.native arraycopyName ∈ zUU ∧ Cond.static arraycopyName ∈ zUU ∧ Cond.initialized "java/lang/System" ∈ zUU := ⟨zut4 (j := 17) rfl rfl, zut4 (j := 16) rfl rfl, zut1 (j := 20) rfl rfl⟩
theorem kmax : Cond.static Lib.Math.max.name ∈ zUU ∧ Cond.initialized "java/lang/Math" ∈ zUU ∧ Cond.code Lib.Math.max.name Lib.Math.max.code 2 (some .int) ∈ zUU := ⟨zut1 (j := 171) rfl rfl, zut1 (j := 7) rfl rfl, zut1 (j := 172) rfl rfl⟩
theorem kmin : Cond.static Lib.Math.min.name ∈ zUU ∧ Cond.initialized "java/lang/Math" ∈ zUU ∧ Cond.code Lib.Math.min.name Lib.Math.min.code 2 (some .int) ∈ zUU := ⟨zut3 (j := 178) rfl rfl, zut1 (j := 7) rfl rfl, zut3 (j := 179) rfl rfl⟩
theorem cX10_96 : Cond.constantLong RX10 96 32 ∈ zUU := zut3 (j := 111) rfl rfl
theorem cX10_102 : Cond.constantLong RX10 102 96 ∈ zUU := zut3 (j := 150) rfl rfl
theorem cJ2_227 : Cond.constant RJ2 227 65536 ∈ zUU := zut3 (j := 188) rfl rfl
theorem cJ11_110 : Cond.constant RJ11 110 55232 ∈ zUU := zut3 (j := 213) rfl rfl
theorem cJ11_76 : Cond.constant RJ11 76 56320 ∈ zUU := zut3 (j := 217) rfl rfl
theorem cX2_55 : Cond.constant RX2 55 65536 ∈ zUU := zut3 (j := 238) rfl rfl
theorem cX0_96 : Cond.constant RX0 96 65535 ∈ zUU := zut4 (j := 115) rfl rfl
theorem cX3_33 : Cond.constant RX3 33 65536 ∈ zUU := zut4 (j := 132) rfl rfl
theorem cX0_137 : Cond.constantLong RX0 137 65536 ∈ zUU := zut4 (j := 159) rfl rfl
theorem cX8_116 : Cond.constantLong RX8 116 12 ∈ zUU := zut4 (j := 181) rfl rfl
theorem cX11_144 : Cond.constant RX11 144 65536 ∈ zUU := zut5 (j := 18) rfl rfl
theorem cJ13_314 : Cond.constantLong RJ13 314 6148914691236517205 ∈ zUU := zut5 (j := 52) rfl rfl
theorem cJ13_316 : Cond.constantLong RJ13 316 3689348814741910323 ∈ zUU := zut5 (j := 53) rfl rfl
theorem cJ13_318 : Cond.constantLong RJ13 318 1085102592571150095 ∈ zUU := zut5 (j := 54) rfl rfl
theorem cX4_102 : Cond.constant RX4 102 65536 ∈ zUU := zut5 (j := 76) rfl rfl
theorem cX4_129 : Cond.constantLong RX4 129 (-1) ∈ zUU := zut5 (j := 124) rfl rfl
theorem cX7_163 : Cond.constantLong RX7 163 (-1) ∈ zUU := zut6 (j := 57) rfl rfl
theorem cX11_360 : Cond.constantLong RX11 360 2 ∈ zUU := zut6 (j := 211) rfl rfl
theorem cX11_372 : Cond.constant RX11 372 (-65536) ∈ zUU := zut6 (j := 229) rfl rfl
theorem cX12_250 : Cond.constantLong RX12 250 32 ∈ zUU := zut8 (j := 147) rfl rfl
theorem cX12_304 : Cond.constantLong RX12 304 (-1) ∈ zUU := zut8 (j := 237) rfl rfl
theorem cX12_200 : Cond.constant RX12 200 65535 ∈ zUU := zut9 (j := 22) rfl rfl
theorem cX12_373 : Cond.constant RX12 373 65536 ∈ zUU := zut9 (j := 46) rfl rfl
theorem cX12_699 : Cond.constantLong RX12 699 2 ∈ zUU := zut11 (j := 70) rfl rfl
theorem cX12_711 : Cond.constant RX12 711 (-65535) ∈ zUU := zut11 (j := 91) rfl rfl
theorem cL_173 : Cond.constantLong RL 173 4294967295 ∈ zUU := zut11 (j := 120) rfl rfl
