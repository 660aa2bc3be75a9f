theorem zlk_L_13 : Cond.classLink RL 13 zIO ∈ zGT := zGT_in 914 (by decide +kernel) rfl
theorem zc_L_7 : zCV RL 7 yX7_regionAround cX7_regionAround 2 (some .int) 7 1 := by
  refine ⟨RX7, Or.inl ⟨by decide, TX7, 5, rfl⟩, ?_, rfl, by decide +kernel, by decide +kernel, by decide +kernel⟩
  exact zV5 (zGT_in 915 (by decide +kernel) rfl) (zGT_in 916 (by decide +kernel) rfl) (zGT_in 917 (by decide +kernel) rfl) (zGT_in 101 (by decide +kernel) rfl) (zGT_in 918 (by decide +kernel) rfl)
theorem zc_L_15 : zCV RL 15 yX7_regionOf cX7_regionOf 2 (some .int) 7 1 := by
  refine ⟨RX7, Or.inl ⟨by decide, TX7, 5, rfl⟩, ?_, rfl, by decide +kernel, by decide +kernel, by decide +kernel⟩
  exact zV5 (zGT_in 993 (by decide +kernel) rfl) (zGT_in 994 (by decide +kernel) rfl) (zGT_in 995 (by decide +kernel) rfl) (zGT_in 101 (by decide +kernel) rfl) (zGT_in 996 (by decide +kernel) rfl)
theorem zc_L_18 : zCV RL 18 yX7_wardsIn cX7_wardsIn 4 (some .int) 7 1 := by
  refine ⟨RX7, Or.inl ⟨by decide, TX7, 5, rfl⟩, ?_, rfl, by decide +kernel, by decide +kernel, by decide +kernel⟩
  exact zV5 (zGT_in 1000 (by decide +kernel) rfl) (zGT_in 1001 (by decide +kernel) rfl) (zGT_in 1002 (by decide +kernel) rfl) (zGT_in 101 (by decide +kernel) rfl) (zGT_in 1003 (by decide +kernel) rfl)
theorem zc_L_21 : zCV RL 21 yX7_depthOf cX7_depthOf 2 (some .int) 7 1 := by
  refine ⟨RX7, Or.inl ⟨by decide, TX7, 5, rfl⟩, ?_, rfl, by decide +kernel, by decide +kernel, by decide +kernel⟩
  exact zV5 (zGT_in 1012 (by decide +kernel) rfl) (zGT_in 1013 (by decide +kernel) rfl) (zGT_in 1014 (by decide +kernel) rfl) (zGT_in 101 (by decide +kernel) rfl) (zGT_in 1015 (by decide +kernel) rfl)
theorem zc_L_24 : zCV RL 24 yX7_boxProperty cX7_boxProperty 3 (some .int) 7 2 := by
  refine ⟨RX7, Or.inl ⟨by decide, TX7, 5, rfl⟩, ?_, rfl, by decide +kernel, by decide +kernel, by decide +kernel⟩
  exact zV5 (zGT_in 1023 (by decide +kernel) rfl) (zGT_in 1024 (by decide +kernel) rfl) (zGT_in 1025 (by decide +kernel) rfl) (zGT_in 101 (by decide +kernel) rfl) (zGT_in 1026 (by decide +kernel) rfl)
theorem zc_L_28 : zCV RL 28 yX7_placeOf cX7_placeOf 2 (some .int) 7 1 := by
  refine ⟨RX7, Or.inl ⟨by decide, TX7, 5, rfl⟩, ?_, rfl, by decide +kernel, by decide +kernel, by decide +kernel⟩
  exact zV5 (zGT_in 1030 (by decide +kernel) rfl) (zGT_in 1031 (by decide +kernel) rfl) (zGT_in 1032 (by decide +kernel) rfl) (zGT_in 101 (by decide +kernel) rfl) (zGT_in 1033 (by decide +kernel) rfl)
theorem zc_L_31 : zCV RL 31 yX7_papers cX7_papers 3 (some .int) 7 2 := by
  refine ⟨RX7, Or.inl ⟨by decide, TX7, 5, rfl⟩, ?_, rfl, by decide +kernel, by decide +kernel, by decide +kernel⟩
  exact zV5 (zGT_in 1037 (by decide +kernel) rfl) (zGT_in 1038 (by decide +kernel) rfl) (zGT_in 1039 (by decide +kernel) rfl) (zGT_in 101 (by decide +kernel) rfl) (zGT_in 1040 (by decide +kernel) rfl)
theorem zc_L_34 : zCV RL 34 yX7_isSealGood cX7_isSealGood 2 (some .boolean) 7 1 := by
  refine ⟨RX7, Or.inl ⟨by decide, TX7, 5, rfl⟩, ?_, rfl, by decide +kernel, by decide +kernel, by decide +kernel⟩
  exact zV5 (zGT_in 1048 (by decide +kernel) rfl) (zGT_in 1049 (by decide +kernel) rfl) (zGT_in 1050 (by decide +kernel) rfl) (zGT_in 101 (by decide +kernel) rfl) (zGT_in 1051 (by decide +kernel) rfl)
theorem zc_L_38 : zCV RL 38 yX7_ledgerSize cX7_ledgerSize 2 (some .int) 7 1 := by
  refine ⟨RX7, Or.inl ⟨by decide, TX7, 5, rfl⟩, ?_, rfl, by decide +kernel, by decide +kernel, by decide +kernel⟩
  exact zV5 (zGT_in 1055 (by decide +kernel) rfl) (zGT_in 1056 (by decide +kernel) rfl) (zGT_in 1057 (by decide +kernel) rfl) (zGT_in 101 (by decide +kernel) rfl) (zGT_in 1058 (by decide +kernel) rfl)
theorem zc_L_41 : zCV RL 41 yX7_ledger cX7_ledger 4 (some .int) 7 2 := by
  refine ⟨RX7, Or.inl ⟨by decide, TX7, 5, rfl⟩, ?_, rfl, by decide +kernel, by decide +kernel, by decide +kernel⟩
  exact zV5 (zGT_in 1062 (by decide +kernel) rfl) (zGT_in 1063 (by decide +kernel) rfl) (zGT_in 1064 (by decide +kernel) rfl) (zGT_in 101 (by decide +kernel) rfl) (zGT_in 1065 (by decide +kernel) rfl)
theorem zc_L_44 : zCV RL 44 yX7_boxAt cX7_boxAt 2 (some .int) 7 1 := by
  refine ⟨RX7, Or.inl ⟨by decide, TX7, 5, rfl⟩, ?_, rfl, by decide +kernel, by decide +kernel, by decide +kernel⟩
  exact zV5 (zGT_in 1069 (by decide +kernel) rfl) (zGT_in 1070 (by decide +kernel) rfl) (zGT_in 1071 (by decide +kernel) rfl) (zGT_in 101 (by decide +kernel) rfl) (zGT_in 1072 (by decide +kernel) rfl)
theorem zc_L_47 : zCV RL 47 yX7_slipOf cX7_slipOf 2 (some .int) 7 1 := by
  refine ⟨RX7, Or.inl ⟨by decide, TX7, 5, rfl⟩, ?_, rfl, by decide +kernel, by decide +kernel, by decide +kernel⟩
  exact zV5 (zGT_in 1076 (by decide +kernel) rfl) (zGT_in 1077 (by decide +kernel) rfl) (zGT_in 1078 (by decide +kernel) rfl) (zGT_in 101 (by decide +kernel) rfl) (zGT_in 1079 (by decide +kernel) rfl)
theorem zc_L_50 : zCV RL 50 yX7_counted cX7_counted 5 (some .int) 7 3 := by
  refine ⟨RX7, Or.inl ⟨by decide, TX7, 5, rfl⟩, ?_, rfl, by decide +kernel, by decide +kernel, by decide +kernel⟩
  exact zV5 (zGT_in 1083 (by decide +kernel) rfl) (zGT_in 1084 (by decide +kernel) rfl) (zGT_in 1085 (by decide +kernel) rfl) (zGT_in 101 (by decide +kernel) rfl) (zGT_in 1086 (by decide +kernel) rfl)
theorem zc_L_54 : zCV RL 54 yX7_countedAt cX7_countedAt 4 (some .int) 7 2 := by
  refine ⟨RX7, Or.inl ⟨by decide, TX7, 5, rfl⟩, ?_, rfl, by decide +kernel, by decide +kernel, by decide +kernel⟩
  exact zV5 (zGT_in 1092 (by decide +kernel) rfl) (zGT_in 1093 (by decide +kernel) rfl) (zGT_in 1094 (by decide +kernel) rfl) (zGT_in 101 (by decide +kernel) rfl) (zGT_in 1095 (by decide +kernel) rfl)
theorem zc_L_57 : zCV RL 57 yX7_wouldCount cX7_wouldCount 4 (some .int) 7 3 := by
  refine ⟨RX7, Or.inl ⟨by decide, TX7, 5, rfl⟩, ?_, rfl, by decide +kernel, by decide +kernel, by decide +kernel⟩
  exact zV5 (zGT_in 1099 (by decide +kernel) rfl) (zGT_in 1100 (by decide +kernel) rfl) (zGT_in 1101 (by decide +kernel) rfl) (zGT_in 101 (by decide +kernel) rfl) (zGT_in 1102 (by decide +kernel) rfl)
theorem zc_L_60 : zCV RL 60 yX7_isConfirmed cX7_isConfirmed 2 (some .boolean) 7 1 := by
  refine ⟨RX7, Or.inl ⟨by decide, TX7, 5, rfl⟩, ?_, rfl, by decide +kernel, by decide +kernel, by decide +kernel⟩
  exact zV5 (zGT_in 1107 (by decide +kernel) rfl) (zGT_in 1108 (by decide +kernel) rfl) (zGT_in 1109 (by decide +kernel) rfl) (zGT_in 101 (by decide +kernel) rfl) (zGT_in 1110 (by decide +kernel) rfl)
theorem zc_L_63 : zCV RL 63 yX7_result cX7_result 4 (some .int) 7 2 := by
  refine ⟨RX7, Or.inl ⟨by decide, TX7, 5, rfl⟩, ?_, rfl, by decide +kernel, by decide +kernel, by decide +kernel⟩
  exact zV5 (zGT_in 1114 (by decide +kernel) rfl) (zGT_in 1115 (by decide +kernel) rfl) (zGT_in 1116 (by decide +kernel) rfl) (zGT_in 101 (by decide +kernel) rfl) (zGT_in 1117 (by decide +kernel) rfl)
theorem zc_L_66 : zCV RL 66 yX7_surplus cX7_surplus 2 (some .int) 7 1 := by
  refine ⟨RX7, Or.inl ⟨by decide, TX7, 5, rfl⟩, ?_, rfl, by decide +kernel, by decide +kernel, by decide +kernel⟩
  exact zV5 (zGT_in 1122 (by decide +kernel) rfl) (zGT_in 1123 (by decide +kernel) rfl) (zGT_in 1124 (by decide +kernel) rfl) (zGT_in 101 (by decide +kernel) rfl) (zGT_in 1125 (by decide +kernel) rfl)
theorem zc_L_69 : zCV RL 69 yX7_isOff cX7_isOff 2 (some .boolean) 7 1 := by
  refine ⟨RX7, Or.inl ⟨by decide, TX7, 5, rfl⟩, ?_, rfl, by decide +kernel, by decide +kernel, by decide +kernel⟩
  exact zV5 (zGT_in 1130 (by decide +kernel) rfl) (zGT_in 1131 (by decide +kernel) rfl) (zGT_in 1132 (by decide +kernel) rfl) (zGT_in 101 (by decide +kernel) rfl) (zGT_in 1133 (by decide +kernel) rfl)
theorem zc_L_72 : zCV RL 72 yX7_wardVotes cX7_wardVotes 3 (some .int) 7 2 := by
  refine ⟨RX7, Or.inl ⟨by decide, TX7, 5, rfl⟩, ?_, rfl, by decide +kernel, by decide +kernel, by decide +kernel⟩
  exact zV5 (zGT_in 1138 (by decide +kernel) rfl) (zGT_in 1139 (by decide +kernel) rfl) (zGT_in 1140 (by decide +kernel) rfl) (zGT_in 101 (by decide +kernel) rfl) (zGT_in 1141 (by decide +kernel) rfl)
theorem zc_L_75 : zCV RL 75 yX7_leader cX7_leader 2 (some .int) 7 1 := by
  refine ⟨RX7, Or.inl ⟨by decide, TX7, 5, rfl⟩, ?_, rfl, by decide +kernel, by decide +kernel, by decide +kernel⟩
  exact zV5 (zGT_in 1146 (by decide +kernel) rfl) (zGT_in 1147 (by decide +kernel) rfl) (zGT_in 1148 (by decide +kernel) rfl) (zGT_in 101 (by decide +kernel) rfl) (zGT_in 1149 (by decide +kernel) rfl)
theorem zc_L_78 : zCV RL 78 yX7_margin cX7_margin 2 (some .int) 7 1 := by
  refine ⟨RX7, Or.inl ⟨by decide, TX7, 5, rfl⟩, ?_, rfl, by decide +kernel, by decide +kernel, by decide +kernel⟩
  exact zV5 (zGT_in 1157 (by decide +kernel) rfl) (zGT_in 1158 (by decide +kernel) rfl) (zGT_in 1159 (by decide +kernel) rfl) (zGT_in 101 (by decide +kernel) rfl) (zGT_in 1160 (by decide +kernel) rfl)
theorem zc_L_81 : zCV RL 81 yX7_isClose cX7_isClose 2 (some .boolean) 7 1 := by
  refine ⟨RX7, Or.inl ⟨by decide, TX7, 5, rfl⟩, ?_, rfl, by decide +kernel, by decide +kernel, by decide +kernel⟩
  exact zV5 (zGT_in 1165 (by decide +kernel) rfl) (zGT_in 1166 (by decide +kernel) rfl) (zGT_in 1167 (by decide +kernel) rfl) (zGT_in 101 (by decide +kernel) rfl) (zGT_in 1168 (by decide +kernel) rfl)
theorem zc_L_84 : zCV RL 84 yX7_whyNot cX7_whyNot 2 (some .int) 7 1 := by
  refine ⟨RX7, Or.inl ⟨by decide, TX7, 5, rfl⟩, ?_, rfl, by decide +kernel, by decide +kernel, by decide +kernel⟩
  exact zV5 (zGT_in 1173 (by decide +kernel) rfl) (zGT_in 1174 (by decide +kernel) rfl) (zGT_in 1175 (by decide +kernel) rfl) (zGT_in 101 (by decide +kernel) rfl) (zGT_in 1176 (by decide +kernel) rfl)
theorem zc_L_87 : zCV RL 87 yX7_countsLeft cX7_countsLeft 2 (some .int) 7 1 := by
  refine ⟨RX7, Or.inl ⟨by decide, TX7, 5, rfl⟩, ?_, rfl, by decide +kernel, by decide +kernel, by decide +kernel⟩
  exact zV5 (zGT_in 1181 (by decide +kernel) rfl) (zGT_in 1182 (by decide +kernel) rfl) (zGT_in 1183 (by decide +kernel) rfl) (zGT_in 101 (by decide +kernel) rfl) (zGT_in 1184 (by decide +kernel) rfl)
theorem zc_L_90 : zCV RL 90 yX7_rightTable cX7_rightTable 3 (some .int) 7 1 := by
  refine ⟨RX7, Or.inl ⟨by decide, TX7, 5, rfl⟩, ?_, rfl, by decide +kernel, by decide +kernel, by decide +kernel⟩
  exact zV5 (zGT_in 1209 (by decide +kernel) rfl) (zGT_in 1210 (by decide +kernel) rfl) (zGT_in 1211 (by decide +kernel) rfl) (zGT_in 101 (by decide +kernel) rfl) (zGT_in 1212 (by decide +kernel) rfl)
theorem zc_L_93 : zCV RL 93 yX7_isRegionDeclared cX7_isRegionDeclared 2 (some .boolean) 7 1 := by
  refine ⟨RX7, Or.inl ⟨by decide, TX7, 5, rfl⟩, ?_, rfl, by decide +kernel, by decide +kernel, by decide +kernel⟩
  exact zV5 (zGT_in 1220 (by decide +kernel) rfl) (zGT_in 1221 (by decide +kernel) rfl) (zGT_in 1222 (by decide +kernel) rfl) (zGT_in 101 (by decide +kernel) rfl) (zGT_in 1223 (by decide +kernel) rfl)
theorem zc_L_96 : zCV RL 96 yX7_regionVotes cX7_regionVotes 3 (some .int) 7 2 := by
  refine ⟨RX7, Or.inl ⟨by decide, TX7, 5, rfl⟩, ?_, rfl, by decide +kernel, by decide +kernel, by decide +kernel⟩
  exact zV5 (zGT_in 1232 (by decide +kernel) rfl) (zGT_in 1233 (by decide +kernel) rfl) (zGT_in 1234 (by decide +kernel) rfl) (zGT_in 101 (by decide +kernel) rfl) (zGT_in 1235 (by decide +kernel) rfl)
theorem zc_L_99 : zCV RL 99 yX7_regionSeats cX7_regionSeats 3 (some .int) 7 2 := by
  refine ⟨RX7, Or.inl ⟨by decide, TX7, 5, rfl⟩, ?_, rfl, by decide +kernel, by decide +kernel, by decide +kernel⟩
  exact zV5 (zGT_in 1243 (by decide +kernel) rfl) (zGT_in 1244 (by decide +kernel) rfl) (zGT_in 1245 (by decide +kernel) rfl) (zGT_in 101 (by decide +kernel) rfl) (zGT_in 1246 (by decide +kernel) rfl)
theorem zc_L_102 : zCV RL 102 yX7_isDecided cX7_isDecided 3 (some .boolean) 7 1 := by
  refine ⟨RX7, Or.inl ⟨by decide, TX7, 5, rfl⟩, ?_, rfl, by decide +kernel, by decide +kernel, by decide +kernel⟩
  exact zV5 (zGT_in 1255 (by decide +kernel) rfl) (zGT_in 1256 (by decide +kernel) rfl) (zGT_in 1257 (by decide +kernel) rfl) (zGT_in 101 (by decide +kernel) rfl) (zGT_in 1258 (by decide +kernel) rfl)
theorem zc_L_105 : zCV RL 105 yX7_write cX7_write 3 (some .int) 7 1 := by
  refine ⟨RX7, Or.inl ⟨by decide, TX7, 5, rfl⟩, ?_, rfl, by decide +kernel, by decide +kernel, by decide +kernel⟩
  exact zV5 (zGT_in 1268 (by decide +kernel) rfl) (zGT_in 1269 (by decide +kernel) rfl) (zGT_in 1270 (by decide +kernel) rfl) (zGT_in 101 (by decide +kernel) rfl) (zGT_in 1271 (by decide +kernel) rfl)
theorem zc_L_112 : zCV RL 112 yX7_feed cX7_feed 7 (some .int) 7 5 := by
  refine ⟨RX7, Or.inl ⟨by decide, TX7, 5, rfl⟩, ?_, rfl, by decide +kernel, by decide +kernel, by decide +kernel⟩
  exact zV5 (zGT_in 412 (by decide +kernel) rfl) (zGT_in 413 (by decide +kernel) rfl) (zGT_in 414 (by decide +kernel) rfl) (zGT_in 101 (by decide +kernel) rfl) (zGT_in 415 (by decide +kernel) rfl)
theorem zc_L_116 : zCV RL 116 yX8_feed cX8_feed 8 (some .int) 8 5 := by
  refine ⟨RX8, Or.inl ⟨by decide, TX8, 21, rfl⟩, ?_, rfl, by decide +kernel, by decide +kernel, by decide +kernel⟩
  exact zV5 (zGT_in 1599 (by decide +kernel) rfl) (zGT_in 1600 (by decide +kernel) rfl) (zGT_in 1601 (by decide +kernel) rfl) (zGT_in 113 (by decide +kernel) rfl) (zGT_in 1602 (by decide +kernel) rfl)
theorem zc_L_117 : zCV RL 117 yX7_load cX7_load 3 (some .int) 7 1 := by
  refine ⟨RX7, Or.inl ⟨by decide, TX7, 5, rfl⟩, ?_, rfl, by decide +kernel, by decide +kernel, by decide +kernel⟩
  exact zV5 (zGT_in 420 (by decide +kernel) rfl) (zGT_in 421 (by decide +kernel) rfl) (zGT_in 422 (by decide +kernel) rfl) (zGT_in 101 (by decide +kernel) rfl) (zGT_in 423 (by decide +kernel) rfl)
theorem zc_L_120 : zCV RL 120 yX8_load cX8_load 2 (some .int) 8 1 := by
  refine ⟨RX8, Or.inl ⟨by decide, TX8, 21, rfl⟩, ?_, rfl, by decide +kernel, by decide +kernel, by decide +kernel⟩
  exact zV5 (zGT_in 1603 (by decide +kernel) rfl) (zGT_in 1604 (by decide +kernel) rfl) (zGT_in 1605 (by decide +kernel) rfl) (zGT_in 113 (by decide +kernel) rfl) (zGT_in 1606 (by decide +kernel) rfl)
theorem zc_L_121 : zCV RL 121 yX7_errorPosition cX7_errorPosition 1 (some .int) 7 0 := by
  refine ⟨RX7, Or.inl ⟨by decide, TX7, 5, rfl⟩, ?_, rfl, by decide +kernel, by decide +kernel, by decide +kernel⟩
  exact zV5 (zGT_in 621 (by decide +kernel) rfl) (zGT_in 622 (by decide +kernel) rfl) (zGT_in 623 (by decide +kernel) rfl) (zGT_in 101 (by decide +kernel) rfl) (zGT_in 624 (by decide +kernel) rfl)
theorem zc_L_125 : zCV RL 125 yX8_errorPosition cX8_errorPosition 1 (some .int) 8 0 := by
  refine ⟨RX8, Or.inl ⟨by decide, TX8, 21, rfl⟩, ?_, rfl, by decide +kernel, by decide +kernel, by decide +kernel⟩
  exact zV5 (zGT_in 1707 (by decide +kernel) rfl) (zGT_in 1708 (by decide +kernel) rfl) (zGT_in 1709 (by decide +kernel) rfl) (zGT_in 113 (by decide +kernel) rfl) (zGT_in 1710 (by decide +kernel) rfl)
theorem zc_L_126 : zCV RL 126 yX7_count cX7_count 2 (some .int) 7 1 := by
  refine ⟨RX7, Or.inl ⟨by decide, TX7, 5, rfl⟩, ?_, rfl, by decide +kernel, by decide +kernel, by decide +kernel⟩
  exact zV5 (zGT_in 625 (by decide +kernel) rfl) (zGT_in 626 (by decide +kernel) rfl) (zGT_in 627 (by decide +kernel) rfl) (zGT_in 101 (by decide +kernel) rfl) (zGT_in 628 (by decide +kernel) rfl)
theorem zc_L_129 : zCV RL 129 yX8_count cX8_count 2 (some .int) 8 1 := by
  refine ⟨RX8, Or.inl ⟨by decide, TX8, 21, rfl⟩, ?_, rfl, by decide +kernel, by decide +kernel, by decide +kernel⟩
  exact zV5 (zGT_in 1711 (by decide +kernel) rfl) (zGT_in 1712 (by decide +kernel) rfl) (zGT_in 1713 (by decide +kernel) rfl) (zGT_in 113 (by decide +kernel) rfl) (zGT_in 1714 (by decide +kernel) rfl)
theorem zc_L_130 : zCV RL 130 yX7_undoCount cX7_undoCount 1 (some .int) 7 0 := by
  refine ⟨RX7, Or.inl ⟨by decide, TX7, 5, rfl⟩, ?_, rfl, by decide +kernel, by decide +kernel, by decide +kernel⟩
  exact zV5 (zGT_in 629 (by decide +kernel) rfl) (zGT_in 630 (by decide +kernel) rfl) (zGT_in 631 (by decide +kernel) rfl) (zGT_in 101 (by decide +kernel) rfl) (zGT_in 632 (by decide +kernel) rfl)
theorem zc_L_133 : zCV RL 133 yX8_undoCount cX8_undoCount 1 (some .int) 8 0 := by
  refine ⟨RX8, Or.inl ⟨by decide, TX8, 21, rfl⟩, ?_, rfl, by decide +kernel, by decide +kernel, by decide +kernel⟩
  exact zV5 (zGT_in 1715 (by decide +kernel) rfl) (zGT_in 1716 (by decide +kernel) rfl) (zGT_in 1717 (by decide +kernel) rfl) (zGT_in 113 (by decide +kernel) rfl) (zGT_in 1718 (by decide +kernel) rfl)
theorem zc_L_134 : zCV RL 134 yX7_named cX7_named 3 (some .int) 7 2 := by
  refine ⟨RX7, Or.inl ⟨by decide, TX7, 5, rfl⟩, ?_, rfl, by decide +kernel, by decide +kernel, by decide +kernel⟩
  exact zV5 (zGT_in 633 (by decide +kernel) rfl) (zGT_in 634 (by decide +kernel) rfl) (zGT_in 635 (by decide +kernel) rfl) (zGT_in 101 (by decide +kernel) rfl) (zGT_in 636 (by decide +kernel) rfl)
theorem zc_L_137 : zCV RL 137 yX8_named cX8_named 3 (some .int) 8 2 := by
  refine ⟨RX8, Or.inl ⟨by decide, TX8, 21, rfl⟩, ?_, rfl, by decide +kernel, by decide +kernel, by decide +kernel⟩
  exact zV5 (zGT_in 1719 (by decide +kernel) rfl) (zGT_in 1720 (by decide +kernel) rfl) (zGT_in 1721 (by decide +kernel) rfl) (zGT_in 113 (by decide +kernel) rfl) (zGT_in 1722 (by decide +kernel) rfl)
theorem zc_L_138 : zCV RL 138 yX7_getSetting cX7_getSetting 2 (some .int) 7 1 := by
  refine ⟨RX7, Or.inl ⟨by decide, TX7, 5, rfl⟩, ?_, rfl, by decide +kernel, by decide +kernel, by decide +kernel⟩
  exact zV5 (zGT_in 638 (by decide +kernel) rfl) (zGT_in 639 (by decide +kernel) rfl) (zGT_in 640 (by decide +kernel) rfl) (zGT_in 101 (by decide +kernel) rfl) (zGT_in 641 (by decide +kernel) rfl)
theorem zc_L_141 : zCV RL 141 yX8_getSetting cX8_getSetting 2 (some .int) 8 1 := by
  refine ⟨RX8, Or.inl ⟨by decide, TX8, 21, rfl⟩, ?_, rfl, by decide +kernel, by decide +kernel, by decide +kernel⟩
  exact zV5 (zGT_in 1723 (by decide +kernel) rfl) (zGT_in 1724 (by decide +kernel) rfl) (zGT_in 1725 (by decide +kernel) rfl) (zGT_in 113 (by decide +kernel) rfl) (zGT_in 1726 (by decide +kernel) rfl)
theorem ze_L_142 : zCE RL 142 yL_regionAround cL_regionAround 4 (some .int) [(0, 9, 12, 13)] 3 := by
  refine ⟨?_, by decide +kernel, by decide +kernel, by decide +kernel⟩
  exact zS4 (zGT_in 911 (by decide +kernel) rfl) (zGT_in 912 (by decide +kernel) rfl) (zGT_in 100 (by decide +kernel) rfl) (zGT_in 913 (by decide +kernel) rfl)
theorem zc_L_147 : zCV RL 147 yX8_regionAround cX8_regionAround 2 (some .int) 8 1 := by
  refine ⟨RX8, Or.inl ⟨by decide, TX8, 21, rfl⟩, ?_, rfl, by decide +kernel, by decide +kernel, by decide +kernel⟩
  exact zV5 (zGT_in 1730 (by decide +kernel) rfl) (zGT_in 1731 (by decide +kernel) rfl) (zGT_in 1732 (by decide +kernel) rfl) (zGT_in 113 (by decide +kernel) rfl) (zGT_in 1733 (by decide +kernel) rfl)
theorem zc_L_148 : zCV RL 148 yX8_thrown cX8_thrown 1 (some .int) 8 0 := by
  refine ⟨RX8, Or.inl ⟨by decide, TX8, 21, rfl⟩, ?_, rfl, by decide +kernel, by decide +kernel, by decide +kernel⟩
  exact zV5 (zGT_in 1595 (by decide +kernel) rfl) (zGT_in 1596 (by decide +kernel) rfl) (zGT_in 1597 (by decide +kernel) rfl) (zGT_in 113 (by decide +kernel) rfl) (zGT_in 1598 (by decide +kernel) rfl)
theorem ze_L_151 : zCE RL 151 yL_regionOf cL_regionOf 4 (some .int) [(0, 9, 12, 13)] 3 := by
  refine ⟨?_, by decide +kernel, by decide +kernel, by decide +kernel⟩
  exact zS4 (zGT_in 990 (by decide +kernel) rfl) (zGT_in 991 (by decide +kernel) rfl) (zGT_in 100 (by decide +kernel) rfl) (zGT_in 992 (by decide +kernel) rfl)
theorem zc_L_153 : zCV RL 153 yX8_regionOf cX8_regionOf 2 (some .int) 8 1 := by
  refine ⟨RX8, Or.inl ⟨by decide, TX8, 21, rfl⟩, ?_, rfl, by decide +kernel, by decide +kernel, by decide +kernel⟩
  exact zV5 (zGT_in 1742 (by decide +kernel) rfl) (zGT_in 1743 (by decide +kernel) rfl) (zGT_in 1744 (by decide +kernel) rfl) (zGT_in 113 (by decide +kernel) rfl) (zGT_in 1745 (by decide +kernel) rfl)
theorem ze_L_154 : zCE RL 154 yL_wardsIn cL_wardsIn 4 (some .int) [(0, 9, 12, 13)] 3 := by
  refine ⟨?_, by decide +kernel, by decide +kernel, by decide +kernel⟩
  exact zS4 (zGT_in 997 (by decide +kernel) rfl) (zGT_in 998 (by decide +kernel) rfl) (zGT_in 100 (by decide +kernel) rfl) (zGT_in 999 (by decide +kernel) rfl)
theorem zc_L_156 : zCV RL 156 yX8_wardsIn cX8_wardsIn 4 (some .int) 8 1 := by
  refine ⟨RX8, Or.inl ⟨by decide, TX8, 21, rfl⟩, ?_, rfl, by decide +kernel, by decide +kernel, by decide +kernel⟩
  exact zV5 (zGT_in 1746 (by decide +kernel) rfl) (zGT_in 1747 (by decide +kernel) rfl) (zGT_in 1748 (by decide +kernel) rfl) (zGT_in 113 (by decide +kernel) rfl) (zGT_in 1749 (by decide +kernel) rfl)
theorem ze_L_157 : zCE RL 157 yL_depthOf cL_depthOf 4 (some .int) [(0, 9, 12, 13)] 3 := by
  refine ⟨?_, by decide +kernel, by decide +kernel, by decide +kernel⟩
  exact zS4 (zGT_in 1009 (by decide +kernel) rfl) (zGT_in 1010 (by decide +kernel) rfl) (zGT_in 100 (by decide +kernel) rfl) (zGT_in 1011 (by decide +kernel) rfl)
theorem zc_L_159 : zCV RL 159 yX8_depthOf cX8_depthOf 4 (some .int) 8 1 := by
  refine ⟨RX8, Or.inl ⟨by decide, TX8, 21, rfl⟩, ?_, rfl, by decide +kernel, by decide +kernel, by decide +kernel⟩
  exact zV5 (zGT_in 1758 (by decide +kernel) rfl) (zGT_in 1759 (by decide +kernel) rfl) (zGT_in 1760 (by decide +kernel) rfl) (zGT_in 113 (by decide +kernel) rfl) (zGT_in 1761 (by decide +kernel) rfl)
theorem ze_L_160 : zCE RL 160 yL_boxProperty cL_boxProperty 5 (some .int) [(0, 10, 13, 13)] 4 := by
  refine ⟨?_, by decide +kernel, by decide +kernel, by decide +kernel⟩
  exact zS4 (zGT_in 1020 (by decide +kernel) rfl) (zGT_in 1021 (by decide +kernel) rfl) (zGT_in 100 (by decide +kernel) rfl) (zGT_in 1022 (by decide +kernel) rfl)
theorem zc_L_163 : zCV RL 163 yX8_boxProperty cX8_boxProperty 3 (some .int) 8 2 := by
  refine ⟨RX8, Or.inl ⟨by decide, TX8, 21, rfl⟩, ?_, rfl, by decide +kernel, by decide +kernel, by decide +kernel⟩
  exact zV5 (zGT_in 1762 (by decide +kernel) rfl) (zGT_in 1763 (by decide +kernel) rfl) (zGT_in 1764 (by decide +kernel) rfl) (zGT_in 113 (by decide +kernel) rfl) (zGT_in 1765 (by decide +kernel) rfl)
theorem ze_L_164 : zCE RL 164 yL_placeOf cL_placeOf 4 (some .int) [(0, 9, 12, 13)] 3 := by
  refine ⟨?_, by decide +kernel, by decide +kernel, by decide +kernel⟩
  exact zS4 (zGT_in 1027 (by decide +kernel) rfl) (zGT_in 1028 (by decide +kernel) rfl) (zGT_in 100 (by decide +kernel) rfl) (zGT_in 1029 (by decide +kernel) rfl)
theorem zc_L_166 : zCV RL 166 yX8_placeOf cX8_placeOf 2 (some .int) 8 1 := by
  refine ⟨RX8, Or.inl ⟨by decide, TX8, 21, rfl⟩, ?_, rfl, by decide +kernel, by decide +kernel, by decide +kernel⟩
  exact zV5 (zGT_in 1770 (by decide +kernel) rfl) (zGT_in 1771 (by decide +kernel) rfl) (zGT_in 1772 (by decide +kernel) rfl) (zGT_in 113 (by decide +kernel) rfl) (zGT_in 1773 (by decide +kernel) rfl)
theorem ze_L_167 : zCE RL 167 yL_papers cL_papers 5 (some .int) [(0, 10, 13, 13)] 4 := by
  refine ⟨?_, by decide +kernel, by decide +kernel, by decide +kernel⟩
  exact zS4 (zGT_in 1034 (by decide +kernel) rfl) (zGT_in 1035 (by decide +kernel) rfl) (zGT_in 100 (by decide +kernel) rfl) (zGT_in 1036 (by decide +kernel) rfl)
theorem zc_L_169 : zCV RL 169 yX8_papers cX8_papers 3 (some .int) 8 2 := by
  refine ⟨RX8, Or.inl ⟨by decide, TX8, 21, rfl⟩, ?_, rfl, by decide +kernel, by decide +kernel, by decide +kernel⟩
  exact zV5 (zGT_in 1774 (by decide +kernel) rfl) (zGT_in 1775 (by decide +kernel) rfl) (zGT_in 1776 (by decide +kernel) rfl) (zGT_in 113 (by decide +kernel) rfl) (zGT_in 1777 (by decide +kernel) rfl)
theorem ze_L_170 : zCE RL 170 yL_isSealGood cL_isSealGood 4 (some .int) [(0, 16, 19, 13)] 3 := by
  refine ⟨?_, by decide +kernel, by decide +kernel, by decide +kernel⟩
  exact zS4 (zGT_in 1045 (by decide +kernel) rfl) (zGT_in 1046 (by decide +kernel) rfl) (zGT_in 100 (by decide +kernel) rfl) (zGT_in 1047 (by decide +kernel) rfl)
theorem zc_L_172 : zCV RL 172 yX8_isSealGood cX8_isSealGood 2 (some .boolean) 8 1 := by
  refine ⟨RX8, Or.inl ⟨by decide, TX8, 21, rfl⟩, ?_, rfl, by decide +kernel, by decide +kernel, by decide +kernel⟩
  exact zV5 (zGT_in 1786 (by decide +kernel) rfl) (zGT_in 1787 (by decide +kernel) rfl) (zGT_in 1788 (by decide +kernel) rfl) (zGT_in 113 (by decide +kernel) rfl) (zGT_in 1789 (by decide +kernel) rfl)
theorem ze_L_173 : zCE RL 173 yL_ledgerSize cL_ledgerSize 4 (some .int) [(0, 9, 12, 13)] 3 := by
  refine ⟨?_, by decide +kernel, by decide +kernel, by decide +kernel⟩
  exact zS4 (zGT_in 1052 (by decide +kernel) rfl) (zGT_in 1053 (by decide +kernel) rfl) (zGT_in 100 (by decide +kernel) rfl) (zGT_in 1054 (by decide +kernel) rfl)
theorem zc_L_175 : zCV RL 175 yX8_ledgerSize cX8_ledgerSize 2 (some .int) 8 1 := by
  refine ⟨RX8, Or.inl ⟨by decide, TX8, 21, rfl⟩, ?_, rfl, by decide +kernel, by decide +kernel, by decide +kernel⟩
  exact zV5 (zGT_in 1798 (by decide +kernel) rfl) (zGT_in 1799 (by decide +kernel) rfl) (zGT_in 1800 (by decide +kernel) rfl) (zGT_in 113 (by decide +kernel) rfl) (zGT_in 1801 (by decide +kernel) rfl)
theorem ze_L_176 : zCE RL 176 yL_ledger cL_ledger 5 (some .int) [(0, 10, 13, 13)] 4 := by
  refine ⟨?_, by decide +kernel, by decide +kernel, by decide +kernel⟩
  exact zS4 (zGT_in 1059 (by decide +kernel) rfl) (zGT_in 1060 (by decide +kernel) rfl) (zGT_in 100 (by decide +kernel) rfl) (zGT_in 1061 (by decide +kernel) rfl)
theorem zc_L_178 : zCV RL 178 yX8_ledger cX8_ledger 3 (some .int) 8 2 := by
  refine ⟨RX8, Or.inl ⟨by decide, TX8, 21, rfl⟩, ?_, rfl, by decide +kernel, by decide +kernel, by decide +kernel⟩
  exact zV5 (zGT_in 1802 (by decide +kernel) rfl) (zGT_in 1803 (by decide +kernel) rfl) (zGT_in 1804 (by decide +kernel) rfl) (zGT_in 113 (by decide +kernel) rfl) (zGT_in 1805 (by decide +kernel) rfl)
theorem ze_L_179 : zCE RL 179 yL_boxAt cL_boxAt 4 (some .int) [(0, 9, 12, 13)] 3 := by
  refine ⟨?_, by decide +kernel, by decide +kernel, by decide +kernel⟩
  exact zS4 (zGT_in 1066 (by decide +kernel) rfl) (zGT_in 1067 (by decide +kernel) rfl) (zGT_in 100 (by decide +kernel) rfl) (zGT_in 1068 (by decide +kernel) rfl)
theorem zc_L_181 : zCV RL 181 yX8_boxAt cX8_boxAt 2 (some .int) 8 1 := by
  refine ⟨RX8, Or.inl ⟨by decide, TX8, 21, rfl⟩, ?_, rfl, by decide +kernel, by decide +kernel, by decide +kernel⟩
  exact zV5 (zGT_in 1806 (by decide +kernel) rfl) (zGT_in 1807 (by decide +kernel) rfl) (zGT_in 1808 (by decide +kernel) rfl) (zGT_in 113 (by decide +kernel) rfl) (zGT_in 1809 (by decide +kernel) rfl)
theorem ze_L_182 : zCE RL 182 yL_slipOf cL_slipOf 4 (some .int) [(0, 9, 12, 13)] 3 := by
  refine ⟨?_, by decide +kernel, by decide +kernel, by decide +kernel⟩
  exact zS4 (zGT_in 1073 (by decide +kernel) rfl) (zGT_in 1074 (by decide +kernel) rfl) (zGT_in 100 (by decide +kernel) rfl) (zGT_in 1075 (by decide +kernel) rfl)
theorem zc_L_184 : zCV RL 184 yX8_slipOf cX8_slipOf 2 (some .int) 8 1 := by
  refine ⟨RX8, Or.inl ⟨by decide, TX8, 21, rfl⟩, ?_, rfl, by decide +kernel, by decide +kernel, by decide +kernel⟩
  exact zV5 (zGT_in 1814 (by decide +kernel) rfl) (zGT_in 1815 (by decide +kernel) rfl) (zGT_in 1816 (by decide +kernel) rfl) (zGT_in 113 (by decide +kernel) rfl) (zGT_in 1817 (by decide +kernel) rfl)
theorem ze_L_185 : zCE RL 185 yL_counted cL_counted 6 (some .int) [(0, 12, 15, 13)] 5 := by
  refine ⟨?_, by decide +kernel, by decide +kernel, by decide +kernel⟩
  exact zS4 (zGT_in 1080 (by decide +kernel) rfl) (zGT_in 1081 (by decide +kernel) rfl) (zGT_in 100 (by decide +kernel) rfl) (zGT_in 1082 (by decide +kernel) rfl)
theorem zc_L_188 : zCV RL 188 yX8_counted cX8_counted 4 (some .int) 8 3 := by
  refine ⟨RX8, Or.inl ⟨by decide, TX8, 21, rfl⟩, ?_, rfl, by decide +kernel, by decide +kernel, by decide +kernel⟩
  exact zV5 (zGT_in 1818 (by decide +kernel) rfl) (zGT_in 1819 (by decide +kernel) rfl) (zGT_in 1820 (by decide +kernel) rfl) (zGT_in 113 (by decide +kernel) rfl) (zGT_in 1821 (by decide +kernel) rfl)
theorem ze_L_189 : zCE RL 189 yL_countedAt cL_countedAt 5 (some .int) [(0, 10, 13, 13)] 4 := by
  refine ⟨?_, by decide +kernel, by decide +kernel, by decide +kernel⟩
  exact zS4 (zGT_in 1089 (by decide +kernel) rfl) (zGT_in 1090 (by decide +kernel) rfl) (zGT_in 100 (by decide +kernel) rfl) (zGT_in 1091 (by decide +kernel) rfl)
theorem zc_L_191 : zCV RL 191 yX8_countedAt cX8_countedAt 3 (some .int) 8 2 := by
  refine ⟨RX8, Or.inl ⟨by decide, TX8, 21, rfl⟩, ?_, rfl, by decide +kernel, by decide +kernel, by decide +kernel⟩
  exact zV5 (zGT_in 1830 (by decide +kernel) rfl) (zGT_in 1831 (by decide +kernel) rfl) (zGT_in 1832 (by decide +kernel) rfl) (zGT_in 113 (by decide +kernel) rfl) (zGT_in 1833 (by decide +kernel) rfl)
theorem ze_L_192 : zCE RL 192 yL_wouldCount cL_wouldCount 6 (some .int) [(0, 12, 15, 13)] 5 := by
  refine ⟨?_, by decide +kernel, by decide +kernel, by decide +kernel⟩
  exact zS4 (zGT_in 1096 (by decide +kernel) rfl) (zGT_in 1097 (by decide +kernel) rfl) (zGT_in 100 (by decide +kernel) rfl) (zGT_in 1098 (by decide +kernel) rfl)
theorem zc_L_194 : zCV RL 194 yX8_wouldCount cX8_wouldCount 4 (some .int) 8 3 := by
  refine ⟨RX8, Or.inl ⟨by decide, TX8, 21, rfl⟩, ?_, rfl, by decide +kernel, by decide +kernel, by decide +kernel⟩
  exact zV5 (zGT_in 1834 (by decide +kernel) rfl) (zGT_in 1835 (by decide +kernel) rfl) (zGT_in 1836 (by decide +kernel) rfl) (zGT_in 113 (by decide +kernel) rfl) (zGT_in 1837 (by decide +kernel) rfl)
theorem ze_L_195 : zCE RL 195 yL_isConfirmed cL_isConfirmed 4 (some .int) [(0, 16, 19, 13)] 3 := by
  refine ⟨?_, by decide +kernel, by decide +kernel, by decide +kernel⟩
  exact zS4 (zGT_in 1104 (by decide +kernel) rfl) (zGT_in 1105 (by decide +kernel) rfl) (zGT_in 100 (by decide +kernel) rfl) (zGT_in 1106 (by decide +kernel) rfl)
theorem zc_L_197 : zCV RL 197 yX8_isConfirmed cX8_isConfirmed 2 (some .boolean) 8 1 := by
  refine ⟨RX8, Or.inl ⟨by decide, TX8, 21, rfl⟩, ?_, rfl, by decide +kernel, by decide +kernel, by decide +kernel⟩
  exact zV5 (zGT_in 1846 (by decide +kernel) rfl) (zGT_in 1847 (by decide +kernel) rfl) (zGT_in 1848 (by decide +kernel) rfl) (zGT_in 113 (by decide +kernel) rfl) (zGT_in 1849 (by decide +kernel) rfl)
theorem ze_L_198 : zCE RL 198 yL_result cL_result 5 (some .int) [(0, 10, 13, 13)] 4 := by
  refine ⟨?_, by decide +kernel, by decide +kernel, by decide +kernel⟩
  exact zS4 (zGT_in 1111 (by decide +kernel) rfl) (zGT_in 1112 (by decide +kernel) rfl) (zGT_in 100 (by decide +kernel) rfl) (zGT_in 1113 (by decide +kernel) rfl)
theorem zc_L_200 : zCV RL 200 yX8_result cX8_result 3 (some .int) 8 2 := by
  refine ⟨RX8, Or.inl ⟨by decide, TX8, 21, rfl⟩, ?_, rfl, by decide +kernel, by decide +kernel, by decide +kernel⟩
  exact zV5 (zGT_in 1858 (by decide +kernel) rfl) (zGT_in 1859 (by decide +kernel) rfl) (zGT_in 1860 (by decide +kernel) rfl) (zGT_in 113 (by decide +kernel) rfl) (zGT_in 1861 (by decide +kernel) rfl)
theorem ze_L_201 : zCE RL 201 yL_surplus cL_surplus 4 (some .int) [(0, 9, 12, 13)] 3 := by
  refine ⟨?_, by decide +kernel, by decide +kernel, by decide +kernel⟩
  exact zS4 (zGT_in 1119 (by decide +kernel) rfl) (zGT_in 1120 (by decide +kernel) rfl) (zGT_in 100 (by decide +kernel) rfl) (zGT_in 1121 (by decide +kernel) rfl)
theorem zc_L_203 : zCV RL 203 yX8_surplus cX8_surplus 2 (some .int) 8 1 := by
  refine ⟨RX8, Or.inl ⟨by decide, TX8, 21, rfl⟩, ?_, rfl, by decide +kernel, by decide +kernel, by decide +kernel⟩
  exact zV5 (zGT_in 1870 (by decide +kernel) rfl) (zGT_in 1871 (by decide +kernel) rfl) (zGT_in 1872 (by decide +kernel) rfl) (zGT_in 113 (by decide +kernel) rfl) (zGT_in 1873 (by decide +kernel) rfl)
theorem ze_L_204 : zCE RL 204 yL_isOff cL_isOff 4 (some .int) [(0, 16, 19, 13)] 3 := by
  refine ⟨?_, by decide +kernel, by decide +kernel, by decide +kernel⟩
  exact zS4 (zGT_in 1127 (by decide +kernel) rfl) (zGT_in 1128 (by decide +kernel) rfl) (zGT_in 100 (by decide +kernel) rfl) (zGT_in 1129 (by decide +kernel) rfl)
theorem zc_L_206 : zCV RL 206 yX8_isOff cX8_isOff 2 (some .boolean) 8 1 := by
  refine ⟨RX8, Or.inl ⟨by decide, TX8, 21, rfl⟩, ?_, rfl, by decide +kernel, by decide +kernel, by decide +kernel⟩
  exact zV5 (zGT_in 1878 (by decide +kernel) rfl) (zGT_in 1879 (by decide +kernel) rfl) (zGT_in 1880 (by decide +kernel) rfl) (zGT_in 113 (by decide +kernel) rfl) (zGT_in 1881 (by decide +kernel) rfl)
theorem ze_L_207 : zCE RL 207 yL_wardVotes cL_wardVotes 5 (some .int) [(0, 10, 13, 13)] 4 := by
  refine ⟨?_, by decide +kernel, by decide +kernel, by decide +kernel⟩
  exact zS4 (zGT_in 1135 (by decide +kernel) rfl) (zGT_in 1136 (by decide +kernel) rfl) (zGT_in 100 (by decide +kernel) rfl) (zGT_in 1137 (by decide +kernel) rfl)
theorem zc_L_209 : zCV RL 209 yX8_wardVotes cX8_wardVotes 3 (some .int) 8 2 := by
  refine ⟨RX8, Or.inl ⟨by decide, TX8, 21, rfl⟩, ?_, rfl, by decide +kernel, by decide +kernel, by decide +kernel⟩
  exact zV5 (zGT_in 1887 (by decide +kernel) rfl) (zGT_in 1888 (by decide +kernel) rfl) (zGT_in 1889 (by decide +kernel) rfl) (zGT_in 113 (by decide +kernel) rfl) (zGT_in 1890 (by decide +kernel) rfl)
theorem ze_L_210 : zCE RL 210 yL_leader cL_leader 4 (some .int) [(0, 9, 12, 13)] 3 := by
  refine ⟨?_, by decide +kernel, by decide +kernel, by decide +kernel⟩
  exact zS4 (zGT_in 1143 (by decide +kernel) rfl) (zGT_in 1144 (by decide +kernel) rfl) (zGT_in 100 (by decide +kernel) rfl) (zGT_in 1145 (by decide +kernel) rfl)
theorem zc_L_212 : zCV RL 212 yX8_leader cX8_leader 2 (some .int) 8 1 := by
  refine ⟨RX8, Or.inl ⟨by decide, TX8, 21, rfl⟩, ?_, rfl, by decide +kernel, by decide +kernel, by decide +kernel⟩
  exact zV5 (zGT_in 1895 (by decide +kernel) rfl) (zGT_in 1896 (by decide +kernel) rfl) (zGT_in 1897 (by decide +kernel) rfl) (zGT_in 113 (by decide +kernel) rfl) (zGT_in 1898 (by decide +kernel) rfl)
theorem ze_L_213 : zCE RL 213 yL_margin cL_margin 4 (some .int) [(0, 9, 12, 13)] 3 := by
  refine ⟨?_, by decide +kernel, by decide +kernel, by decide +kernel⟩
  exact zS4 (zGT_in 1154 (by decide +kernel) rfl) (zGT_in 1155 (by decide +kernel) rfl) (zGT_in 100 (by decide +kernel) rfl) (zGT_in 1156 (by decide +kernel) rfl)
theorem zc_L_215 : zCV RL 215 yX8_margin cX8_margin 2 (some .int) 8 1 := by
  refine ⟨RX8, Or.inl ⟨by decide, TX8, 21, rfl⟩, ?_, rfl, by decide +kernel, by decide +kernel, by decide +kernel⟩
  exact zV5 (zGT_in 1904 (by decide +kernel) rfl) (zGT_in 1905 (by decide +kernel) rfl) (zGT_in 1906 (by decide +kernel) rfl) (zGT_in 113 (by decide +kernel) rfl) (zGT_in 1907 (by decide +kernel) rfl)
theorem ze_L_216 : zCE RL 216 yL_isClose cL_isClose 4 (some .int) [(0, 16, 19, 13)] 3 := by
  refine ⟨?_, by decide +kernel, by decide +kernel, by decide +kernel⟩
  exact zS4 (zGT_in 1162 (by decide +kernel) rfl) (zGT_in 1163 (by decide +kernel) rfl) (zGT_in 100 (by decide +kernel) rfl) (zGT_in 1164 (by decide +kernel) rfl)
theorem zc_L_218 : zCV RL 218 yX8_isClose cX8_isClose 2 (some .boolean) 8 1 := by
  refine ⟨RX8, Or.inl ⟨by decide, TX8, 21, rfl⟩, ?_, rfl, by decide +kernel, by decide +kernel, by decide +kernel⟩
  exact zV5 (zGT_in 1912 (by decide +kernel) rfl) (zGT_in 1913 (by decide +kernel) rfl) (zGT_in 1914 (by decide +kernel) rfl) (zGT_in 113 (by decide +kernel) rfl) (zGT_in 1915 (by decide +kernel) rfl)
theorem ze_L_219 : zCE RL 219 yL_whyNot cL_whyNot 4 (some .int) [(0, 9, 12, 13)] 3 := by
  refine ⟨?_, by decide +kernel, by decide +kernel, by decide +kernel⟩
  exact zS4 (zGT_in 1170 (by decide +kernel) rfl) (zGT_in 1171 (by decide +kernel) rfl) (zGT_in 100 (by decide +kernel) rfl) (zGT_in 1172 (by decide +kernel) rfl)
theorem zc_L_221 : zCV RL 221 yX8_whyNot cX8_whyNot 2 (some .int) 8 1 := by
  refine ⟨RX8, Or.inl ⟨by decide, TX8, 21, rfl⟩, ?_, rfl, by decide +kernel, by decide +kernel, by decide +kernel⟩
  exact zV5 (zGT_in 1924 (by decide +kernel) rfl) (zGT_in 1925 (by decide +kernel) rfl) (zGT_in 1926 (by decide +kernel) rfl) (zGT_in 113 (by decide +kernel) rfl) (zGT_in 1927 (by decide +kernel) rfl)
theorem zc_L_222 : zCV RL 222 yX7_toCount cX7_toCount 1 (some .int) 7 0 := by
  refine ⟨RX7, Or.inl ⟨by decide, TX7, 5, rfl⟩, ?_, rfl, by decide +kernel, by decide +kernel, by decide +kernel⟩
  exact zV5 (zGT_in 645 (by decide +kernel) rfl) (zGT_in 646 (by decide +kernel) rfl) (zGT_in 647 (by decide +kernel) rfl) (zGT_in 101 (by decide +kernel) rfl) (zGT_in 648 (by decide +kernel) rfl)
theorem zc_L_225 : zCV RL 225 yX8_toCount cX8_toCount 1 (some .int) 8 0 := by
  refine ⟨RX8, Or.inl ⟨by decide, TX8, 21, rfl⟩, ?_, rfl, by decide +kernel, by decide +kernel, by decide +kernel⟩
  exact zV5 (zGT_in 1944 (by decide +kernel) rfl) (zGT_in 1945 (by decide +kernel) rfl) (zGT_in 1946 (by decide +kernel) rfl) (zGT_in 113 (by decide +kernel) rfl) (zGT_in 1947 (by decide +kernel) rfl)
theorem ze_L_226 : zCE RL 226 yL_countsLeft cL_countsLeft 4 (some .int) [(0, 9, 12, 13)] 3 := by
  refine ⟨?_, by decide +kernel, by decide +kernel, by decide +kernel⟩
  exact zS4 (zGT_in 1178 (by decide +kernel) rfl) (zGT_in 1179 (by decide +kernel) rfl) (zGT_in 100 (by decide +kernel) rfl) (zGT_in 1180 (by decide +kernel) rfl)
theorem zc_L_228 : zCV RL 228 yX8_countsLeft cX8_countsLeft 3 (some .int) 8 1 := by
  refine ⟨RX8, Or.inl ⟨by decide, TX8, 21, rfl⟩, ?_, rfl, by decide +kernel, by decide +kernel, by decide +kernel⟩
  exact zV5 (zGT_in 1956 (by decide +kernel) rfl) (zGT_in 1957 (by decide +kernel) rfl) (zGT_in 1958 (by decide +kernel) rfl) (zGT_in 113 (by decide +kernel) rfl) (zGT_in 1959 (by decide +kernel) rfl)
theorem ze_L_229 : zCE RL 229 yL_rightTable cL_rightTable 4 (some .int) [(0, 9, 12, 13)] 3 := by
  refine ⟨?_, by decide +kernel, by decide +kernel, by decide +kernel⟩
  exact zS4 (zGT_in 1206 (by decide +kernel) rfl) (zGT_in 1207 (by decide +kernel) rfl) (zGT_in 100 (by decide +kernel) rfl) (zGT_in 1208 (by decide +kernel) rfl)
theorem zc_L_231 : zCV RL 231 yX8_rightTable cX8_rightTable 5 (some .int) 8 1 := by
  refine ⟨RX8, Or.inl ⟨by decide, TX8, 21, rfl⟩, ?_, rfl, by decide +kernel, by decide +kernel, by decide +kernel⟩
  exact zV5 (zGT_in 1976 (by decide +kernel) rfl) (zGT_in 1977 (by decide +kernel) rfl) (zGT_in 1978 (by decide +kernel) rfl) (zGT_in 113 (by decide +kernel) rfl) (zGT_in 1979 (by decide +kernel) rfl)
theorem zc_L_232 : zCV RL 232 yX7_nextWard cX7_nextWard 1 (some .int) 7 0 := by
  refine ⟨RX7, Or.inl ⟨by decide, TX7, 5, rfl⟩, ?_, rfl, by decide +kernel, by decide +kernel, by decide +kernel⟩
  exact zV5 (zGT_in 701 (by decide +kernel) rfl) (zGT_in 702 (by decide +kernel) rfl) (zGT_in 703 (by decide +kernel) rfl) (zGT_in 101 (by decide +kernel) rfl) (zGT_in 704 (by decide +kernel) rfl)
theorem zc_L_235 : zCV RL 235 yX8_nextWard cX8_nextWard 1 (some .int) 8 0 := by
  refine ⟨RX8, Or.inl ⟨by decide, TX8, 21, rfl⟩, ?_, rfl, by decide +kernel, by decide +kernel, by decide +kernel⟩
  exact zV5 (zGT_in 1980 (by decide +kernel) rfl) (zGT_in 1981 (by decide +kernel) rfl) (zGT_in 1982 (by decide +kernel) rfl) (zGT_in 113 (by decide +kernel) rfl) (zGT_in 1983 (by decide +kernel) rfl)
theorem zc_L_236 : zCV RL 236 yX7_declaredCount cX7_declaredCount 1 (some .int) 7 0 := by
  refine ⟨RX7, Or.inl ⟨by decide, TX7, 5, rfl⟩, ?_, rfl, by decide +kernel, by decide +kernel, by decide +kernel⟩
  exact zV5 (zGT_in 717 (by decide +kernel) rfl) (zGT_in 718 (by decide +kernel) rfl) (zGT_in 719 (by decide +kernel) rfl) (zGT_in 101 (by decide +kernel) rfl) (zGT_in 720 (by decide +kernel) rfl)
theorem zc_L_239 : zCV RL 239 yX8_declaredCount cX8_declaredCount 1 (some .int) 8 0 := by
  refine ⟨RX8, Or.inl ⟨by decide, TX8, 21, rfl⟩, ?_, rfl, by decide +kernel, by decide +kernel, by decide +kernel⟩
  exact zV5 (zGT_in 1988 (by decide +kernel) rfl) (zGT_in 1989 (by decide +kernel) rfl) (zGT_in 1990 (by decide +kernel) rfl) (zGT_in 113 (by decide +kernel) rfl) (zGT_in 1991 (by decide +kernel) rfl)
theorem zc_L_240 : zCV RL 240 yX7_declared cX7_declared 2 (some .int) 7 1 := by
  refine ⟨RX7, Or.inl ⟨by decide, TX7, 5, rfl⟩, ?_, rfl, by decide +kernel, by decide +kernel, by decide +kernel⟩
  exact zV5 (zGT_in 721 (by decide +kernel) rfl) (zGT_in 722 (by decide +kernel) rfl) (zGT_in 723 (by decide +kernel) rfl) (zGT_in 101 (by decide +kernel) rfl) (zGT_in 724 (by decide +kernel) rfl)
theorem zc_L_243 : zCV RL 243 yX8_declared cX8_declared 2 (some .int) 8 1 := by
  refine ⟨RX8, Or.inl ⟨by decide, TX8, 21, rfl⟩, ?_, rfl, by decide +kernel, by decide +kernel, by decide +kernel⟩
  exact zV5 (zGT_in 1992 (by decide +kernel) rfl) (zGT_in 1993 (by decide +kernel) rfl) (zGT_in 1994 (by decide +kernel) rfl) (zGT_in 113 (by decide +kernel) rfl) (zGT_in 1995 (by decide +kernel) rfl)
theorem ze_L_244 : zCE RL 244 yL_isRegionDeclared cL_isRegionDeclared 4 (some .int) [(0, 16, 19, 13)] 3 := by
  refine ⟨?_, by decide +kernel, by decide +kernel, by decide +kernel⟩
  exact zS4 (zGT_in 1217 (by decide +kernel) rfl) (zGT_in 1218 (by decide +kernel) rfl) (zGT_in 100 (by decide +kernel) rfl) (zGT_in 1219 (by decide +kernel) rfl)
theorem zc_L_246 : zCV RL 246 yX8_isRegionDeclared cX8_isRegionDeclared 4 (some .boolean) 8 1 := by
  refine ⟨RX8, Or.inl ⟨by decide, TX8, 21, rfl⟩, ?_, rfl, by decide +kernel, by decide +kernel, by decide +kernel⟩
  exact zV5 (zGT_in 1996 (by decide +kernel) rfl) (zGT_in 1997 (by decide +kernel) rfl) (zGT_in 1998 (by decide +kernel) rfl) (zGT_in 113 (by decide +kernel) rfl) (zGT_in 1999 (by decide +kernel) rfl)
theorem ze_L_247 : zCE RL 247 yL_regionVotes cL_regionVotes 5 (some .int) [(0, 10, 13, 13)] 4 := by
  refine ⟨?_, by decide +kernel, by decide +kernel, by decide +kernel⟩
  exact zS4 (zGT_in 1229 (by decide +kernel) rfl) (zGT_in 1230 (by decide +kernel) rfl) (zGT_in 100 (by decide +kernel) rfl) (zGT_in 1231 (by decide +kernel) rfl)
theorem zc_L_249 : zCV RL 249 yX8_regionVotes cX8_regionVotes 5 (some .int) 8 2 := by
  refine ⟨RX8, Or.inl ⟨by decide, TX8, 21, rfl⟩, ?_, rfl, by decide +kernel, by decide +kernel, by decide +kernel⟩
  exact zV5 (zGT_in 2004 (by decide +kernel) rfl) (zGT_in 2005 (by decide +kernel) rfl) (zGT_in 2006 (by decide +kernel) rfl) (zGT_in 113 (by decide +kernel) rfl) (zGT_in 2007 (by decide +kernel) rfl)
theorem ze_L_250 : zCE RL 250 yL_regionSeats cL_regionSeats 5 (some .int) [(0, 10, 13, 13)] 4 := by
  refine ⟨?_, by decide +kernel, by decide +kernel, by decide +kernel⟩
  exact zS4 (zGT_in 1240 (by decide +kernel) rfl) (zGT_in 1241 (by decide +kernel) rfl) (zGT_in 100 (by decide +kernel) rfl) (zGT_in 1242 (by decide +kernel) rfl)
theorem zc_L_252 : zCV RL 252 yX8_regionSeats cX8_regionSeats 3 (some .int) 8 2 := by
  refine ⟨RX8, Or.inl ⟨by decide, TX8, 21, rfl⟩, ?_, rfl, by decide +kernel, by decide +kernel, by decide +kernel⟩
  exact zV5 (zGT_in 2008 (by decide +kernel) rfl) (zGT_in 2009 (by decide +kernel) rfl) (zGT_in 2010 (by decide +kernel) rfl) (zGT_in 113 (by decide +kernel) rfl) (zGT_in 2011 (by decide +kernel) rfl)
theorem ze_L_253 : zCE RL 253 yL_isDecided cL_isDecided 4 (some .int) [(0, 16, 19, 13)] 3 := by
  refine ⟨?_, by decide +kernel, by decide +kernel, by decide +kernel⟩
  exact zS4 (zGT_in 1252 (by decide +kernel) rfl) (zGT_in 1253 (by decide +kernel) rfl) (zGT_in 100 (by decide +kernel) rfl) (zGT_in 1254 (by decide +kernel) rfl)
theorem zc_L_255 : zCV RL 255 yX8_isDecided cX8_isDecided 3 (some .boolean) 8 1 := by
  refine ⟨RX8, Or.inl ⟨by decide, TX8, 21, rfl⟩, ?_, rfl, by decide +kernel, by decide +kernel, by decide +kernel⟩
  exact zV5 (zGT_in 2016 (by decide +kernel) rfl) (zGT_in 2017 (by decide +kernel) rfl) (zGT_in 2018 (by decide +kernel) rfl) (zGT_in 113 (by decide +kernel) rfl) (zGT_in 2019 (by decide +kernel) rfl)
theorem zc_L_256 : zCV RL 256 yX7_misplaced cX7_misplaced 3 (some .int) 7 0 := by
  refine ⟨RX7, Or.inl ⟨by decide, TX7, 5, rfl⟩, ?_, rfl, by decide +kernel, by decide +kernel, by decide +kernel⟩
  exact zV5 (zGT_in 725 (by decide +kernel) rfl) (zGT_in 726 (by decide +kernel) rfl) (zGT_in 727 (by decide +kernel) rfl) (zGT_in 101 (by decide +kernel) rfl) (zGT_in 728 (by decide +kernel) rfl)
theorem zc_L_259 : zCV RL 259 yX8_misplaced cX8_misplaced 4 (some .int) 8 0 := by
  refine ⟨RX8, Or.inl ⟨by decide, TX8, 21, rfl⟩, ?_, rfl, by decide +kernel, by decide +kernel, by decide +kernel⟩
  exact zV5 (zGT_in 2024 (by decide +kernel) rfl) (zGT_in 2025 (by decide +kernel) rfl) (zGT_in 2026 (by decide +kernel) rfl) (zGT_in 113 (by decide +kernel) rfl) (zGT_in 2027 (by decide +kernel) rfl)
theorem zc_L_260 : zCV RL 260 yX7_worstTable cX7_worstTable 5 (some .int) 7 0 := by
  refine ⟨RX7, Or.inl ⟨by decide, TX7, 5, rfl⟩, ?_, rfl, by decide +kernel, by decide +kernel, by decide +kernel⟩
  exact zV5 (zGT_in 733 (by decide +kernel) rfl) (zGT_in 734 (by decide +kernel) rfl) (zGT_in 735 (by decide +kernel) rfl) (zGT_in 101 (by decide +kernel) rfl) (zGT_in 736 (by decide +kernel) rfl)
theorem zc_L_263 : zCV RL 263 yX8_worstTable cX8_worstTable 7 (some .int) 8 0 := by
  refine ⟨RX8, Or.inl ⟨by decide, TX8, 21, rfl⟩, ?_, rfl, by decide +kernel, by decide +kernel, by decide +kernel⟩
  exact zV5 (zGT_in 2028 (by decide +kernel) rfl) (zGT_in 2029 (by decide +kernel) rfl) (zGT_in 2030 (by decide +kernel) rfl) (zGT_in 113 (by decide +kernel) rfl) (zGT_in 2031 (by decide +kernel) rfl)
theorem zc_L_264 : zCV RL 264 yX7_bring cX7_bring 2 (some .int) 7 1 := by
  refine ⟨RX7, Or.inl ⟨by decide, TX7, 5, rfl⟩, ?_, rfl, by decide +kernel, by decide +kernel, by decide +kernel⟩
  exact zV5 (zGT_in 746 (by decide +kernel) rfl) (zGT_in 747 (by decide +kernel) rfl) (zGT_in 748 (by decide +kernel) rfl) (zGT_in 101 (by decide +kernel) rfl) (zGT_in 749 (by decide +kernel) rfl)
theorem zc_L_267 : zCV RL 267 yX8_bring cX8_bring 2 (some .int) 8 1 := by
  refine ⟨RX8, Or.inl ⟨by decide, TX8, 21, rfl⟩, ?_, rfl, by decide +kernel, by decide +kernel, by decide +kernel⟩
  exact zV5 (zGT_in 2040 (by decide +kernel) rfl) (zGT_in 2041 (by decide +kernel) rfl) (zGT_in 2042 (by decide +kernel) rfl) (zGT_in 113 (by decide +kernel) rfl) (zGT_in 2043 (by decide +kernel) rfl)
theorem zc_L_268 : zCV RL 268 yX7_open cX7_open 5 (some .int) 7 2 := by
  refine ⟨RX7, Or.inl ⟨by decide, TX7, 5, rfl⟩, ?_, rfl, by decide +kernel, by decide +kernel, by decide +kernel⟩
  exact zV5 (zGT_in 775 (by decide +kernel) rfl) (zGT_in 776 (by decide +kernel) rfl) (zGT_in 777 (by decide +kernel) rfl) (zGT_in 101 (by decide +kernel) rfl) (zGT_in 778 (by decide +kernel) rfl)
theorem zc_L_271 : zCV RL 271 yX8_open cX8_open 4 (some .int) 8 2 := by
  refine ⟨RX8, Or.inl ⟨by decide, TX8, 21, rfl⟩, ?_, rfl, by decide +kernel, by decide +kernel, by decide +kernel⟩
  exact zV5 (zGT_in 2052 (by decide +kernel) rfl) (zGT_in 2053 (by decide +kernel) rfl) (zGT_in 2054 (by decide +kernel) rfl) (zGT_in 113 (by decide +kernel) rfl) (zGT_in 2055 (by decide +kernel) rfl)
theorem zc_L_272 : zCV RL 272 yX7_countBox cX7_countBox 3 (some .int) 7 1 := by
  refine ⟨RX7, Or.inl ⟨by decide, TX7, 5, rfl⟩, ?_, rfl, by decide +kernel, by decide +kernel, by decide +kernel⟩
  exact zV5 (zGT_in 796 (by decide +kernel) rfl) (zGT_in 797 (by decide +kernel) rfl) (zGT_in 798 (by decide +kernel) rfl) (zGT_in 101 (by decide +kernel) rfl) (zGT_in 799 (by decide +kernel) rfl)
theorem zc_L_275 : zCV RL 275 yX8_countBox cX8_countBox 3 (some .int) 8 1 := by
  refine ⟨RX8, Or.inl ⟨by decide, TX8, 21, rfl⟩, ?_, rfl, by decide +kernel, by decide +kernel, by decide +kernel⟩
  exact zV5 (zGT_in 2060 (by decide +kernel) rfl) (zGT_in 2061 (by decide +kernel) rfl) (zGT_in 2062 (by decide +kernel) rfl) (zGT_in 113 (by decide +kernel) rfl) (zGT_in 2063 (by decide +kernel) rfl)
theorem zc_L_276 : zCV RL 276 yX7_seal cX7_seal 3 (some .int) 7 1 := by
  refine ⟨RX7, Or.inl ⟨by decide, TX7, 5, rfl⟩, ?_, rfl, by decide +kernel, by decide +kernel, by decide +kernel⟩
  exact zV5 (zGT_in 825 (by decide +kernel) rfl) (zGT_in 826 (by decide +kernel) rfl) (zGT_in 827 (by decide +kernel) rfl) (zGT_in 101 (by decide +kernel) rfl) (zGT_in 828 (by decide +kernel) rfl)
theorem zc_L_279 : zCV RL 279 yX8_seal cX8_seal 3 (some .int) 8 1 := by
  refine ⟨RX8, Or.inl ⟨by decide, TX8, 21, rfl⟩, ?_, rfl, by decide +kernel, by decide +kernel, by decide +kernel⟩
  exact zV5 (zGT_in 2068 (by decide +kernel) rfl) (zGT_in 2069 (by decide +kernel) rfl) (zGT_in 2070 (by decide +kernel) rfl) (zGT_in 113 (by decide +kernel) rfl) (zGT_in 2071 (by decide +kernel) rfl)
theorem zc_L_280 : zCV RL 280 yX7_tamper cX7_tamper 5 (some .int) 7 2 := by
  refine ⟨RX7, Or.inl ⟨by decide, TX7, 5, rfl⟩, ?_, rfl, by decide +kernel, by decide +kernel, by decide +kernel⟩
  exact zV5 (zGT_in 834 (by decide +kernel) rfl) (zGT_in 835 (by decide +kernel) rfl) (zGT_in 836 (by decide +kernel) rfl) (zGT_in 101 (by decide +kernel) rfl) (zGT_in 837 (by decide +kernel) rfl)
theorem zc_L_283 : zCV RL 283 yX8_tamper cX8_tamper 4 (some .int) 8 2 := by
  refine ⟨RX8, Or.inl ⟨by decide, TX8, 21, rfl⟩, ?_, rfl, by decide +kernel, by decide +kernel, by decide +kernel⟩
  exact zV5 (zGT_in 2080 (by decide +kernel) rfl) (zGT_in 2081 (by decide +kernel) rfl) (zGT_in 2082 (by decide +kernel) rfl) (zGT_in 113 (by decide +kernel) rfl) (zGT_in 2083 (by decide +kernel) rfl)
theorem zc_L_284 : zCV RL 284 yX7_accept cX7_accept 3 (some .int) 7 1 := by
  refine ⟨RX7, Or.inl ⟨by decide, TX7, 5, rfl⟩, ?_, rfl, by decide +kernel, by decide +kernel, by decide +kernel⟩
  exact zV5 (zGT_in 839 (by decide +kernel) rfl) (zGT_in 840 (by decide +kernel) rfl) (zGT_in 841 (by decide +kernel) rfl) (zGT_in 101 (by decide +kernel) rfl) (zGT_in 842 (by decide +kernel) rfl)
theorem zc_L_287 : zCV RL 287 yX8_accept cX8_accept 2 (some .int) 8 1 := by
  refine ⟨RX8, Or.inl ⟨by decide, TX8, 21, rfl⟩, ?_, rfl, by decide +kernel, by decide +kernel, by decide +kernel⟩
  exact zV5 (zGT_in 2084 (by decide +kernel) rfl) (zGT_in 2085 (by decide +kernel) rfl) (zGT_in 2086 (by decide +kernel) rfl) (zGT_in 113 (by decide +kernel) rfl) (zGT_in 2087 (by decide +kernel) rfl)
theorem zc_L_288 : zCV RL 288 yX7_declare cX7_declare 2 (some .int) 7 0 := by
  refine ⟨RX7, Or.inl ⟨by decide, TX7, 5, rfl⟩, ?_, rfl, by decide +kernel, by decide +kernel, by decide +kernel⟩
  exact zV5 (zGT_in 844 (by decide +kernel) rfl) (zGT_in 845 (by decide +kernel) rfl) (zGT_in 846 (by decide +kernel) rfl) (zGT_in 101 (by decide +kernel) rfl) (zGT_in 847 (by decide +kernel) rfl)
theorem zc_L_291 : zCV RL 291 yX8_declare cX8_declare 2 (some .int) 8 0 := by
  refine ⟨RX8, Or.inl ⟨by decide, TX8, 21, rfl⟩, ?_, rfl, by decide +kernel, by decide +kernel, by decide +kernel⟩
  exact zV5 (zGT_in 2088 (by decide +kernel) rfl) (zGT_in 2089 (by decide +kernel) rfl) (zGT_in 2090 (by decide +kernel) rfl) (zGT_in 113 (by decide +kernel) rfl) (zGT_in 2091 (by decide +kernel) rfl)
theorem zc_L_292 : zCV RL 292 yX7_work cX7_work 3 (some .int) 7 0 := by
  refine ⟨RX7, Or.inl ⟨by decide, TX7, 5, rfl⟩, ?_, rfl, by decide +kernel, by decide +kernel, by decide +kernel⟩
  exact zV5 (zGT_in 852 (by decide +kernel) rfl) (zGT_in 853 (by decide +kernel) rfl) (zGT_in 854 (by decide +kernel) rfl) (zGT_in 101 (by decide +kernel) rfl) (zGT_in 855 (by decide +kernel) rfl)
theorem zc_L_295 : zCV RL 295 yX8_work cX8_work 5 (some .int) 8 0 := by
  refine ⟨RX8, Or.inl ⟨by decide, TX8, 21, rfl⟩, ?_, rfl, by decide +kernel, by decide +kernel, by decide +kernel⟩
  exact zV5 (zGT_in 2092 (by decide +kernel) rfl) (zGT_in 2093 (by decide +kernel) rfl) (zGT_in 2094 (by decide +kernel) rfl) (zGT_in 113 (by decide +kernel) rfl) (zGT_in 2095 (by decide +kernel) rfl)
theorem zc_L_296 : zCV RL 296 yX7_setSetting cX7_setSetting 4 (some .int) 7 2 := by
  refine ⟨RX7, Or.inl ⟨by decide, TX7, 5, rfl⟩, ?_, rfl, by decide +kernel, by decide +kernel, by decide +kernel⟩
  exact zV5 (zGT_in 877 (by decide +kernel) rfl) (zGT_in 878 (by decide +kernel) rfl) (zGT_in 879 (by decide +kernel) rfl) (zGT_in 101 (by decide +kernel) rfl) (zGT_in 880 (by decide +kernel) rfl)
theorem zc_L_299 : zCV RL 299 yX8_setSetting cX8_setSetting 4 (some .int) 8 2 := by
  refine ⟨RX8, Or.inl ⟨by decide, TX8, 21, rfl⟩, ?_, rfl, by decide +kernel, by decide +kernel, by decide +kernel⟩
  exact zV5 (zGT_in 2104 (by decide +kernel) rfl) (zGT_in 2105 (by decide +kernel) rfl) (zGT_in 2106 (by decide +kernel) rfl) (zGT_in 113 (by decide +kernel) rfl) (zGT_in 2107 (by decide +kernel) rfl)
theorem zc_L_300 : zCV RL 300 yX7_undo cX7_undo 1 (some .int) 7 0 := by
  refine ⟨RX7, Or.inl ⟨by decide, TX7, 5, rfl⟩, ?_, rfl, by decide +kernel, by decide +kernel, by decide +kernel⟩
  exact zV5 (zGT_in 882 (by decide +kernel) rfl) (zGT_in 883 (by decide +kernel) rfl) (zGT_in 884 (by decide +kernel) rfl) (zGT_in 101 (by decide +kernel) rfl) (zGT_in 885 (by decide +kernel) rfl)
theorem zc_L_303 : zCV RL 303 yX8_undo cX8_undo 2 (some .int) 8 0 := by
  refine ⟨RX8, Or.inl ⟨by decide, TX8, 21, rfl⟩, ?_, rfl, by decide +kernel, by decide +kernel, by decide +kernel⟩
  exact zV5 (zGT_in 2036 (by decide +kernel) rfl) (zGT_in 2037 (by decide +kernel) rfl) (zGT_in 2038 (by decide +kernel) rfl) (zGT_in 113 (by decide +kernel) rfl) (zGT_in 2039 (by decide +kernel) rfl)
theorem ze_L_304 : zCE RL 304 yL_write cL_write 4 (some .int) [(0, 9, 12, 13)] 3 := by
  refine ⟨?_, by decide +kernel, by decide +kernel, by decide +kernel⟩
  exact zS4 (zGT_in 1265 (by decide +kernel) rfl) (zGT_in 1266 (by decide +kernel) rfl) (zGT_in 100 (by decide +kernel) rfl) (zGT_in 1267 (by decide +kernel) rfl)
theorem zc_L_306 : zCV RL 306 yX8_write cX8_write 3 (some .int) 8 1 := by
  refine ⟨RX8, Or.inl ⟨by decide, TX8, 21, rfl⟩, ?_, rfl, by decide +kernel, by decide +kernel, by decide +kernel⟩
  exact zV5 (zGT_in 2108 (by decide +kernel) rfl) (zGT_in 2109 (by decide +kernel) rfl) (zGT_in 2110 (by decide +kernel) rfl) (zGT_in 113 (by decide +kernel) rfl) (zGT_in 2111 (by decide +kernel) rfl)
theorem zc_L_307 : zCV RL 307 yX7_outputAt cX7_outputAt 2 (some .int) 7 1 := by
  refine ⟨RX7, Or.inl ⟨by decide, TX7, 5, rfl⟩, ?_, rfl, by decide +kernel, by decide +kernel, by decide +kernel⟩
  exact zV5 (zGT_in 890 (by decide +kernel) rfl) (zGT_in 891 (by decide +kernel) rfl) (zGT_in 892 (by decide +kernel) rfl) (zGT_in 101 (by decide +kernel) rfl) (zGT_in 893 (by decide +kernel) rfl)
theorem zc_L_310 : zCV RL 310 yX8_outputAt cX8_outputAt 2 (some .int) 8 1 := by
  refine ⟨RX8, Or.inl ⟨by decide, TX8, 21, rfl⟩, ?_, rfl, by decide +kernel, by decide +kernel, by decide +kernel⟩
  exact zV5 (zGT_in 2124 (by decide +kernel) rfl) (zGT_in 2125 (by decide +kernel) rfl) (zGT_in 2126 (by decide +kernel) rfl) (zGT_in 113 (by decide +kernel) rfl) (zGT_in 2127 (by decide +kernel) rfl)
/-- what a wrapper answers -/
def zRw (t : Option Int32) (hp h' : zHp) (sz : Nat) : Int32 → zHp → Nat → Prop := fun v h z => sz ≤ z ∧ (match t with
  | none => v = 1 ∧ h = hp
  | some _ => v = 0 ∧ h = h')
def zRww (t : Option (Int32 × zHp × Nat)) (hp h' : zHp) (sz : Nat) : Int32 → zHp → Nat → Prop := fun v h z => sz ≤ z ∧ (match t with
  | none => v = 1 ∧ h = hp
  | some _ => v = 0 ∧ h = h')
set_option maxHeartbeats 4000000 in
set_option maxRecDepth 100000 in
theorem we_regionAround (l : Launch) (D : va_G) (tc : Nat → ClassId) (ro : Nat → Nat) (b0 : Nat) {a o : Nat} {x1 : Int32} {hp h' : zHp} {sz : Nat} (hl : l.stackTraces = false) {t : Option Int32} (hF : f_X7_regionAround a x1 hp = some t) (ho : ∀ v, t = some v → zsL hp o 0 v.toInt64 = some h') : zMe l yL_regionAround cL_regionAround 4 (some .int) [(0, 9, 12, 13)] 8 1 6 [.ref a, .int x1, .ref o] D tc ro b0 hp sz (zRw t hp h' sz) := by
  refine z_startE (lv := [(0, .ref a), (1, .int x1), (2, .ref o)]) hl (by decide +kernel) RL rfl rfl (Nat.le_of_ble_eq_true rfl) (fun P C CT => ?_)
  refine z_aload_n C dL_regionAround_0 2 rfl ?_
  refine z_iconst C dL_regionAround_1 zi_0 ?_
  refine z_aload_n C dL_regionAround_2 0 rfl ?_
  refine z_iload_n C dL_regionAround_3 1 rfl ?_
  refine y_callVC hF C CT rfl (by decide) zlk_L_13 zc_L_7 [.int x1] (fun l D tc b0 r hl h => m_X7_regionAround l D tc ro b0 hl h) rfl rfl (Nat.le_of_ble_eq_true rfl) (by decide) (by decide) (by simp) dL_regionAround_4 (fun v ev => ?_) (fun ev q z hz => ?_)
  · refine z_i2l C dL_regionAround_7 ?_
    refine y_lastore C (ho v ev) dL_regionAround_8 ?_
    refine z_goto C 15 dL_regionAround_9 (by decide) ?_
    refine z_iconst C dL_regionAround_15 zi_0 ?_
    exact y_ireturnE C (by rw [ev]; exact ⟨Nat.le_refl _, rfl, rfl⟩) (by simp) dL_regionAround_16
  · refine z_astore_n (lv' := [(0, .ref a), (1, .int x1), (2, .ref o), (3, .ref q)]) C dL_regionAround_12 (by decide) rfl ?_
    refine z_iconst C dL_regionAround_13 zi_1 ?_
    exact y_ireturnE C (by rw [ev]; exact ⟨hz, rfl, rfl⟩) (by simp) dL_regionAround_14
set_option maxHeartbeats 4000000 in
set_option maxRecDepth 100000 in
theorem we_regionOf (l : Launch) (D : va_G) (tc : Nat → ClassId) (ro : Nat → Nat) (b0 : Nat) {a o : Nat} {x1 : Int32} {hp h' : zHp} {sz : Nat} (hl : l.stackTraces = false) {t : Option Int32} (hF : f_X7_regionOf a x1 hp = some t) (ho : ∀ v, t = some v → zsL hp o 0 v.toInt64 = some h') : zMe l yL_regionOf cL_regionOf 4 (some .int) [(0, 9, 12, 13)] 8 1 6 [.ref a, .int x1, .ref o] D tc ro b0 hp sz (zRw t hp h' sz) := by
  refine z_startE (lv := [(0, .ref a), (1, .int x1), (2, .ref o)]) hl (by decide +kernel) RL rfl rfl (Nat.le_of_ble_eq_true rfl) (fun P C CT => ?_)
  refine z_aload_n C dL_regionOf_0 2 rfl ?_
  refine z_iconst C dL_regionOf_1 zi_0 ?_
  refine z_aload_n C dL_regionOf_2 0 rfl ?_
  refine z_iload_n C dL_regionOf_3 1 rfl ?_
  refine y_callVC hF C CT rfl (by decide) zlk_L_13 zc_L_15 [.int x1] (fun l D tc b0 r hl h => m_X7_regionOf l D tc ro b0 hl h) rfl rfl (Nat.le_of_ble_eq_true rfl) (by decide) (by decide) (by simp) dL_regionOf_4 (fun v ev => ?_) (fun ev q z hz => ?_)
  · refine z_i2l C dL_regionOf_7 ?_
    refine y_lastore C (ho v ev) dL_regionOf_8 ?_
    refine z_goto C 15 dL_regionOf_9 (by decide) ?_
    refine z_iconst C dL_regionOf_15 zi_0 ?_
    exact y_ireturnE C (by rw [ev]; exact ⟨Nat.le_refl _, rfl, rfl⟩) (by simp) dL_regionOf_16
  · refine z_astore_n (lv' := [(0, .ref a), (1, .int x1), (2, .ref o), (3, .ref q)]) C dL_regionOf_12 (by decide) rfl ?_
    refine z_iconst C dL_regionOf_13 zi_1 ?_
    exact y_ireturnE C (by rw [ev]; exact ⟨hz, rfl, rfl⟩) (by simp) dL_regionOf_14
set_option maxHeartbeats 4000000 in
set_option maxRecDepth 100000 in
theorem we_wardsIn (l : Launch) (D : va_G) (tc : Nat → ClassId) (ro : Nat → Nat) (b0 : Nat) {a o : Nat} {x1 : Int32} {hp h' : zHp} {sz : Nat} (hl : l.stackTraces = false) {t : Option Int32} (hF : f_X7_wardsIn a x1 hp = some t) (ho : ∀ v, t = some v → zsL hp o 0 v.toInt64 = some h') : zMe l yL_wardsIn cL_wardsIn 4 (some .int) [(0, 9, 12, 13)] 8 1 6 [.ref a, .int x1, .ref o] D tc ro b0 hp sz (zRw t hp h' sz) := by
  refine z_startE (lv := [(0, .ref a), (1, .int x1), (2, .ref o)]) hl (by decide +kernel) RL rfl rfl (Nat.le_of_ble_eq_true rfl) (fun P C CT => ?_)
  refine z_aload_n C dL_wardsIn_0 2 rfl ?_
  refine z_iconst C dL_wardsIn_1 zi_0 ?_
  refine z_aload_n C dL_wardsIn_2 0 rfl ?_
  refine z_iload_n C dL_wardsIn_3 1 rfl ?_
  refine y_callVC hF C CT rfl (by decide) zlk_L_13 zc_L_18 [.int x1] (fun l D tc b0 r hl h => m_X7_wardsIn l D tc ro b0 hl h) rfl rfl (Nat.le_of_ble_eq_true rfl) (by decide) (by decide) (by simp) dL_wardsIn_4 (fun v ev => ?_) (fun ev q z hz => ?_)
  · refine z_i2l C dL_wardsIn_7 ?_
    refine y_lastore C (ho v ev) dL_wardsIn_8 ?_
    refine z_goto C 15 dL_wardsIn_9 (by decide) ?_
    refine z_iconst C dL_wardsIn_15 zi_0 ?_
    exact y_ireturnE C (by rw [ev]; exact ⟨Nat.le_refl _, rfl, rfl⟩) (by simp) dL_wardsIn_16
  · refine z_astore_n (lv' := [(0, .ref a), (1, .int x1), (2, .ref o), (3, .ref q)]) C dL_wardsIn_12 (by decide) rfl ?_
    refine z_iconst C dL_wardsIn_13 zi_1 ?_
    exact y_ireturnE C (by rw [ev]; exact ⟨hz, rfl, rfl⟩) (by simp) dL_wardsIn_14
set_option maxHeartbeats 4000000 in
set_option maxRecDepth 100000 in
theorem we_depthOf (l : Launch) (D : va_G) (tc : Nat → ClassId) (ro : Nat → Nat) (b0 : Nat) {a o : Nat} {x1 : Int32} {hp h' : zHp} {sz : Nat} (hl : l.stackTraces = false) {t : Option Int32} (hF : f_X7_depthOf a x1 hp = some t) (ho : ∀ v, t = some v → zsL hp o 0 v.toInt64 = some h') : zMe l yL_depthOf cL_depthOf 4 (some .int) [(0, 9, 12, 13)] 8 1 6 [.ref a, .int x1, .ref o] D tc ro b0 hp sz (zRw t hp h' sz) := by
  refine z_startE (lv := [(0, .ref a), (1, .int x1), (2, .ref o)]) hl (by decide +kernel) RL rfl rfl (Nat.le_of_ble_eq_true rfl) (fun P C CT => ?_)
  refine z_aload_n C dL_depthOf_0 2 rfl ?_
  refine z_iconst C dL_depthOf_1 zi_0 ?_
  refine z_aload_n C dL_depthOf_2 0 rfl ?_
  refine z_iload_n C dL_depthOf_3 1 rfl ?_
  refine y_callVC hF C CT rfl (by decide) zlk_L_13 zc_L_21 [.int x1] (fun l D tc b0 r hl h => m_X7_depthOf l D tc ro b0 hl h) rfl rfl (Nat.le_of_ble_eq_true rfl) (by decide) (by decide) (by simp) dL_depthOf_4 (fun v ev => ?_) (fun ev q z hz => ?_)
  · refine z_i2l C dL_depthOf_7 ?_
    refine y_lastore C (ho v ev) dL_depthOf_8 ?_
    refine z_goto C 15 dL_depthOf_9 (by decide) ?_
    refine z_iconst C dL_depthOf_15 zi_0 ?_
    exact y_ireturnE C (by rw [ev]; exact ⟨Nat.le_refl _, rfl, rfl⟩) (by simp) dL_depthOf_16
  · refine z_astore_n (lv' := [(0, .ref a), (1, .int x1), (2, .ref o), (3, .ref q)]) C dL_depthOf_12 (by decide) rfl ?_
    refine z_iconst C dL_depthOf_13 zi_1 ?_
    exact y_ireturnE C (by rw [ev]; exact ⟨hz, rfl, rfl⟩) (by simp) dL_depthOf_14
set_option maxHeartbeats 4000000 in
set_option maxRecDepth 100000 in
theorem we_boxProperty (l : Launch) (D : va_G) (tc : Nat → ClassId) (ro : Nat → Nat) (b0 : Nat) {a o : Nat} {x1 x2 : Int32} {hp h' : zHp} {sz : Nat} (hl : l.stackTraces = false) {t : Option Int32} (hF : f_X7_boxProperty a x1 x2 hp = some t) (ho : ∀ v, t = some v → zsL hp o 0 v.toInt64 = some h') : zMe l yL_boxProperty cL_boxProperty 5 (some .int) [(0, 10, 13, 13)] 8 1 6 [.ref a, .int x1, .int x2, .ref o] D tc ro b0 hp sz (zRw t hp h' sz) := by
  refine z_startE (lv := [(0, .ref a), (1, .int x1), (2, .int x2), (3, .ref o)]) hl (by decide +kernel) RL rfl rfl (Nat.le_of_ble_eq_true rfl) (fun P C CT => ?_)
  refine z_aload_n C dL_boxProperty_0 3 rfl ?_
  refine z_iconst C dL_boxProperty_1 zi_0 ?_
  refine z_aload_n C dL_boxProperty_2 0 rfl ?_
  refine z_iload_n C dL_boxProperty_3 1 rfl ?_
  refine z_iload_n C dL_boxProperty_4 2 rfl ?_
  refine y_callVC hF C CT rfl (by decide) zlk_L_13 zc_L_24 [.int x1, .int x2] (fun l D tc b0 r hl h => m_X7_boxProperty l D tc ro b0 hl h) rfl rfl (Nat.le_of_ble_eq_true rfl) (by decide) (by decide) (by simp) dL_boxProperty_5 (fun v ev => ?_) (fun ev q z hz => ?_)
  · refine z_i2l C dL_boxProperty_8 ?_
    refine y_lastore C (ho v ev) dL_boxProperty_9 ?_
    refine z_goto C 17 dL_boxProperty_10 (by decide) ?_
    refine z_iconst C dL_boxProperty_17 zi_0 ?_
    exact y_ireturnE C (by rw [ev]; exact ⟨Nat.le_refl _, rfl, rfl⟩) (by simp) dL_boxProperty_18
  · refine z_astore (lv' := [(0, .ref a), (1, .int x1), (2, .int x2), (3, .ref o), (4, .ref q)]) C dL_boxProperty_13 (by decide) rfl ?_
    refine z_iconst C dL_boxProperty_15 zi_1 ?_
    exact y_ireturnE C (by rw [ev]; exact ⟨hz, rfl, rfl⟩) (by simp) dL_boxProperty_16
set_option maxHeartbeats 4000000 in
set_option maxRecDepth 100000 in
theorem we_placeOf (l : Launch) (D : va_G) (tc : Nat → ClassId) (ro : Nat → Nat) (b0 : Nat) {a o : Nat} {x1 : Int32} {hp h' : zHp} {sz : Nat} (hl : l.stackTraces = false) {t : Option Int32} (hF : f_X7_placeOf a x1 hp = some t) (ho : ∀ v, t = some v → zsL hp o 0 v.toInt64 = some h') : zMe l yL_placeOf cL_placeOf 4 (some .int) [(0, 9, 12, 13)] 8 1 6 [.ref a, .int x1, .ref o] D tc ro b0 hp sz (zRw t hp h' sz) := by
  refine z_startE (lv := [(0, .ref a), (1, .int x1), (2, .ref o)]) hl (by decide +kernel) RL rfl rfl (Nat.le_of_ble_eq_true rfl) (fun P C CT => ?_)
  refine z_aload_n C dL_placeOf_0 2 rfl ?_
  refine z_iconst C dL_placeOf_1 zi_0 ?_
  refine z_aload_n C dL_placeOf_2 0 rfl ?_
  refine z_iload_n C dL_placeOf_3 1 rfl ?_
  refine y_callVC hF C CT rfl (by decide) zlk_L_13 zc_L_28 [.int x1] (fun l D tc b0 r hl h => m_X7_placeOf l D tc ro b0 hl h) rfl rfl (Nat.le_of_ble_eq_true rfl) (by decide) (by decide) (by simp) dL_placeOf_4 (fun v ev => ?_) (fun ev q z hz => ?_)
  · refine z_i2l C dL_placeOf_7 ?_
    refine y_lastore C (ho v ev) dL_placeOf_8 ?_
    refine z_goto C 15 dL_placeOf_9 (by decide) ?_
    refine z_iconst C dL_placeOf_15 zi_0 ?_
    exact y_ireturnE C (by rw [ev]; exact ⟨Nat.le_refl _, rfl, rfl⟩) (by simp) dL_placeOf_16
  · refine z_astore_n (lv' := [(0, .ref a), (1, .int x1), (2, .ref o), (3, .ref q)]) C dL_placeOf_12 (by decide) rfl ?_
    refine z_iconst C dL_placeOf_13 zi_1 ?_
    exact y_ireturnE C (by rw [ev]; exact ⟨hz, rfl, rfl⟩) (by simp) dL_placeOf_14
set_option maxHeartbeats 4000000 in
set_option maxRecDepth 100000 in
theorem we_papers (l : Launch) (D : va_G) (tc : Nat → ClassId) (ro : Nat → Nat) (b0 : Nat) {a o : Nat} {x1 x2 : Int32} {hp h' : zHp} {sz : Nat} (hl : l.stackTraces = false) {t : Option Int32} (hF : f_X7_papers a x1 x2 hp = some t) (ho : ∀ v, t = some v → zsL hp o 0 v.toInt64 = some h') : zMe l yL_papers cL_papers 5 (some .int) [(0, 10, 13, 13)] 8 1 6 [.ref a, .int x1, .int x2, .ref o] D tc ro b0 hp sz (zRw t hp h' sz) := by
  refine z_startE (lv := [(0, .ref a), (1, .int x1), (2, .int x2), (3, .ref o)]) hl (by decide +kernel) RL rfl rfl (Nat.le_of_ble_eq_true rfl) (fun P C CT => ?_)
  refine z_aload_n C dL_papers_0 3 rfl ?_
  refine z_iconst C dL_papers_1 zi_0 ?_
  refine z_aload_n C dL_papers_2 0 rfl ?_
  refine z_iload_n C dL_papers_3 1 rfl ?_
  refine z_iload_n C dL_papers_4 2 rfl ?_
  refine y_callVC hF C CT rfl (by decide) zlk_L_13 zc_L_31 [.int x1, .int x2] (fun l D tc b0 r hl h => m_X7_papers l D tc ro b0 hl h) rfl rfl (Nat.le_of_ble_eq_true rfl) (by decide) (by decide) (by simp) dL_papers_5 (fun v ev => ?_) (fun ev q z hz => ?_)
  · refine z_i2l C dL_papers_8 ?_
    refine y_lastore C (ho v ev) dL_papers_9 ?_
    refine z_goto C 17 dL_papers_10 (by decide) ?_
    refine z_iconst C dL_papers_17 zi_0 ?_
    exact y_ireturnE C (by rw [ev]; exact ⟨Nat.le_refl _, rfl, rfl⟩) (by simp) dL_papers_18
  · refine z_astore (lv' := [(0, .ref a), (1, .int x1), (2, .int x2), (3, .ref o), (4, .ref q)]) C dL_papers_13 (by decide) rfl ?_
    refine z_iconst C dL_papers_15 zi_1 ?_
    exact y_ireturnE C (by rw [ev]; exact ⟨hz, rfl, rfl⟩) (by simp) dL_papers_16
set_option maxHeartbeats 4000000 in
set_option maxRecDepth 100000 in
theorem we_isSealGood (l : Launch) (D : va_G) (tc : Nat → ClassId) (ro : Nat → Nat) (b0 : Nat) {a o : Nat} {x1 : Int32} {hp h' : zHp} {sz : Nat} (hl : l.stackTraces = false) {t : Option Int32} (hF : f_X7_isSealGood a x1 hp = some t) (ho : ∀ v, t = some v → zsL hp o 0 (if v = 0 then 0 else 1) = some h') : zMe l yL_isSealGood cL_isSealGood 4 (some .int) [(0, 16, 19, 13)] 8 1 6 [.ref a, .int x1, .ref o] D tc ro b0 hp sz (zRw t hp h' sz) := by
  refine z_startE (lv := [(0, .ref a), (1, .int x1), (2, .ref o)]) hl (by decide +kernel) RL rfl rfl (Nat.le_of_ble_eq_true rfl) (fun P C CT => ?_)
  refine z_aload_n C dL_isSealGood_0 2 rfl ?_
  refine z_iconst C dL_isSealGood_1 zi_0 ?_
  refine z_aload_n C dL_isSealGood_2 0 rfl ?_
  refine z_iload_n C dL_isSealGood_3 1 rfl ?_
  refine y_callVC hF C CT rfl (by decide) zlk_L_13 zc_L_34 [.int x1] (fun l D tc b0 r hl h => m_X7_isSealGood l D tc ro b0 hl h) rfl rfl (Nat.le_of_ble_eq_true rfl) (by decide) (by decide) (by simp) dL_isSealGood_4 (fun v ev => ?_) (fun ev q z hz => ?_)
  · have hs : ∀ q : Int64, q = (if v = 0 then 0 else 1) → zGq P (zEndE P (zRw t hp h' sz)) (some ()) 15 [(0, .ref a), (1, .int x1), (2, .ref o)] [.long q, .int 0, .ref o] hp sz (0 + 1) (0 + 6) := by
      intro q eq
      refine y_lastore C (by rw [eq]; exact ho v ev) dL_isSealGood_15 ?_
      refine z_goto C 22 dL_isSealGood_16 (by decide) ?_
      refine z_iconst C dL_isSealGood_22 zi_0 ?_
      exact y_ireturnE C (by rw [ev]; exact ⟨Nat.le_refl _, rfl, rfl⟩) (by simp) dL_isSealGood_23
    by_cases e0 : v = 0
    · refine y_ifeqT C 14 e0 dL_isSealGood_7 (by decide) ?_
      refine z_lconst (v := (0 : Int64)) C dL_isSealGood_14 (by decide) ?_
      exact hs _ (by rw [if_pos e0])
    · refine y_ifeqF C 14 e0 dL_isSealGood_7 (by decide) ?_
      refine z_lconst (v := (1 : Int64)) C dL_isSealGood_10 (by decide) ?_
      refine z_goto C 15 dL_isSealGood_11 (by decide) ?_
      exact hs _ (by rw [if_neg e0])
  · refine z_astore_n (lv' := [(0, .ref a), (1, .int x1), (2, .ref o), (3, .ref q)]) C dL_isSealGood_19 (by decide) rfl ?_
    refine z_iconst C dL_isSealGood_20 zi_1 ?_
    exact y_ireturnE C (by rw [ev]; exact ⟨hz, rfl, rfl⟩) (by simp) dL_isSealGood_21
set_option maxHeartbeats 4000000 in
set_option maxRecDepth 100000 in
theorem we_ledgerSize (l : Launch) (D : va_G) (tc : Nat → ClassId) (ro : Nat → Nat) (b0 : Nat) {a o : Nat} {x1 : Int32} {hp h' : zHp} {sz : Nat} (hl : l.stackTraces = false) {t : Option Int32} (hF : f_X7_ledgerSize a x1 hp = some t) (ho : ∀ v, t = some v → zsL hp o 0 v.toInt64 = some h') : zMe l yL_ledgerSize cL_ledgerSize 4 (some .int) [(0, 9, 12, 13)] 8 1 6 [.ref a, .int x1, .ref o] D tc ro b0 hp sz (zRw t hp h' sz) := by
  refine z_startE (lv := [(0, .ref a), (1, .int x1), (2, .ref o)]) hl (by decide +kernel) RL rfl rfl (Nat.le_of_ble_eq_true rfl) (fun P C CT => ?_)
  refine z_aload_n C dL_ledgerSize_0 2 rfl ?_
  refine z_iconst C dL_ledgerSize_1 zi_0 ?_
  refine z_aload_n C dL_ledgerSize_2 0 rfl ?_
  refine z_iload_n C dL_ledgerSize_3 1 rfl ?_
  refine y_callVC hF C CT rfl (by decide) zlk_L_13 zc_L_38 [.int x1] (fun l D tc b0 r hl h => m_X7_ledgerSize l D tc ro b0 hl h) rfl rfl (Nat.le_of_ble_eq_true rfl) (by decide) (by decide) (by simp) dL_ledgerSize_4 (fun v ev => ?_) (fun ev q z hz => ?_)
  · refine z_i2l C dL_ledgerSize_7 ?_
    refine y_lastore C (ho v ev) dL_ledgerSize_8 ?_
    refine z_goto C 15 dL_ledgerSize_9 (by decide) ?_
    refine z_iconst C dL_ledgerSize_15 zi_0 ?_
    exact y_ireturnE C (by rw [ev]; exact ⟨Nat.le_refl _, rfl, rfl⟩) (by simp) dL_ledgerSize_16
  · refine z_astore_n (lv' := [(0, .ref a), (1, .int x1), (2, .ref o), (3, .ref q)]) C dL_ledgerSize_12 (by decide) rfl ?_
    refine z_iconst C dL_ledgerSize_13 zi_1 ?_
    exact y_ireturnE C (by rw [ev]; exact ⟨hz, rfl, rfl⟩) (by simp) dL_ledgerSize_14
set_option maxHeartbeats 4000000 in
set_option maxRecDepth 100000 in
theorem we_ledger (l : Launch) (D : va_G) (tc : Nat → ClassId) (ro : Nat → Nat) (b0 : Nat) {a o : Nat} {x1 x2 : Int32} {hp h' : zHp} {sz : Nat} (hl : l.stackTraces = false) {t : Option Int32} (hF : f_X7_ledger a x1 x2 hp = some t) (ho : ∀ v, t = some v → zsL hp o 0 v.toInt64 = some h') : zMe l yL_ledger cL_ledger 5 (some .int) [(0, 10, 13, 13)] 8 1 6 [.ref a, .int x1, .int x2, .ref o] D tc ro b0 hp sz (zRw t hp h' sz) := by
  refine z_startE (lv := [(0, .ref a), (1, .int x1), (2, .int x2), (3, .ref o)]) hl (by decide +kernel) RL rfl rfl (Nat.le_of_ble_eq_true rfl) (fun P C CT => ?_)
  refine z_aload_n C dL_ledger_0 3 rfl ?_
  refine z_iconst C dL_ledger_1 zi_0 ?_
  refine z_aload_n C dL_ledger_2 0 rfl ?_
  refine z_iload_n C dL_ledger_3 1 rfl ?_
  refine z_iload_n C dL_ledger_4 2 rfl ?_
  refine y_callVC hF C CT rfl (by decide) zlk_L_13 zc_L_41 [.int x1, .int x2] (fun l D tc b0 r hl h => m_X7_ledger l D tc ro b0 hl h) rfl rfl (Nat.le_of_ble_eq_true rfl) (by decide) (by decide) (by simp) dL_ledger_5 (fun v ev => ?_) (fun ev q z hz => ?_)
  · refine z_i2l C dL_ledger_8 ?_
    refine y_lastore C (ho v ev) dL_ledger_9 ?_
    refine z_goto C 17 dL_ledger_10 (by decide) ?_
    refine z_iconst C dL_ledger_17 zi_0 ?_
    exact y_ireturnE C (by rw [ev]; exact ⟨Nat.le_refl _, rfl, rfl⟩) (by simp) dL_ledger_18
  · refine z_astore (lv' := [(0, .ref a), (1, .int x1), (2, .int x2), (3, .ref o), (4, .ref q)]) C dL_ledger_13 (by decide) rfl ?_
    refine z_iconst C dL_ledger_15 zi_1 ?_
    exact y_ireturnE C (by rw [ev]; exact ⟨hz, rfl, rfl⟩) (by simp) dL_ledger_16
set_option maxHeartbeats 4000000 in
set_option maxRecDepth 100000 in
theorem we_boxAt (l : Launch) (D : va_G) (tc : Nat → ClassId) (ro : Nat → Nat) (b0 : Nat) {a o : Nat} {x1 : Int32} {hp h' : zHp} {sz : Nat} (hl : l.stackTraces = false) {t : Option Int32} (hF : f_X7_boxAt a x1 hp = some t) (ho : ∀ v, t = some v → zsL hp o 0 v.toInt64 = some h') : zMe l yL_boxAt cL_boxAt 4 (some .int) [(0, 9, 12, 13)] 8 1 6 [.ref a, .int x1, .ref o] D tc ro b0 hp sz (zRw t hp h' sz) := by
  refine z_startE (lv := [(0, .ref a), (1, .int x1), (2, .ref o)]) hl (by decide +kernel) RL rfl rfl (Nat.le_of_ble_eq_true rfl) (fun P C CT => ?_)
  refine z_aload_n C dL_boxAt_0 2 rfl ?_
  refine z_iconst C dL_boxAt_1 zi_0 ?_
  refine z_aload_n C dL_boxAt_2 0 rfl ?_
  refine z_iload_n C dL_boxAt_3 1 rfl ?_
  refine y_callVC hF C CT rfl (by decide) zlk_L_13 zc_L_44 [.int x1] (fun l D tc b0 r hl h => m_X7_boxAt l D tc ro b0 hl h) rfl rfl (Nat.le_of_ble_eq_true rfl) (by decide) (by decide) (by simp) dL_boxAt_4 (fun v ev => ?_) (fun ev q z hz => ?_)
  · refine z_i2l C dL_boxAt_7 ?_
    refine y_lastore C (ho v ev) dL_boxAt_8 ?_
    refine z_goto C 15 dL_boxAt_9 (by decide) ?_
    refine z_iconst C dL_boxAt_15 zi_0 ?_
    exact y_ireturnE C (by rw [ev]; exact ⟨Nat.le_refl _, rfl, rfl⟩) (by simp) dL_boxAt_16
  · refine z_astore_n (lv' := [(0, .ref a), (1, .int x1), (2, .ref o), (3, .ref q)]) C dL_boxAt_12 (by decide) rfl ?_
    refine z_iconst C dL_boxAt_13 zi_1 ?_
    exact y_ireturnE C (by rw [ev]; exact ⟨hz, rfl, rfl⟩) (by simp) dL_boxAt_14
set_option maxHeartbeats 4000000 in
set_option maxRecDepth 100000 in
theorem we_slipOf (l : Launch) (D : va_G) (tc : Nat → ClassId) (ro : Nat → Nat) (b0 : Nat) {a o : Nat} {x1 : Int32} {hp h' : zHp} {sz : Nat} (hl : l.stackTraces = false) {t : Option Int32} (hF : f_X7_slipOf a x1 hp = some t) (ho : ∀ v, t = some v → zsL hp o 0 v.toInt64 = some h') : zMe l yL_slipOf cL_slipOf 4 (some .int) [(0, 9, 12, 13)] 8 1 6 [.ref a, .int x1, .ref o] D tc ro b0 hp sz (zRw t hp h' sz) := by
  refine z_startE (lv := [(0, .ref a), (1, .int x1), (2, .ref o)]) hl (by decide +kernel) RL rfl rfl (Nat.le_of_ble_eq_true rfl) (fun P C CT => ?_)
  refine z_aload_n C dL_slipOf_0 2 rfl ?_
  refine z_iconst C dL_slipOf_1 zi_0 ?_
  refine z_aload_n C dL_slipOf_2 0 rfl ?_
  refine z_iload_n C dL_slipOf_3 1 rfl ?_
  refine y_callVC hF C CT rfl (by decide) zlk_L_13 zc_L_47 [.int x1] (fun l D tc b0 r hl h => m_X7_slipOf l D tc ro b0 hl h) rfl rfl (Nat.le_of_ble_eq_true rfl) (by decide) (by decide) (by simp) dL_slipOf_4 (fun v ev => ?_) (fun ev q z hz => ?_)
  · refine z_i2l C dL_slipOf_7 ?_
    refine y_lastore C (ho v ev) dL_slipOf_8 ?_
    refine z_goto C 15 dL_slipOf_9 (by decide) ?_
    refine z_iconst C dL_slipOf_15 zi_0 ?_
    exact y_ireturnE C (by rw [ev]; exact ⟨Nat.le_refl _, rfl, rfl⟩) (by simp) dL_slipOf_16
  · refine z_astore_n (lv' := [(0, .ref a), (1, .int x1), (2, .ref o), (3, .ref q)]) C dL_slipOf_12 (by decide) rfl ?_
    refine z_iconst C dL_slipOf_13 zi_1 ?_
    exact y_ireturnE C (by rw [ev]; exact ⟨hz, rfl, rfl⟩) (by simp) dL_slipOf_14
set_option maxHeartbeats 4000000 in
set_option maxRecDepth 100000 in
theorem we_counted (l : Launch) (D : va_G) (tc : Nat → ClassId) (ro : Nat → Nat) (b0 : Nat) {a o : Nat} {x1 x2 x3 : Int32} {hp h' : zHp} {sz : Nat} (hl : l.stackTraces = false) {t : Option Int32} (hF : f_X7_counted a x1 x2 x3 hp = some t) (ho : ∀ v, t = some v → zsL hp o 0 v.toInt64 = some h') : zMe l yL_counted cL_counted 6 (some .int) [(0, 12, 15, 13)] 8 1 6 [.ref a, .int x1, .int x2, .int x3, .ref o] D tc ro b0 hp sz (zRw t hp h' sz) := by
  refine z_startE (lv := [(0, .ref a), (1, .int x1), (2, .int x2), (3, .int x3), (4, .ref o)]) hl (by decide +kernel) RL rfl rfl (Nat.le_of_ble_eq_true rfl) (fun P C CT => ?_)
  refine z_aload C dL_counted_0 4 rfl ?_
  refine z_iconst C dL_counted_2 zi_0 ?_
  refine z_aload_n C dL_counted_3 0 rfl ?_
  refine z_iload_n C dL_counted_4 1 rfl ?_
  refine z_iload_n C dL_counted_5 2 rfl ?_
  refine z_iload_n C dL_counted_6 3 rfl ?_
  refine y_callVC hF C CT rfl (by decide) zlk_L_13 zc_L_50 [.int x1, .int x2, .int x3] (fun l D tc b0 r hl h => m_X7_counted l D tc ro b0 hl h) rfl rfl (Nat.le_of_ble_eq_true rfl) (by decide) (by decide) (by simp) dL_counted_7 (fun v ev => ?_) (fun ev q z hz => ?_)
  · refine z_i2l C dL_counted_10 ?_
    refine y_lastore C (ho v ev) dL_counted_11 ?_
    refine z_goto C 19 dL_counted_12 (by decide) ?_
    refine z_iconst C dL_counted_19 zi_0 ?_
    exact y_ireturnE C (by rw [ev]; exact ⟨Nat.le_refl _, rfl, rfl⟩) (by simp) dL_counted_20
  · refine z_astore (lv' := [(0, .ref a), (1, .int x1), (2, .int x2), (3, .int x3), (4, .ref o), (5, .ref q)]) C dL_counted_15 (by decide) rfl ?_
    refine z_iconst C dL_counted_17 zi_1 ?_
    exact y_ireturnE C (by rw [ev]; exact ⟨hz, rfl, rfl⟩) (by simp) dL_counted_18
set_option maxHeartbeats 4000000 in
set_option maxRecDepth 100000 in
theorem we_countedAt (l : Launch) (D : va_G) (tc : Nat → ClassId) (ro : Nat → Nat) (b0 : Nat) {a o : Nat} {x1 x2 : Int32} {hp h' : zHp} {sz : Nat} (hl : l.stackTraces = false) {t : Option Int32} (hF : f_X7_countedAt a x1 x2 hp = some t) (ho : ∀ v, t = some v → zsL hp o 0 v.toInt64 = some h') : zMe l yL_countedAt cL_countedAt 5 (some .int) [(0, 10, 13, 13)] 8 1 6 [.ref a, .int x1, .int x2, .ref o] D tc ro b0 hp sz (zRw t hp h' sz) := by
  refine z_startE (lv := [(0, .ref a), (1, .int x1), (2, .int x2), (3, .ref o)]) hl (by decide +kernel) RL rfl rfl (Nat.le_of_ble_eq_true rfl) (fun P C CT => ?_)
  refine z_aload_n C dL_countedAt_0 3 rfl ?_
  refine z_iconst C dL_countedAt_1 zi_0 ?_
  refine z_aload_n C dL_countedAt_2 0 rfl ?_
  refine z_iload_n C dL_countedAt_3 1 rfl ?_
  refine z_iload_n C dL_countedAt_4 2 rfl ?_
  refine y_callVC hF C CT rfl (by decide) zlk_L_13 zc_L_54 [.int x1, .int x2] (fun l D tc b0 r hl h => m_X7_countedAt l D tc ro b0 hl h) rfl rfl (Nat.le_of_ble_eq_true rfl) (by decide) (by decide) (by simp) dL_countedAt_5 (fun v ev => ?_) (fun ev q z hz => ?_)
  · refine z_i2l C dL_countedAt_8 ?_
    refine y_lastore C (ho v ev) dL_countedAt_9 ?_
    refine z_goto C 17 dL_countedAt_10 (by decide) ?_
    refine z_iconst C dL_countedAt_17 zi_0 ?_
    exact y_ireturnE C (by rw [ev]; exact ⟨Nat.le_refl _, rfl, rfl⟩) (by simp) dL_countedAt_18
  · refine z_astore (lv' := [(0, .ref a), (1, .int x1), (2, .int x2), (3, .ref o), (4, .ref q)]) C dL_countedAt_13 (by decide) rfl ?_
    refine z_iconst C dL_countedAt_15 zi_1 ?_
    exact y_ireturnE C (by rw [ev]; exact ⟨hz, rfl, rfl⟩) (by simp) dL_countedAt_16
set_option maxHeartbeats 4000000 in
set_option maxRecDepth 100000 in
theorem we_wouldCount (l : Launch) (D : va_G) (tc : Nat → ClassId) (ro : Nat → Nat) (b0 : Nat) {a o : Nat} {x1 x2 x3 : Int32} {hp h' : zHp} {sz : Nat} (hl : l.stackTraces = false) {t : Option Int32} (hF : f_X7_wouldCount a x1 x2 x3 hp = some t) (ho : ∀ v, t = some v → zsL hp o 0 v.toInt64 = some h') : zMe l yL_wouldCount cL_wouldCount 6 (some .int) [(0, 12, 15, 13)] 8 2 12 [.ref a, .int x1, .int x2, .int x3, .ref o] D tc ro b0 hp sz (zRw t hp h' sz) := by
  refine z_startE (lv := [(0, .ref a), (1, .int x1), (2, .int x2), (3, .int x3), (4, .ref o)]) hl (by decide +kernel) RL rfl rfl (Nat.le_of_ble_eq_true rfl) (fun P C CT => ?_)
  refine z_aload C dL_wouldCount_0 4 rfl ?_
  refine z_iconst C dL_wouldCount_2 zi_0 ?_
  refine z_aload_n C dL_wouldCount_3 0 rfl ?_
  refine z_iload_n C dL_wouldCount_4 1 rfl ?_
  refine z_iload_n C dL_wouldCount_5 2 rfl ?_
  refine z_iload_n C dL_wouldCount_6 3 rfl ?_
  refine y_callVC hF C CT rfl (by decide) zlk_L_13 zc_L_57 [.int x1, .int x2, .int x3] (fun l D tc b0 r hl h => m_X7_wouldCount l D tc ro b0 hl h) rfl rfl (Nat.le_of_ble_eq_true rfl) (by decide) (by decide) (by simp) dL_wouldCount_7 (fun v ev => ?_) (fun ev q z hz => ?_)
  · refine z_i2l C dL_wouldCount_10 ?_
    refine y_lastore C (ho v ev) dL_wouldCount_11 ?_
    refine z_goto C 19 dL_wouldCount_12 (by decide) ?_
    refine z_iconst C dL_wouldCount_19 zi_0 ?_
    exact y_ireturnE C (by rw [ev]; exact ⟨Nat.le_refl _, rfl, rfl⟩) (by simp) dL_wouldCount_20
  · refine z_astore (lv' := [(0, .ref a), (1, .int x1), (2, .int x2), (3, .int x3), (4, .ref o), (5, .ref q)]) C dL_wouldCount_15 (by decide) rfl ?_
    refine z_iconst C dL_wouldCount_17 zi_1 ?_
    exact y_ireturnE C (by rw [ev]; exact ⟨hz, rfl, rfl⟩) (by simp) dL_wouldCount_18
set_option maxHeartbeats 4000000 in
set_option maxRecDepth 100000 in
theorem we_isConfirmed (l : Launch) (D : va_G) (tc : Nat → ClassId) (ro : Nat → Nat) (b0 : Nat) {a o : Nat} {x1 : Int32} {hp h' : zHp} {sz : Nat} (hl : l.stackTraces = false) {t : Option Int32} (hF : f_X7_isConfirmed a x1 hp = some t) (ho : ∀ v, t = some v → zsL hp o 0 (if v = 0 then 0 else 1) = some h') : zMe l yL_isConfirmed cL_isConfirmed 4 (some .int) [(0, 16, 19, 13)] 8 1 6 [.ref a, .int x1, .ref o] D tc ro b0 hp sz (zRw t hp h' sz) := by
  refine z_startE (lv := [(0, .ref a), (1, .int x1), (2, .ref o)]) hl (by decide +kernel) RL rfl rfl (Nat.le_of_ble_eq_true rfl) (fun P C CT => ?_)
  refine z_aload_n C dL_isConfirmed_0 2 rfl ?_
  refine z_iconst C dL_isConfirmed_1 zi_0 ?_
  refine z_aload_n C dL_isConfirmed_2 0 rfl ?_
  refine z_iload_n C dL_isConfirmed_3 1 rfl ?_
  refine y_callVC hF C CT rfl (by decide) zlk_L_13 zc_L_60 [.int x1] (fun l D tc b0 r hl h => m_X7_isConfirmed l D tc ro b0 hl h) rfl rfl (Nat.le_of_ble_eq_true rfl) (by decide) (by decide) (by simp) dL_isConfirmed_4 (fun v ev => ?_) (fun ev q z hz => ?_)
  · have hs : ∀ q : Int64, q = (if v = 0 then 0 else 1) → zGq P (zEndE P (zRw t hp h' sz)) (some ()) 15 [(0, .ref a), (1, .int x1), (2, .ref o)] [.long q, .int 0, .ref o] hp sz (0 + 1) (0 + 6) := by
      intro q eq
      refine y_lastore C (by rw [eq]; exact ho v ev) dL_isConfirmed_15 ?_
      refine z_goto C 22 dL_isConfirmed_16 (by decide) ?_
      refine z_iconst C dL_isConfirmed_22 zi_0 ?_
      exact y_ireturnE C (by rw [ev]; exact ⟨Nat.le_refl _, rfl, rfl⟩) (by simp) dL_isConfirmed_23
    by_cases e0 : v = 0
    · refine y_ifeqT C 14 e0 dL_isConfirmed_7 (by decide) ?_
      refine z_lconst (v := (0 : Int64)) C dL_isConfirmed_14 (by decide) ?_
      exact hs _ (by rw [if_pos e0])
    · refine y_ifeqF C 14 e0 dL_isConfirmed_7 (by decide) ?_
      refine z_lconst (v := (1 : Int64)) C dL_isConfirmed_10 (by decide) ?_
      refine z_goto C 15 dL_isConfirmed_11 (by decide) ?_
      exact hs _ (by rw [if_neg e0])
  · refine z_astore_n (lv' := [(0, .ref a), (1, .int x1), (2, .ref o), (3, .ref q)]) C dL_isConfirmed_19 (by decide) rfl ?_
    refine z_iconst C dL_isConfirmed_20 zi_1 ?_
    exact y_ireturnE C (by rw [ev]; exact ⟨hz, rfl, rfl⟩) (by simp) dL_isConfirmed_21
set_option maxHeartbeats 4000000 in
set_option maxRecDepth 100000 in
theorem we_result (l : Launch) (D : va_G) (tc : Nat → ClassId) (ro : Nat → Nat) (b0 : Nat) {a o : Nat} {x1 x2 : Int32} {hp h' : zHp} {sz : Nat} (hl : l.stackTraces = false) {t : Option Int32} (hF : f_X7_result a x1 x2 hp = some t) (ho : ∀ v, t = some v → zsL hp o 0 v.toInt64 = some h') : zMe l yL_result cL_result 5 (some .int) [(0, 10, 13, 13)] 8 1 6 [.ref a, .int x1, .int x2, .ref o] D tc ro b0 hp sz (zRw t hp h' sz) := by
  refine z_startE (lv := [(0, .ref a), (1, .int x1), (2, .int x2), (3, .ref o)]) hl (by decide +kernel) RL rfl rfl (Nat.le_of_ble_eq_true rfl) (fun P C CT => ?_)
  refine z_aload_n C dL_result_0 3 rfl ?_
  refine z_iconst C dL_result_1 zi_0 ?_
  refine z_aload_n C dL_result_2 0 rfl ?_
  refine z_iload_n C dL_result_3 1 rfl ?_
  refine z_iload_n C dL_result_4 2 rfl ?_
  refine y_callVC hF C CT rfl (by decide) zlk_L_13 zc_L_63 [.int x1, .int x2] (fun l D tc b0 r hl h => m_X7_result l D tc ro b0 hl h) rfl rfl (Nat.le_of_ble_eq_true rfl) (by decide) (by decide) (by simp) dL_result_5 (fun v ev => ?_) (fun ev q z hz => ?_)
  · refine z_i2l C dL_result_8 ?_
    refine y_lastore C (ho v ev) dL_result_9 ?_
    refine z_goto C 17 dL_result_10 (by decide) ?_
    refine z_iconst C dL_result_17 zi_0 ?_
    exact y_ireturnE C (by rw [ev]; exact ⟨Nat.le_refl _, rfl, rfl⟩) (by simp) dL_result_18
  · refine z_astore (lv' := [(0, .ref a), (1, .int x1), (2, .int x2), (3, .ref o), (4, .ref q)]) C dL_result_13 (by decide) rfl ?_
    refine z_iconst C dL_result_15 zi_1 ?_
    exact y_ireturnE C (by rw [ev]; exact ⟨hz, rfl, rfl⟩) (by simp) dL_result_16
set_option maxHeartbeats 4000000 in
set_option maxRecDepth 100000 in
theorem we_surplus (l : Launch) (D : va_G) (tc : Nat → ClassId) (ro : Nat → Nat) (b0 : Nat) {a o : Nat} {x1 : Int32} {hp h' : zHp} {sz : Nat} (hl : l.stackTraces = false) {t : Option Int32} (hF : f_X7_surplus a x1 hp = some t) (ho : ∀ v, t = some v → zsL hp o 0 v.toInt64 = some h') : zMe l yL_surplus cL_surplus 4 (some .int) [(0, 9, 12, 13)] 8 1 6 [.ref a, .int x1, .ref o] D tc ro b0 hp sz (zRw t hp h' sz) := by
  refine z_startE (lv := [(0, .ref a), (1, .int x1), (2, .ref o)]) hl (by decide +kernel) RL rfl rfl (Nat.le_of_ble_eq_true rfl) (fun P C CT => ?_)
  refine z_aload_n C dL_surplus_0 2 rfl ?_
  refine z_iconst C dL_surplus_1 zi_0 ?_
  refine z_aload_n C dL_surplus_2 0 rfl ?_
  refine z_iload_n C dL_surplus_3 1 rfl ?_
  refine y_callVC hF C CT rfl (by decide) zlk_L_13 zc_L_66 [.int x1] (fun l D tc b0 r hl h => m_X7_surplus l D tc ro b0 hl h) rfl rfl (Nat.le_of_ble_eq_true rfl) (by decide) (by decide) (by simp) dL_surplus_4 (fun v ev => ?_) (fun ev q z hz => ?_)
  · refine z_i2l C dL_surplus_7 ?_
    refine y_lastore C (ho v ev) dL_surplus_8 ?_
    refine z_goto C 15 dL_surplus_9 (by decide) ?_
    refine z_iconst C dL_surplus_15 zi_0 ?_
    exact y_ireturnE C (by rw [ev]; exact ⟨Nat.le_refl _, rfl, rfl⟩) (by simp) dL_surplus_16
  · refine z_astore_n (lv' := [(0, .ref a), (1, .int x1), (2, .ref o), (3, .ref q)]) C dL_surplus_12 (by decide) rfl ?_
    refine z_iconst C dL_surplus_13 zi_1 ?_
    exact y_ireturnE C (by rw [ev]; exact ⟨hz, rfl, rfl⟩) (by simp) dL_surplus_14
set_option maxHeartbeats 4000000 in
set_option maxRecDepth 100000 in
theorem we_isOff (l : Launch) (D : va_G) (tc : Nat → ClassId) (ro : Nat → Nat) (b0 : Nat) {a o : Nat} {x1 : Int32} {hp h' : zHp} {sz : Nat} (hl : l.stackTraces = false) {t : Option Int32} (hF : f_X7_isOff a x1 hp = some t) (ho : ∀ v, t = some v → zsL hp o 0 (if v = 0 then 0 else 1) = some h') : zMe l yL_isOff cL_isOff 4 (some .int) [(0, 16, 19, 13)] 8 1 6 [.ref a, .int x1, .ref o] D tc ro b0 hp sz (zRw t hp h' sz) := by
  refine z_startE (lv := [(0, .ref a), (1, .int x1), (2, .ref o)]) hl (by decide +kernel) RL rfl rfl (Nat.le_of_ble_eq_true rfl) (fun P C CT => ?_)
  refine z_aload_n C dL_isOff_0 2 rfl ?_
  refine z_iconst C dL_isOff_1 zi_0 ?_
  refine z_aload_n C dL_isOff_2 0 rfl ?_
  refine z_iload_n C dL_isOff_3 1 rfl ?_
  refine y_callVC hF C CT rfl (by decide) zlk_L_13 zc_L_69 [.int x1] (fun l D tc b0 r hl h => m_X7_isOff l D tc ro b0 hl h) rfl rfl (Nat.le_of_ble_eq_true rfl) (by decide) (by decide) (by simp) dL_isOff_4 (fun v ev => ?_) (fun ev q z hz => ?_)
  · have hs : ∀ q : Int64, q = (if v = 0 then 0 else 1) → zGq P (zEndE P (zRw t hp h' sz)) (some ()) 15 [(0, .ref a), (1, .int x1), (2, .ref o)] [.long q, .int 0, .ref o] hp sz (0 + 1) (0 + 6) := by
      intro q eq
      refine y_lastore C (by rw [eq]; exact ho v ev) dL_isOff_15 ?_
      refine z_goto C 22 dL_isOff_16 (by decide) ?_
      refine z_iconst C dL_isOff_22 zi_0 ?_
      exact y_ireturnE C (by rw [ev]; exact ⟨Nat.le_refl _, rfl, rfl⟩) (by simp) dL_isOff_23
    by_cases e0 : v = 0
    · refine y_ifeqT C 14 e0 dL_isOff_7 (by decide) ?_
      refine z_lconst (v := (0 : Int64)) C dL_isOff_14 (by decide) ?_
      exact hs _ (by rw [if_pos e0])
    · refine y_ifeqF C 14 e0 dL_isOff_7 (by decide) ?_
      refine z_lconst (v := (1 : Int64)) C dL_isOff_10 (by decide) ?_
      refine z_goto C 15 dL_isOff_11 (by decide) ?_
      exact hs _ (by rw [if_neg e0])
  · refine z_astore_n (lv' := [(0, .ref a), (1, .int x1), (2, .ref o), (3, .ref q)]) C dL_isOff_19 (by decide) rfl ?_
    refine z_iconst C dL_isOff_20 zi_1 ?_
    exact y_ireturnE C (by rw [ev]; exact ⟨hz, rfl, rfl⟩) (by simp) dL_isOff_21
set_option maxHeartbeats 4000000 in
set_option maxRecDepth 100000 in
theorem we_wardVotes (l : Launch) (D : va_G) (tc : Nat → ClassId) (ro : Nat → Nat) (b0 : Nat) {a o : Nat} {x1 x2 : Int32} {hp h' : zHp} {sz : Nat} (hl : l.stackTraces = false) {t : Option Int32} (hF : f_X7_wardVotes a x1 x2 hp = some t) (ho : ∀ v, t = some v → zsL hp o 0 v.toInt64 = some h') : zMe l yL_wardVotes cL_wardVotes 5 (some .int) [(0, 10, 13, 13)] 8 1 6 [.ref a, .int x1, .int x2, .ref o] D tc ro b0 hp sz (zRw t hp h' sz) := by
  refine z_startE (lv := [(0, .ref a), (1, .int x1), (2, .int x2), (3, .ref o)]) hl (by decide +kernel) RL rfl rfl (Nat.le_of_ble_eq_true rfl) (fun P C CT => ?_)
  refine z_aload_n C dL_wardVotes_0 3 rfl ?_
  refine z_iconst C dL_wardVotes_1 zi_0 ?_
  refine z_aload_n C dL_wardVotes_2 0 rfl ?_
  refine z_iload_n C dL_wardVotes_3 1 rfl ?_
  refine z_iload_n C dL_wardVotes_4 2 rfl ?_
  refine y_callVC hF C CT rfl (by decide) zlk_L_13 zc_L_72 [.int x1, .int x2] (fun l D tc b0 r hl h => m_X7_wardVotes l D tc ro b0 hl h) rfl rfl (Nat.le_of_ble_eq_true rfl) (by decide) (by decide) (by simp) dL_wardVotes_5 (fun v ev => ?_) (fun ev q z hz => ?_)
  · refine z_i2l C dL_wardVotes_8 ?_
    refine y_lastore C (ho v ev) dL_wardVotes_9 ?_
    refine z_goto C 17 dL_wardVotes_10 (by decide) ?_
    refine z_iconst C dL_wardVotes_17 zi_0 ?_
    exact y_ireturnE C (by rw [ev]; exact ⟨Nat.le_refl _, rfl, rfl⟩) (by simp) dL_wardVotes_18
  · refine z_astore (lv' := [(0, .ref a), (1, .int x1), (2, .int x2), (3, .ref o), (4, .ref q)]) C dL_wardVotes_13 (by decide) rfl ?_
    refine z_iconst C dL_wardVotes_15 zi_1 ?_
    exact y_ireturnE C (by rw [ev]; exact ⟨hz, rfl, rfl⟩) (by simp) dL_wardVotes_16
set_option maxHeartbeats 4000000 in
set_option maxRecDepth 100000 in
theorem we_leader (l : Launch) (D : va_G) (tc : Nat → ClassId) (ro : Nat → Nat) (b0 : Nat) {a o : Nat} {x1 : Int32} {hp h' : zHp} {sz : Nat} (hl : l.stackTraces = false) {t : Option Int32} (hF : f_X7_leader a x1 hp = some t) (ho : ∀ v, t = some v → zsL hp o 0 v.toInt64 = some h') : zMe l yL_leader cL_leader 4 (some .int) [(0, 9, 12, 13)] 8 1 6 [.ref a, .int x1, .ref o] D tc ro b0 hp sz (zRw t hp h' sz) := by
  refine z_startE (lv := [(0, .ref a), (1, .int x1), (2, .ref o)]) hl (by decide +kernel) RL rfl rfl (Nat.le_of_ble_eq_true rfl) (fun P C CT => ?_)
  refine z_aload_n C dL_leader_0 2 rfl ?_
  refine z_iconst C dL_leader_1 zi_0 ?_
  refine z_aload_n C dL_leader_2 0 rfl ?_
  refine z_iload_n C dL_leader_3 1 rfl ?_
  refine y_callVC hF C CT rfl (by decide) zlk_L_13 zc_L_75 [.int x1] (fun l D tc b0 r hl h => m_X7_leader l D tc ro b0 hl h) rfl rfl (Nat.le_of_ble_eq_true rfl) (by decide) (by decide) (by simp) dL_leader_4 (fun v ev => ?_) (fun ev q z hz => ?_)
  · refine z_i2l C dL_leader_7 ?_
    refine y_lastore C (ho v ev) dL_leader_8 ?_
    refine z_goto C 15 dL_leader_9 (by decide) ?_
    refine z_iconst C dL_leader_15 zi_0 ?_
    exact y_ireturnE C (by rw [ev]; exact ⟨Nat.le_refl _, rfl, rfl⟩) (by simp) dL_leader_16
  · refine z_astore_n (lv' := [(0, .ref a), (1, .int x1), (2, .ref o), (3, .ref q)]) C dL_leader_12 (by decide) rfl ?_
    refine z_iconst C dL_leader_13 zi_1 ?_
    exact y_ireturnE C (by rw [ev]; exact ⟨hz, rfl, rfl⟩) (by simp) dL_leader_14
set_option maxHeartbeats 4000000 in
set_option maxRecDepth 100000 in
theorem we_margin (l : Launch) (D : va_G) (tc : Nat → ClassId) (ro : Nat → Nat) (b0 : Nat) {a o : Nat} {x1 : Int32} {hp h' : zHp} {sz : Nat} (hl : l.stackTraces = false) {t : Option Int32} (hF : f_X7_margin a x1 hp = some t) (ho : ∀ v, t = some v → zsL hp o 0 v.toInt64 = some h') : zMe l yL_margin cL_margin 4 (some .int) [(0, 9, 12, 13)] 8 1 6 [.ref a, .int x1, .ref o] D tc ro b0 hp sz (zRw t hp h' sz) := by
  refine z_startE (lv := [(0, .ref a), (1, .int x1), (2, .ref o)]) hl (by decide +kernel) RL rfl rfl (Nat.le_of_ble_eq_true rfl) (fun P C CT => ?_)
  refine z_aload_n C dL_margin_0 2 rfl ?_
  refine z_iconst C dL_margin_1 zi_0 ?_
  refine z_aload_n C dL_margin_2 0 rfl ?_
  refine z_iload_n C dL_margin_3 1 rfl ?_
  refine y_callVC hF C CT rfl (by decide) zlk_L_13 zc_L_78 [.int x1] (fun l D tc b0 r hl h => m_X7_margin l D tc ro b0 hl h) rfl rfl (Nat.le_of_ble_eq_true rfl) (by decide) (by decide) (by simp) dL_margin_4 (fun v ev => ?_) (fun ev q z hz => ?_)
  · refine z_i2l C dL_margin_7 ?_
    refine y_lastore C (ho v ev) dL_margin_8 ?_
    refine z_goto C 15 dL_margin_9 (by decide) ?_
    refine z_iconst C dL_margin_15 zi_0 ?_
    exact y_ireturnE C (by rw [ev]; exact ⟨Nat.le_refl _, rfl, rfl⟩) (by simp) dL_margin_16
  · refine z_astore_n (lv' := [(0, .ref a), (1, .int x1), (2, .ref o), (3, .ref q)]) C dL_margin_12 (by decide) rfl ?_
    refine z_iconst C dL_margin_13 zi_1 ?_
    exact y_ireturnE C (by rw [ev]; exact ⟨hz, rfl, rfl⟩) (by simp) dL_margin_14
set_option maxHeartbeats 4000000 in
set_option maxRecDepth 100000 in
theorem we_isClose (l : Launch) (D : va_G) (tc : Nat → ClassId) (ro : Nat → Nat) (b0 : Nat) {a o : Nat} {x1 : Int32} {hp h' : zHp} {sz : Nat} (hl : l.stackTraces = false) {t : Option Int32} (hF : f_X7_isClose a x1 hp = some t) (ho : ∀ v, t = some v → zsL hp o 0 (if v = 0 then 0 else 1) = some h') : zMe l yL_isClose cL_isClose 4 (some .int) [(0, 16, 19, 13)] 8 1 6 [.ref a, .int x1, .ref o] D tc ro b0 hp sz (zRw t hp h' sz) := by
  refine z_startE (lv := [(0, .ref a), (1, .int x1), (2, .ref o)]) hl (by decide +kernel) RL rfl rfl (Nat.le_of_ble_eq_true rfl) (fun P C CT => ?_)
  refine z_aload_n C dL_isClose_0 2 rfl ?_
  refine z_iconst C dL_isClose_1 zi_0 ?_
  refine z_aload_n C dL_isClose_2 0 rfl ?_
  refine z_iload_n C dL_isClose_3 1 rfl ?_
  refine y_callVC hF C CT rfl (by decide) zlk_L_13 zc_L_81 [.int x1] (fun l D tc b0 r hl h => m_X7_isClose l D tc ro b0 hl h) rfl rfl (Nat.le_of_ble_eq_true rfl) (by decide) (by decide) (by simp) dL_isClose_4 (fun v ev => ?_) (fun ev q z hz => ?_)
  · have hs : ∀ q : Int64, q = (if v = 0 then 0 else 1) → zGq P (zEndE P (zRw t hp h' sz)) (some ()) 15 [(0, .ref a), (1, .int x1), (2, .ref o)] [.long q, .int 0, .ref o] hp sz (0 + 1) (0 + 6) := by
      intro q eq
      refine y_lastore C (by rw [eq]; exact ho v ev) dL_isClose_15 ?_
      refine z_goto C 22 dL_isClose_16 (by decide) ?_
      refine z_iconst C dL_isClose_22 zi_0 ?_
      exact y_ireturnE C (by rw [ev]; exact ⟨Nat.le_refl _, rfl, rfl⟩) (by simp) dL_isClose_23
    by_cases e0 : v = 0
    · refine y_ifeqT C 14 e0 dL_isClose_7 (by decide) ?_
      refine z_lconst (v := (0 : Int64)) C dL_isClose_14 (by decide) ?_
      exact hs _ (by rw [if_pos e0])
    · refine y_ifeqF C 14 e0 dL_isClose_7 (by decide) ?_
      refine z_lconst (v := (1 : Int64)) C dL_isClose_10 (by decide) ?_
      refine z_goto C 15 dL_isClose_11 (by decide) ?_
      exact hs _ (by rw [if_neg e0])
  · refine z_astore_n (lv' := [(0, .ref a), (1, .int x1), (2, .ref o), (3, .ref q)]) C dL_isClose_19 (by decide) rfl ?_
    refine z_iconst C dL_isClose_20 zi_1 ?_
    exact y_ireturnE C (by rw [ev]; exact ⟨hz, rfl, rfl⟩) (by simp) dL_isClose_21
set_option maxHeartbeats 4000000 in
set_option maxRecDepth 100000 in
theorem we_whyNot (l : Launch) (D : va_G) (tc : Nat → ClassId) (ro : Nat → Nat) (b0 : Nat) {a o : Nat} {x1 : Int32} {hp h' : zHp} {sz : Nat} (hl : l.stackTraces = false) {t : Option Int32} (hF : f_X7_whyNot a x1 hp = some t) (ho : ∀ v, t = some v → zsL hp o 0 v.toInt64 = some h') : zMe l yL_whyNot cL_whyNot 4 (some .int) [(0, 9, 12, 13)] 8 1 6 [.ref a, .int x1, .ref o] D tc ro b0 hp sz (zRw t hp h' sz) := by
  refine z_startE (lv := [(0, .ref a), (1, .int x1), (2, .ref o)]) hl (by decide +kernel) RL rfl rfl (Nat.le_of_ble_eq_true rfl) (fun P C CT => ?_)
  refine z_aload_n C dL_whyNot_0 2 rfl ?_
  refine z_iconst C dL_whyNot_1 zi_0 ?_
  refine z_aload_n C dL_whyNot_2 0 rfl ?_
  refine z_iload_n C dL_whyNot_3 1 rfl ?_
  refine y_callVC hF C CT rfl (by decide) zlk_L_13 zc_L_84 [.int x1] (fun l D tc b0 r hl h => m_X7_whyNot l D tc ro b0 hl h) rfl rfl (Nat.le_of_ble_eq_true rfl) (by decide) (by decide) (by simp) dL_whyNot_4 (fun v ev => ?_) (fun ev q z hz => ?_)
  · refine z_i2l C dL_whyNot_7 ?_
    refine y_lastore C (ho v ev) dL_whyNot_8 ?_
    refine z_goto C 15 dL_whyNot_9 (by decide) ?_
    refine z_iconst C dL_whyNot_15 zi_0 ?_
    exact y_ireturnE C (by rw [ev]; exact ⟨Nat.le_refl _, rfl, rfl⟩) (by simp) dL_whyNot_16
  · refine z_astore_n (lv' := [(0, .ref a), (1, .int x1), (2, .ref o), (3, .ref q)]) C dL_whyNot_12 (by decide) rfl ?_
    refine z_iconst C dL_whyNot_13 zi_1 ?_
    exact y_ireturnE C (by rw [ev]; exact ⟨hz, rfl, rfl⟩) (by simp) dL_whyNot_14
set_option maxHeartbeats 4000000 in
set_option maxRecDepth 100000 in
theorem we_countsLeft (l : Launch) (D : va_G) (tc : Nat → ClassId) (ro : Nat → Nat) (b0 : Nat) {a o : Nat} {x1 : Int32} {hp h' : zHp} {sz : Nat} (hl : l.stackTraces = false) {t : Option Int32} (hF : f_X7_countsLeft a x1 hp = some t) (ho : ∀ v, t = some v → zsL hp o 0 v.toInt64 = some h') : zMe l yL_countsLeft cL_countsLeft 4 (some .int) [(0, 9, 12, 13)] 8 1 6 [.ref a, .int x1, .ref o] D tc ro b0 hp sz (zRw t hp h' sz) := by
  refine z_startE (lv := [(0, .ref a), (1, .int x1), (2, .ref o)]) hl (by decide +kernel) RL rfl rfl (Nat.le_of_ble_eq_true rfl) (fun P C CT => ?_)
  refine z_aload_n C dL_countsLeft_0 2 rfl ?_
  refine z_iconst C dL_countsLeft_1 zi_0 ?_
  refine z_aload_n C dL_countsLeft_2 0 rfl ?_
  refine z_iload_n C dL_countsLeft_3 1 rfl ?_
  refine y_callVC hF C CT rfl (by decide) zlk_L_13 zc_L_87 [.int x1] (fun l D tc b0 r hl h => m_X7_countsLeft l D tc ro b0 hl h) rfl rfl (Nat.le_of_ble_eq_true rfl) (by decide) (by decide) (by simp) dL_countsLeft_4 (fun v ev => ?_) (fun ev q z hz => ?_)
  · refine z_i2l C dL_countsLeft_7 ?_
    refine y_lastore C (ho v ev) dL_countsLeft_8 ?_
    refine z_goto C 15 dL_countsLeft_9 (by decide) ?_
    refine z_iconst C dL_countsLeft_15 zi_0 ?_
    exact y_ireturnE C (by rw [ev]; exact ⟨Nat.le_refl _, rfl, rfl⟩) (by simp) dL_countsLeft_16
  · refine z_astore_n (lv' := [(0, .ref a), (1, .int x1), (2, .ref o), (3, .ref q)]) C dL_countsLeft_12 (by decide) rfl ?_
    refine z_iconst C dL_countsLeft_13 zi_1 ?_
    exact y_ireturnE C (by rw [ev]; exact ⟨hz, rfl, rfl⟩) (by simp) dL_countsLeft_14
set_option maxHeartbeats 4000000 in
set_option maxRecDepth 100000 in
theorem we_rightTable (l : Launch) (D : va_G) (tc : Nat → ClassId) (ro : Nat → Nat) (b0 : Nat) {a o : Nat} {x1 : Int32} {hp h' : zHp} {sz : Nat} (hl : l.stackTraces = false) {t : Option Int32} (hF : f_X7_rightTable a x1 hp = some t) (ho : ∀ v, t = some v → zsL hp o 0 v.toInt64 = some h') : zMe l yL_rightTable cL_rightTable 4 (some .int) [(0, 9, 12, 13)] 8 1 6 [.ref a, .int x1, .ref o] D tc ro b0 hp sz (zRw t hp h' sz) := by
  refine z_startE (lv := [(0, .ref a), (1, .int x1), (2, .ref o)]) hl (by decide +kernel) RL rfl rfl (Nat.le_of_ble_eq_true rfl) (fun P C CT => ?_)
  refine z_aload_n C dL_rightTable_0 2 rfl ?_
  refine z_iconst C dL_rightTable_1 zi_0 ?_
  refine z_aload_n C dL_rightTable_2 0 rfl ?_
  refine z_iload_n C dL_rightTable_3 1 rfl ?_
  refine y_callVC hF C CT rfl (by decide) zlk_L_13 zc_L_90 [.int x1] (fun l D tc b0 r hl h => m_X7_rightTable l D tc ro b0 hl h) rfl rfl (Nat.le_of_ble_eq_true rfl) (by decide) (by decide) (by simp) dL_rightTable_4 (fun v ev => ?_) (fun ev q z hz => ?_)
  · refine z_i2l C dL_rightTable_7 ?_
    refine y_lastore C (ho v ev) dL_rightTable_8 ?_
    refine z_goto C 15 dL_rightTable_9 (by decide) ?_
    refine z_iconst C dL_rightTable_15 zi_0 ?_
    exact y_ireturnE C (by rw [ev]; exact ⟨Nat.le_refl _, rfl, rfl⟩) (by simp) dL_rightTable_16
  · refine z_astore_n (lv' := [(0, .ref a), (1, .int x1), (2, .ref o), (3, .ref q)]) C dL_rightTable_12 (by decide) rfl ?_
    refine z_iconst C dL_rightTable_13 zi_1 ?_
    exact y_ireturnE C (by rw [ev]; exact ⟨hz, rfl, rfl⟩) (by simp) dL_rightTable_14
set_option maxHeartbeats 4000000 in
set_option maxRecDepth 100000 in
theorem we_isRegionDeclared (l : Launch) (D : va_G) (tc : Nat → ClassId) (ro : Nat → Nat) (b0 : Nat) {a o : Nat} {x1 : Int32} {hp h' : zHp} {sz : Nat} (hl : l.stackTraces = false) {t : Option Int32} (hF : f_X7_isRegionDeclared a x1 hp = some t) (ho : ∀ v, t = some v → zsL hp o 0 (if v = 0 then 0 else 1) = some h') : zMe l yL_isRegionDeclared cL_isRegionDeclared 4 (some .int) [(0, 16, 19, 13)] 8 1 6 [.ref a, .int x1, .ref o] D tc ro b0 hp sz (zRw t hp h' sz) := by
  refine z_startE (lv := [(0, .ref a), (1, .int x1), (2, .ref o)]) hl (by decide +kernel) RL rfl rfl (Nat.le_of_ble_eq_true rfl) (fun P C CT => ?_)
  refine z_aload_n C dL_isRegionDeclared_0 2 rfl ?_
  refine z_iconst C dL_isRegionDeclared_1 zi_0 ?_
  refine z_aload_n C dL_isRegionDeclared_2 0 rfl ?_
  refine z_iload_n C dL_isRegionDeclared_3 1 rfl ?_
  refine y_callVC hF C CT rfl (by decide) zlk_L_13 zc_L_93 [.int x1] (fun l D tc b0 r hl h => m_X7_isRegionDeclared l D tc ro b0 hl h) rfl rfl (Nat.le_of_ble_eq_true rfl) (by decide) (by decide) (by simp) dL_isRegionDeclared_4 (fun v ev => ?_) (fun ev q z hz => ?_)
  · have hs : ∀ q : Int64, q = (if v = 0 then 0 else 1) → zGq P (zEndE P (zRw t hp h' sz)) (some ()) 15 [(0, .ref a), (1, .int x1), (2, .ref o)] [.long q, .int 0, .ref o] hp sz (0 + 1) (0 + 6) := by
      intro q eq
      refine y_lastore C (by rw [eq]; exact ho v ev) dL_isRegionDeclared_15 ?_
      refine z_goto C 22 dL_isRegionDeclared_16 (by decide) ?_
      refine z_iconst C dL_isRegionDeclared_22 zi_0 ?_
      exact y_ireturnE C (by rw [ev]; exact ⟨Nat.le_refl _, rfl, rfl⟩) (by simp) dL_isRegionDeclared_23
    by_cases e0 : v = 0
    · refine y_ifeqT C 14 e0 dL_isRegionDeclared_7 (by decide) ?_
      refine z_lconst (v := (0 : Int64)) C dL_isRegionDeclared_14 (by decide) ?_
      exact hs _ (by rw [if_pos e0])
    · refine y_ifeqF C 14 e0 dL_isRegionDeclared_7 (by decide) ?_
      refine z_lconst (v := (1 : Int64)) C dL_isRegionDeclared_10 (by decide) ?_
      refine z_goto C 15 dL_isRegionDeclared_11 (by decide) ?_
      exact hs _ (by rw [if_neg e0])
  · refine z_astore_n (lv' := [(0, .ref a), (1, .int x1), (2, .ref o), (3, .ref q)]) C dL_isRegionDeclared_19 (by decide) rfl ?_
    refine z_iconst C dL_isRegionDeclared_20 zi_1 ?_
    exact y_ireturnE C (by rw [ev]; exact ⟨hz, rfl, rfl⟩) (by simp) dL_isRegionDeclared_21
set_option maxHeartbeats 4000000 in
set_option maxRecDepth 100000 in
theorem we_regionVotes (l : Launch) (D : va_G) (tc : Nat → ClassId) (ro : Nat → Nat) (b0 : Nat) {a o : Nat} {x1 x2 : Int32} {hp h' : zHp} {sz : Nat} (hl : l.stackTraces = false) {t : Option Int32} (hF : f_X7_regionVotes a x1 x2 hp = some t) (ho : ∀ v, t = some v → zsL hp o 0 v.toInt64 = some h') : zMe l yL_regionVotes cL_regionVotes 5 (some .int) [(0, 10, 13, 13)] 8 1 6 [.ref a, .int x1, .int x2, .ref o] D tc ro b0 hp sz (zRw t hp h' sz) := by
  refine z_startE (lv := [(0, .ref a), (1, .int x1), (2, .int x2), (3, .ref o)]) hl (by decide +kernel) RL rfl rfl (Nat.le_of_ble_eq_true rfl) (fun P C CT => ?_)
  refine z_aload_n C dL_regionVotes_0 3 rfl ?_
  refine z_iconst C dL_regionVotes_1 zi_0 ?_
  refine z_aload_n C dL_regionVotes_2 0 rfl ?_
  refine z_iload_n C dL_regionVotes_3 1 rfl ?_
  refine z_iload_n C dL_regionVotes_4 2 rfl ?_
  refine y_callVC hF C CT rfl (by decide) zlk_L_13 zc_L_96 [.int x1, .int x2] (fun l D tc b0 r hl h => m_X7_regionVotes l D tc ro b0 hl h) rfl rfl (Nat.le_of_ble_eq_true rfl) (by decide) (by decide) (by simp) dL_regionVotes_5 (fun v ev => ?_) (fun ev q z hz => ?_)
  · refine z_i2l C dL_regionVotes_8 ?_
    refine y_lastore C (ho v ev) dL_regionVotes_9 ?_
    refine z_goto C 17 dL_regionVotes_10 (by decide) ?_
    refine z_iconst C dL_regionVotes_17 zi_0 ?_
    exact y_ireturnE C (by rw [ev]; exact ⟨Nat.le_refl _, rfl, rfl⟩) (by simp) dL_regionVotes_18
  · refine z_astore (lv' := [(0, .ref a), (1, .int x1), (2, .int x2), (3, .ref o), (4, .ref q)]) C dL_regionVotes_13 (by decide) rfl ?_
    refine z_iconst C dL_regionVotes_15 zi_1 ?_
    exact y_ireturnE C (by rw [ev]; exact ⟨hz, rfl, rfl⟩) (by simp) dL_regionVotes_16
set_option maxHeartbeats 4000000 in
set_option maxRecDepth 100000 in
theorem we_regionSeats (l : Launch) (D : va_G) (tc : Nat → ClassId) (ro : Nat → Nat) (b0 : Nat) {a o : Nat} {x1 x2 : Int32} {hp h' : zHp} {sz : Nat} (hl : l.stackTraces = false) {t : Option Int32} (hF : f_X7_regionSeats a x1 x2 hp = some t) (ho : ∀ v, t = some v → zsL hp o 0 v.toInt64 = some h') : zMe l yL_regionSeats cL_regionSeats 5 (some .int) [(0, 10, 13, 13)] 8 1 6 [.ref a, .int x1, .int x2, .ref o] D tc ro b0 hp sz (zRw t hp h' sz) := by
  refine z_startE (lv := [(0, .ref a), (1, .int x1), (2, .int x2), (3, .ref o)]) hl (by decide +kernel) RL rfl rfl (Nat.le_of_ble_eq_true rfl) (fun P C CT => ?_)
  refine z_aload_n C dL_regionSeats_0 3 rfl ?_
  refine z_iconst C dL_regionSeats_1 zi_0 ?_
  refine z_aload_n C dL_regionSeats_2 0 rfl ?_
  refine z_iload_n C dL_regionSeats_3 1 rfl ?_
  refine z_iload_n C dL_regionSeats_4 2 rfl ?_
  refine y_callVC hF C CT rfl (by decide) zlk_L_13 zc_L_99 [.int x1, .int x2] (fun l D tc b0 r hl h => m_X7_regionSeats l D tc ro b0 hl h) rfl rfl (Nat.le_of_ble_eq_true rfl) (by decide) (by decide) (by simp) dL_regionSeats_5 (fun v ev => ?_) (fun ev q z hz => ?_)
  · refine z_i2l C dL_regionSeats_8 ?_
    refine y_lastore C (ho v ev) dL_regionSeats_9 ?_
    refine z_goto C 17 dL_regionSeats_10 (by decide) ?_
    refine z_iconst C dL_regionSeats_17 zi_0 ?_
    exact y_ireturnE C (by rw [ev]; exact ⟨Nat.le_refl _, rfl, rfl⟩) (by simp) dL_regionSeats_18
  · refine z_astore (lv' := [(0, .ref a), (1, .int x1), (2, .int x2), (3, .ref o), (4, .ref q)]) C dL_regionSeats_13 (by decide) rfl ?_
    refine z_iconst C dL_regionSeats_15 zi_1 ?_
    exact y_ireturnE C (by rw [ev]; exact ⟨hz, rfl, rfl⟩) (by simp) dL_regionSeats_16
set_option maxHeartbeats 4000000 in
set_option maxRecDepth 100000 in
theorem we_isDecided (l : Launch) (D : va_G) (tc : Nat → ClassId) (ro : Nat → Nat) (b0 : Nat) {a o : Nat} {x1 : Int32} {hp h' : zHp} {sz : Nat} (hl : l.stackTraces = false) {t : Option Int32} (hF : f_X7_isDecided a x1 hp = some t) (ho : ∀ v, t = some v → zsL hp o 0 (if v = 0 then 0 else 1) = some h') : zMe l yL_isDecided cL_isDecided 4 (some .int) [(0, 16, 19, 13)] 8 1 6 [.ref a, .int x1, .ref o] D tc ro b0 hp sz (zRw t hp h' sz) := by
  refine z_startE (lv := [(0, .ref a), (1, .int x1), (2, .ref o)]) hl (by decide +kernel) RL rfl rfl (Nat.le_of_ble_eq_true rfl) (fun P C CT => ?_)
  refine z_aload_n C dL_isDecided_0 2 rfl ?_
  refine z_iconst C dL_isDecided_1 zi_0 ?_
  refine z_aload_n C dL_isDecided_2 0 rfl ?_
  refine z_iload_n C dL_isDecided_3 1 rfl ?_
  refine y_callVC hF C CT rfl (by decide) zlk_L_13 zc_L_102 [.int x1] (fun l D tc b0 r hl h => m_X7_isDecided l D tc ro b0 hl h) rfl rfl (Nat.le_of_ble_eq_true rfl) (by decide) (by decide) (by simp) dL_isDecided_4 (fun v ev => ?_) (fun ev q z hz => ?_)
  · have hs : ∀ q : Int64, q = (if v = 0 then 0 else 1) → zGq P (zEndE P (zRw t hp h' sz)) (some ()) 15 [(0, .ref a), (1, .int x1), (2, .ref o)] [.long q, .int 0, .ref o] hp sz (0 + 1) (0 + 6) := by
      intro q eq
      refine y_lastore C (by rw [eq]; exact ho v ev) dL_isDecided_15 ?_
      refine z_goto C 22 dL_isDecided_16 (by decide) ?_
      refine z_iconst C dL_isDecided_22 zi_0 ?_
      exact y_ireturnE C (by rw [ev]; exact ⟨Nat.le_refl _, rfl, rfl⟩) (by simp) dL_isDecided_23
    by_cases e0 : v = 0
    · refine y_ifeqT C 14 e0 dL_isDecided_7 (by decide) ?_
      refine z_lconst (v := (0 : Int64)) C dL_isDecided_14 (by decide) ?_
      exact hs _ (by rw [if_pos e0])
    · refine y_ifeqF C 14 e0 dL_isDecided_7 (by decide) ?_
      refine z_lconst (v := (1 : Int64)) C dL_isDecided_10 (by decide) ?_
      refine z_goto C 15 dL_isDecided_11 (by decide) ?_
      exact hs _ (by rw [if_neg e0])
  · refine z_astore_n (lv' := [(0, .ref a), (1, .int x1), (2, .ref o), (3, .ref q)]) C dL_isDecided_19 (by decide) rfl ?_
    refine z_iconst C dL_isDecided_20 zi_1 ?_
    exact y_ireturnE C (by rw [ev]; exact ⟨hz, rfl, rfl⟩) (by simp) dL_isDecided_21
set_option maxHeartbeats 4000000 in
set_option maxRecDepth 100000 in
theorem we_write (l : Launch) (D : va_G) (tc : Nat → ClassId) (ro : Nat → Nat) (b0 : Nat) {mc ms a o : Nat} {x1 : Int32} {hp h' : zHp} {sz : Nat} (hl : l.stackTraces = false) {t : Option (Int32 × zHp × Nat)} (hF : f_X7_write ro mc ms a x1 hp sz = some t) (ho : ∀ v, t = some v → zsL v.2.1 o 0 v.1.toInt64 = some h') (hz0 : ∀ v : Int32 × zHp × Nat, t = some v → sz ≤ v.2.2) : zMe l yL_write cL_write 4 (some .int) [(0, 9, 12, 13)] 8 mc ms [.ref a, .int x1, .ref o] D tc ro b0 hp sz (zRww t hp h' sz) := by
  refine z_startE (lv := [(0, .ref a), (1, .int x1), (2, .ref o)]) hl (by decide +kernel) RL rfl rfl (Nat.le_of_ble_eq_true rfl) (fun P C CT => ?_)
  refine z_aload_n C dL_write_0 2 rfl ?_
  refine z_iconst C dL_write_1 zi_0 ?_
  refine z_aload_n C dL_write_2 0 rfl ?_
  refine z_iload_n C dL_write_3 1 rfl ?_
  refine y_callVC hF C CT rfl (by decide) zlk_L_13 zc_L_105 [.int x1] (fun l D tc b0 r hl h => m_X7_write l D tc ro b0 hl h) rfl rfl (Nat.le_of_ble_eq_true rfl) (by decide) (by decide) (by simp) dL_write_4 (fun v ev => ?_) (fun ev q z hz => ?_)
  · refine z_i2l C dL_write_7 ?_
    refine y_lastore C (ho v ev) dL_write_8 ?_
    refine z_goto C 15 dL_write_9 (by decide) ?_
    refine z_iconst C dL_write_15 zi_0 ?_
    exact y_ireturnE C (by rw [ev]; exact ⟨hz0 v ev, rfl, rfl⟩) (by simp) dL_write_16
  · refine z_astore_n (lv' := [(0, .ref a), (1, .int x1), (2, .ref o), (3, .ref q)]) C dL_write_12 (by decide) rfl ?_
    refine z_iconst C dL_write_13 zi_1 ?_
    exact y_ireturnE C (by rw [ev]; exact ⟨hz, rfl, rfl⟩) (by simp) dL_write_14
