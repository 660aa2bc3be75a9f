theorem zu_X8 : ∀ w ∈ u_ws RX8 TX8 21, w ∈ zGT := fun w h => List.mem_filter.mpr ⟨(by decide +kernel : ∀ w ∈ u_ws RX8 TX8 21, w ∈ lw_tbl) w h, (by decide +kernel : ∀ w ∈ u_ws RX8 TX8 21, goodWord w = true) w h⟩
theorem zf_X8_38 : zFW RX8 38 8 0 := ⟨RX8, TX8, 21, by decide, rfl, by decide, zu_X8, zGT_in 1532 (by decide +kernel) rfl⟩
theorem zi_0 : Int32.ofInt (0) = (0 : Int32) := by decide +kernel
theorem zp_X8_38 : zPW RX8 38 8 0 .int := ⟨RX8, TX8, 21, tyX8, ⟨by decide, rfl, by decide, zu_X8, zGT_in 1532 (by decide +kernel) rfl⟩, tyX8_ok, nmX8, rfl, by decide +kernel⟩
theorem zf_X8_41 : zFW RX8 41 8 2 := ⟨RX8, TX8, 21, by decide, rfl, by decide, zu_X8, zGT_in 1534 (by decide +kernel) rfl⟩
theorem zbi_20 : (Int8.ofInt (20)).toInt32 = (20 : Int32) := by decide +kernel
theorem zsi_900 : (Int16.ofInt (900)).toInt32 = (900 : Int32) := by decide +kernel
theorem zi_4 : Int32.ofInt (4) = (4 : Int32) := by decide +kernel
theorem zbi_8 : (Int8.ofInt (8)).toInt32 = (8 : Int32) := by decide +kernel
theorem zbi_12 : (Int8.ofInt (12)).toInt32 = (12 : Int32) := by decide +kernel
theorem zbi_16 : (Int8.ofInt (16)).toInt32 = (16 : Int32) := by decide +kernel
theorem zf_X8_7 : zFW RX8 7 8 1 := ⟨RX8, TX8, 21, by decide, rfl, by decide, zu_X8, zGT_in 1533 (by decide +kernel) rfl⟩
theorem zbi_24 : (Int8.ofInt (24)).toInt32 = (24 : Int32) := by decide +kernel
theorem zsi_255 : (Int16.ofInt (255)).toInt32 = (255 : Int32) := by decide +kernel
theorem zi_1 : Int32.ofInt (1) = (1 : Int32) := by decide +kernel
theorem zp_X8_41 : zPW RX8 41 8 2 .int := ⟨RX8, TX8, 21, tyX8, ⟨by decide, rfl, by decide, zu_X8, zGT_in 1534 (by decide +kernel) rfl⟩, tyX8_ok, nmX8, rfl, by decide +kernel⟩
theorem zbi_m5 : (Int8.ofInt (-5)).toInt32 = (-5 : Int32) := by decide +kernel
theorem zsi_144 : (Int16.ofInt (144)).toInt32 = (144 : Int32) := by decide +kernel
theorem zf_X8_13 : zFW RX8 13 8 3 := ⟨RX8, TX8, 21, by decide, rfl, by decide, zu_X8, zGT_in 1535 (by decide +kernel) rfl⟩
theorem zsi_538 : (Int16.ofInt (538)).toInt32 = (538 : Int32) := by decide +kernel
theorem zf_X8_19 : zFW RX8 19 8 5 := ⟨RX8, TX8, 21, by decide, rfl, by decide, zu_X8, zGT_in 1537 (by decide +kernel) rfl⟩
theorem zi_5 : Int32.ofInt (5) = (5 : Int32) := by decide +kernel
theorem zi_2 : Int32.ofInt (2) = (2 : Int32) := by decide +kernel
theorem zsi_5000 : (Int16.ofInt (5000)).toInt32 = (5000 : Int32) := by decide +kernel
theorem zc_X8_44 : zCV RX8 44 yX8_many cX8_many 2 (some .int) 8 1 := by
  refine ⟨RX8, Or.inl ⟨by decide, TX8, 21, rfl⟩, ?_, rfl, by decide +kernel, by decide +kernel, by decide +kernel⟩
  exact zV5 (zGT_in 1641 (by decide +kernel) rfl) (zGT_in 1643 (by decide +kernel) rfl) (zGT_in 34 (by decide +kernel) rfl) (zGT_in 114 (by decide +kernel) rfl) (zGT_in 1644 (by decide +kernel) rfl)
theorem zbi_10 : (Int8.ofInt (10)).toInt32 = (10 : Int32) := by decide +kernel
theorem zbi_44 : (Int8.ofInt (44)).toInt32 = (44 : Int32) := by decide +kernel
theorem zbi_68 : (Int8.ofInt (68)).toInt32 = (68 : Int32) := by decide +kernel
theorem zbi_6 : (Int8.ofInt (6)).toInt32 = (6 : Int32) := by decide +kernel
theorem zc_X8_48 : zCV RX8 48 yX8_of cX8_of 3 (some .int) 8 2 := by
  refine ⟨RX8, Or.inl ⟨by decide, TX8, 21, rfl⟩, ?_, rfl, by decide +kernel, by decide +kernel, by decide +kernel⟩
  exact zV5 (zGT_in 1767 (by decide +kernel) rfl) (zGT_in 1769 (by decide +kernel) rfl) (zGT_in 53 (by decide +kernel) rfl) (zGT_in 114 (by decide +kernel) rfl) (zGT_in 1770 (by decide +kernel) rfl)
theorem zbi_9 : (Int8.ofInt (9)).toInt32 = (9 : Int32) := by decide +kernel
theorem zi_3 : Int32.ofInt (3) = (3 : Int32) := by decide +kernel
theorem zc_X8_52 : zCV RX8 52 yX8_isAtTable cX8_isAtTable 2 (some .boolean) 8 1 := by
  refine ⟨RX8, Or.inl ⟨by decide, TX8, 21, rfl⟩, ?_, rfl, by decide +kernel, by decide +kernel, by decide +kernel⟩
  exact zV5 (zGT_in 1795 (by decide +kernel) rfl) (zGT_in 1797 (by decide +kernel) rfl) (zGT_in 57 (by decide +kernel) rfl) (zGT_in 114 (by decide +kernel) rfl) (zGT_in 1798 (by decide +kernel) rfl)
theorem zi_m1 : Int32.ofInt (-1) = (-1 : Int32) := by decide +kernel
theorem zc_X8_56 : zCV RX8 56 yX8_paper cX8_paper 3 (some .int) 8 2 := by
  refine ⟨RX8, Or.inl ⟨by decide, TX8, 21, rfl⟩, ?_, rfl, by decide +kernel, by decide +kernel, by decide +kernel⟩
  exact zV5 (zGT_in 1783 (by decide +kernel) rfl) (zGT_in 1785 (by decide +kernel) rfl) (zGT_in 55 (by decide +kernel) rfl) (zGT_in 114 (by decide +kernel) rfl) (zGT_in 1786 (by decide +kernel) rfl)
theorem zsi_140 : (Int16.ofInt (140)).toInt32 = (140 : Int32) := by decide +kernel
theorem zc_X8_63 : zCV RX8 63 yX8_slips cX8_slips 6 (some .int) 8 3 := by
  refine ⟨RX8, Or.inl ⟨by decide, TX8, 21, rfl⟩, ?_, rfl, by decide +kernel, by decide +kernel, by decide +kernel⟩
  exact zV5 (zGT_in 1843 (by decide +kernel) rfl) (zGT_in 1845 (by decide +kernel) rfl) (zGT_in 62 (by decide +kernel) rfl) (zGT_in 114 (by decide +kernel) rfl) (zGT_in 1846 (by decide +kernel) rfl)
theorem zc_X8_59 : zCV RX8 59 yX8_piles cX8_piles 1 (some .int) 8 0 := by
  refine ⟨RX8, Or.inl ⟨by decide, TX8, 21, rfl⟩, ?_, rfl, by decide +kernel, by decide +kernel, by decide +kernel⟩
  exact zV5 (zGT_in 1688 (by decide +kernel) rfl) (zGT_in 1690 (by decide +kernel) rfl) (zGT_in 45 (by decide +kernel) rfl) (zGT_in 114 (by decide +kernel) rfl) (zGT_in 1691 (by decide +kernel) rfl)
theorem zc_X8_67 : zCV RX8 67 yX8_found cX8_found 4 (some .int) 8 3 := by
  refine ⟨RX8, Or.inl ⟨by decide, TX8, 21, rfl⟩, ?_, rfl, by decide +kernel, by decide +kernel, by decide +kernel⟩
  exact zV5 (zGT_in 1827 (by decide +kernel) rfl) (zGT_in 1829 (by decide +kernel) rfl) (zGT_in 60 (by decide +kernel) rfl) (zGT_in 114 (by decide +kernel) rfl) (zGT_in 1830 (by decide +kernel) rfl)
theorem zc_X8_70 : zCV RX8 70 yX8_agree cX8_agree 5 (some .boolean) 8 3 := by
  refine ⟨RX8, Or.inl ⟨by decide, TX8, 21, rfl⟩, ?_, rfl, by decide +kernel, by decide +kernel, by decide +kernel⟩
  exact zV5 (zGT_in 1855 (by decide +kernel) rfl) (zGT_in 1857 (by decide +kernel) rfl) (zGT_in 64 (by decide +kernel) rfl) (zGT_in 114 (by decide +kernel) rfl) (zGT_in 1858 (by decide +kernel) rfl)
theorem zc_X8_74 : zCV RX8 74 yX8_wasCounted cX8_wasCounted 2 (some .boolean) 8 1 := by
  refine ⟨RX8, Or.inl ⟨by decide, TX8, 21, rfl⟩, ?_, rfl, by decide +kernel, by decide +kernel, by decide +kernel⟩
  exact zV5 (zGT_in 1863 (by decide +kernel) rfl) (zGT_in 1865 (by decide +kernel) rfl) (zGT_in 65 (by decide +kernel) rfl) (zGT_in 114 (by decide +kernel) rfl) (zGT_in 1866 (by decide +kernel) rfl)
theorem zc_X8_77 : zCV RX8 77 yX8_confirmed cX8_confirmed 4 (some .int) 8 1 := by
  refine ⟨RX8, Or.inl ⟨by decide, TX8, 21, rfl⟩, ?_, rfl, by decide +kernel, by decide +kernel, by decide +kernel⟩
  exact zV5 (zGT_in 1851 (by decide +kernel) rfl) (zGT_in 1853 (by decide +kernel) rfl) (zGT_in 63 (by decide +kernel) rfl) (zGT_in 114 (by decide +kernel) rfl) (zGT_in 1854 (by decide +kernel) rfl)
theorem zc_X8_80 : zCV RX8 80 yX8_valid cX8_valid 4 (some .int) 8 2 := by
  refine ⟨RX8, Or.inl ⟨by decide, TX8, 21, rfl⟩, ?_, rfl, by decide +kernel, by decide +kernel, by decide +kernel⟩
  exact zV5 (zGT_in 1867 (by decide +kernel) rfl) (zGT_in 1869 (by decide +kernel) rfl) (zGT_in 66 (by decide +kernel) rfl) (zGT_in 114 (by decide +kernel) rfl) (zGT_in 1870 (by decide +kernel) rfl)
theorem zbi_56 : (Int8.ofInt (56)).toInt32 = (56 : Int32) := by decide +kernel
theorem zc_X8_83 : zCV RX8 83 yX8_more cX8_more 4 (some .int) 8 1 := by
  refine ⟨RX8, Or.inl ⟨by decide, TX8, 21, rfl⟩, ?_, rfl, by decide +kernel, by decide +kernel, by decide +kernel⟩
  exact zV5 (zGT_in 1875 (by decide +kernel) rfl) (zGT_in 1877 (by decide +kernel) rfl) (zGT_in 67 (by decide +kernel) rfl) (zGT_in 114 (by decide +kernel) rfl) (zGT_in 1878 (by decide +kernel) rfl)
theorem zm_X8_86 : zMW RX8 86 Lib.Math.abs.name Lib.Math.abs.code 1 := ⟨zGT_in 1887 (by decide +kernel) rfl, zGT_in 684 (by decide +kernel) rfl, zGT_in 115 (by decide +kernel) rfl, zGT_in 685 (by decide +kernel) rfl⟩
theorem zc_X8_91 : zCV RX8 91 yX8_votes cX8_votes 5 (some .int) 8 2 := by
  refine ⟨RX8, Or.inl ⟨by decide, TX8, 21, rfl⟩, ?_, rfl, by decide +kernel, by decide +kernel, by decide +kernel⟩
  exact zV5 (zGT_in 1892 (by decide +kernel) rfl) (zGT_in 1894 (by decide +kernel) rfl) (zGT_in 69 (by decide +kernel) rfl) (zGT_in 114 (by decide +kernel) rfl) (zGT_in 1895 (by decide +kernel) rfl)
theorem zm_X8_94 : zMW RX8 94 Lib.Math.max.name Lib.Math.max.code 2 := ⟨zGT_in 1904 (by decide +kernel) rfl, zGT_in 700 (by decide +kernel) rfl, zGT_in 115 (by decide +kernel) rfl, zGT_in 701 (by decide +kernel) rfl⟩
theorem zc_X8_97 : zCV RX8 97 yX8_first cX8_first 6 (some .int) 8 1 := by
  refine ⟨RX8, Or.inl ⟨by decide, TX8, 21, rfl⟩, ?_, rfl, by decide +kernel, by decide +kernel, by decide +kernel⟩
  exact zV5 (zGT_in 1900 (by decide +kernel) rfl) (zGT_in 1902 (by decide +kernel) rfl) (zGT_in 70 (by decide +kernel) rfl) (zGT_in 114 (by decide +kernel) rfl) (zGT_in 1903 (by decide +kernel) rfl)
theorem zc_X8_100 : zCV RX8 100 yX8_allVotes cX8_allVotes 4 (some .int) 8 1 := by
  refine ⟨RX8, Or.inl ⟨by decide, TX8, 21, rfl⟩, ?_, rfl, by decide +kernel, by decide +kernel, by decide +kernel⟩
  exact zV5 (zGT_in 1921 (by decide +kernel) rfl) (zGT_in 1923 (by decide +kernel) rfl) (zGT_in 73 (by decide +kernel) rfl) (zGT_in 114 (by decide +kernel) rfl) (zGT_in 1924 (by decide +kernel) rfl)
theorem zbi_100 : (Int8.ofInt (100)).toInt32 = (100 : Int32) := by decide +kernel
theorem zc_X8_103 : zCV RX8 103 yX8_marginOf cX8_marginOf 5 (some .int) 8 1 := by
  refine ⟨RX8, Or.inl ⟨by decide, TX8, 21, rfl⟩, ?_, rfl, by decide +kernel, by decide +kernel, by decide +kernel⟩
  exact zV5 (zGT_in 1909 (by decide +kernel) rfl) (zGT_in 1911 (by decide +kernel) rfl) (zGT_in 71 (by decide +kernel) rfl) (zGT_in 114 (by decide +kernel) rfl) (zGT_in 1912 (by decide +kernel) rfl)
theorem zc_X8_106 : zCV RX8 106 yX8_differs cX8_differs 2 (some .boolean) 8 1 := by
  refine ⟨RX8, Or.inl ⟨by decide, TX8, 21, rfl⟩, ?_, rfl, by decide +kernel, by decide +kernel, by decide +kernel⟩
  exact zV5 (zGT_in 1883 (by decide +kernel) rfl) (zGT_in 1885 (by decide +kernel) rfl) (zGT_in 68 (by decide +kernel) rfl) (zGT_in 114 (by decide +kernel) rfl) (zGT_in 1886 (by decide +kernel) rfl)
theorem zbi_m4 : (Int8.ofInt (-4)).toInt32 = (-4 : Int32) := by decide +kernel
theorem zc_X8_109 : zCV RX8 109 yX8_isDeclared cX8_isDeclared 3 (some .boolean) 8 1 := by
  refine ⟨RX8, Or.inl ⟨by decide, TX8, 21, rfl⟩, ?_, rfl, by decide +kernel, by decide +kernel, by decide +kernel⟩
  exact zV5 (zGT_in 1933 (by decide +kernel) rfl) (zGT_in 1935 (by decide +kernel) rfl) (zGT_in 75 (by decide +kernel) rfl) (zGT_in 114 (by decide +kernel) rfl) (zGT_in 1936 (by decide +kernel) rfl)
theorem zc_X8_112 : zCV RX8 112 yX8_isWithoutBox cX8_isWithoutBox 3 (some .boolean) 8 1 := by
  refine ⟨RX8, Or.inl ⟨by decide, TX8, 21, rfl⟩, ?_, rfl, by decide +kernel, by decide +kernel, by decide +kernel⟩
  exact zV5 (zGT_in 1937 (by decide +kernel) rfl) (zGT_in 1939 (by decide +kernel) rfl) (zGT_in 76 (by decide +kernel) rfl) (zGT_in 114 (by decide +kernel) rfl) (zGT_in 1940 (by decide +kernel) rfl)
theorem zc_X8_115 : zCV RX8 115 yX8_hasBox cX8_hasBox 6 (some .boolean) 8 2 := by
  refine ⟨RX8, Or.inl ⟨by decide, TX8, 21, rfl⟩, ?_, rfl, by decide +kernel, by decide +kernel, by decide +kernel⟩
  exact zV5 (zGT_in 1941 (by decide +kernel) rfl) (zGT_in 1943 (by decide +kernel) rfl) (zGT_in 77 (by decide +kernel) rfl) (zGT_in 114 (by decide +kernel) rfl) (zGT_in 1944 (by decide +kernel) rfl)
theorem zc_X8_119 : zCV RX8 119 yX8_isNear cX8_isNear 3 (some .boolean) 8 1 := by
  refine ⟨RX8, Or.inl ⟨by decide, TX8, 21, rfl⟩, ?_, rfl, by decide +kernel, by decide +kernel, by decide +kernel⟩
  exact zV5 (zGT_in 1917 (by decide +kernel) rfl) (zGT_in 1919 (by decide +kernel) rfl) (zGT_in 72 (by decide +kernel) rfl) (zGT_in 114 (by decide +kernel) rfl) (zGT_in 1920 (by decide +kernel) rfl)
theorem zk_X8_122 : Cond.constant RX8 122 (100000 : Int32) ∈ zGT := zGT_in 1625 (by decide +kernel) rfl
theorem zc_X8_123 : zCV RX8 123 yX8_against cX8_against 2 (some .int) 8 1 := by
  refine ⟨RX8, Or.inl ⟨by decide, TX8, 21, rfl⟩, ?_, rfl, by decide +kernel, by decide +kernel, by decide +kernel⟩
  exact zV5 (zGT_in 1929 (by decide +kernel) rfl) (zGT_in 1931 (by decide +kernel) rfl) (zGT_in 74 (by decide +kernel) rfl) (zGT_in 114 (by decide +kernel) rfl) (zGT_in 1932 (by decide +kernel) rfl)
theorem zc_X8_126 : zCV RX8 126 yX8_mustBeCounted cX8_mustBeCounted 3 (some .boolean) 8 1 := by
  refine ⟨RX8, Or.inl ⟨by decide, TX8, 21, rfl⟩, ?_, rfl, by decide +kernel, by decide +kernel, by decide +kernel⟩
  exact zV5 (zGT_in 1953 (by decide +kernel) rfl) (zGT_in 1955 (by decide +kernel) rfl) (zGT_in 79 (by decide +kernel) rfl) (zGT_in 114 (by decide +kernel) rfl) (zGT_in 1956 (by decide +kernel) rfl)
theorem zbi_33 : (Int8.ofInt (33)).toInt32 = (33 : Int32) := by decide +kernel
theorem zbi_38 : (Int8.ofInt (38)).toInt32 = (38 : Int32) := by decide +kernel
theorem zc_X8_129 : zCV RX8 129 yX8_isIn cX8_isIn 4 (some .boolean) 8 2 := by
  refine ⟨RX8, Or.inl ⟨by decide, TX8, 21, rfl⟩, ?_, rfl, by decide +kernel, by decide +kernel, by decide +kernel⟩
  exact zV5 (zGT_in 1755 (by decide +kernel) rfl) (zGT_in 1757 (by decide +kernel) rfl) (zGT_in 52 (by decide +kernel) rfl) (zGT_in 114 (by decide +kernel) rfl) (zGT_in 1758 (by decide +kernel) rfl)
theorem zc_X8_132 : zCV RX8 132 yX8_isWardIn cX8_isWardIn 3 (some .boolean) 8 2 := by
  refine ⟨RX8, Or.inl ⟨by decide, TX8, 21, rfl⟩, ?_, rfl, by decide +kernel, by decide +kernel, by decide +kernel⟩
  exact zV5 (zGT_in 1751 (by decide +kernel) rfl) (zGT_in 1753 (by decide +kernel) rfl) (zGT_in 51 (by decide +kernel) rfl) (zGT_in 114 (by decide +kernel) rfl) (zGT_in 1754 (by decide +kernel) rfl)
theorem zf_X8_135 : zFW RX8 135 8 10 := ⟨RX8, TX8, 21, by decide, rfl, by decide, zu_X8, zGT_in 1542 (by decide +kernel) rfl⟩
theorem zf_X8_138 : zFW RX8 138 8 9 := ⟨RX8, TX8, 21, by decide, rfl, by decide, zu_X8, zGT_in 1541 (by decide +kernel) rfl⟩
theorem zbi_97 : (Int8.ofInt (97)).toInt32 = (97 : Int32) := by decide +kernel
theorem zbi_122 : (Int8.ofInt (122)).toInt32 = (122 : Int32) := by decide +kernel
theorem zbi_48 : (Int8.ofInt (48)).toInt32 = (48 : Int32) := by decide +kernel
theorem zbi_57 : (Int8.ofInt (57)).toInt32 = (57 : Int32) := by decide +kernel
theorem zc_X8_141 : zCV RX8 141 yX8_here cX8_here 1 (some .int) 8 0 := by
  refine ⟨RX8, Or.inl ⟨by decide, TX8, 21, rfl⟩, ?_, rfl, by decide +kernel, by decide +kernel, by decide +kernel⟩
  exact zV5 (zGT_in 1615 (by decide +kernel) rfl) (zGT_in 1617 (by decide +kernel) rfl) (zGT_in 30 (by decide +kernel) rfl) (zGT_in 114 (by decide +kernel) rfl) (zGT_in 1618 (by decide +kernel) rfl)
theorem zp_X8_135 : zPW RX8 135 8 10 .int := ⟨RX8, TX8, 21, tyX8, ⟨by decide, rfl, by decide, zu_X8, zGT_in 1542 (by decide +kernel) rfl⟩, tyX8_ok, nmX8, rfl, by decide +kernel⟩
theorem zbi_32 : (Int8.ofInt (32)).toInt32 = (32 : Int32) := by decide +kernel
theorem zf_X8_144 : zFW RX8 144 8 11 := ⟨RX8, TX8, 21, by decide, rfl, by decide, zu_X8, zGT_in 1543 (by decide +kernel) rfl⟩
theorem zp_X8_144 : zPW RX8 144 8 11 .int := ⟨RX8, TX8, 21, tyX8, ⟨by decide, rfl, by decide, zu_X8, zGT_in 1543 (by decide +kernel) rfl⟩, tyX8_ok, nmX8, rfl, by decide +kernel⟩
theorem zs_X8_150 : zCS RX8 150 yX8_isSmall cX8_isSmall 1 (some .boolean) 1 := by
  refine ⟨?_, by decide +kernel, by decide +kernel, by decide +kernel⟩
  exact zS4 (zGT_in 1619 (by decide +kernel) rfl) (zGT_in 1620 (by decide +kernel) rfl) (zGT_in 114 (by decide +kernel) rfl) (zGT_in 1621 (by decide +kernel) rfl)
theorem zs_X8_153 : zCS RX8 153 yX8_isDigit cX8_isDigit 1 (some .boolean) 1 := by
  refine ⟨?_, by decide +kernel, by decide +kernel, by decide +kernel⟩
  exact zS4 (zGT_in 1622 (by decide +kernel) rfl) (zGT_in 1623 (by decide +kernel) rfl) (zGT_in 114 (by decide +kernel) rfl) (zGT_in 1624 (by decide +kernel) rfl)
theorem zbi_59 : (Int8.ofInt (59)).toInt32 = (59 : Int32) := by decide +kernel
theorem zf_X8_147 : zFW RX8 147 8 12 := ⟨RX8, TX8, 21, by decide, rfl, by decide, zu_X8, zGT_in 1544 (by decide +kernel) rfl⟩
theorem zp_X8_147 : zPW RX8 147 8 12 .int := ⟨RX8, TX8, 21, tyX8, ⟨by decide, rfl, by decide, zu_X8, zGT_in 1544 (by decide +kernel) rfl⟩, tyX8_ok, nmX8, rfl, by decide +kernel⟩
theorem zf_X8_156 : zFW RX8 156 8 13 := ⟨RX8, TX8, 21, by decide, rfl, by decide, zu_X8, zGT_in 1545 (by decide +kernel) rfl⟩
theorem zp_X8_156 : zPW RX8 156 8 13 .int := ⟨RX8, TX8, 21, tyX8, ⟨by decide, rfl, by decide, zu_X8, zGT_in 1545 (by decide +kernel) rfl⟩, tyX8_ok, nmX8, rfl, by decide +kernel⟩
theorem zg_J0_38 : Cond.fieldLink RJ0 38 "java/lang/String" "COMPACT_STRINGS" "Z" ∈ zGT := zGT_in 482 (by decide +kernel) rfl
theorem zf_J0_15 : zFS RJ0 15 1 := Or.inr ⟨rfl, zGT_in 1448 (by decide +kernel) rfl⟩
theorem zf_J0_9 : zFS RJ0 9 0 := Or.inl ⟨rfl, zGT_in 1447 (by decide +kernel) rfl⟩
theorem zc_J0_335 : zCV RJ0 335 yJ0_coder_7d493 cJ0_coder_7d493 1 (some .byte) 20 0 := by
  refine ⟨RJ0, Or.inr ⟨rfl, rfl⟩, ?_, rfl, by decide +kernel, by decide +kernel, by decide +kernel⟩
  exact zV5 (zGT_in 478 (by decide +kernel) rfl) (zGT_in 479 (by decide +kernel) rfl) (zGT_in 480 (by decide +kernel) rfl) (zGT_in 112 (by decide +kernel) rfl) (zGT_in 481 (by decide +kernel) rfl)
theorem zg_J0_1053 : Cond.fieldLink RJ0 1053 "jdk/internal/util/Preconditions" "SIOOBE_FORMATTER" "Ljava/util/function/BiFunction;" ∈ zGT := zGT_in 497 (by decide +kernel) rfl
theorem zs_J0_1059 : zCS RJ0 1059 yJ3_checkIndex_8e157 cJ3_checkIndex_8e157 3 (some .int) 3 := by
  refine ⟨?_, by decide +kernel, by decide +kernel, by decide +kernel⟩
  exact zS4 (zGT_in 499 (by decide +kernel) rfl) (zGT_in 500 (by decide +kernel) rfl) (zGT_in 117 (by decide +kernel) rfl) (zGT_in 501 (by decide +kernel) rfl)
theorem zs_J1_9 : zCS RJ1 9 yJ0_checkIndex_df160 cJ0_checkIndex_df160 2 none 2 := by
  refine ⟨?_, by decide +kernel, by decide +kernel, by decide +kernel⟩
  exact zS4 (zGT_in 494 (by decide +kernel) rfl) (zGT_in 495 (by decide +kernel) rfl) (zGT_in 112 (by decide +kernel) rfl) (zGT_in 496 (by decide +kernel) rfl)
theorem zc_J0_492 : zCV RJ0 492 yJ0_isLatin1_aae02 cJ0_isLatin1_aae02 1 (some .boolean) 20 0 := by
  refine ⟨RJ0, Or.inr ⟨rfl, rfl⟩, ?_, rfl, by decide +kernel, by decide +kernel, by decide +kernel⟩
  exact zV5 (zGT_in 487 (by decide +kernel) rfl) (zGT_in 488 (by decide +kernel) rfl) (zGT_in 489 (by decide +kernel) rfl) (zGT_in 112 (by decide +kernel) rfl) (zGT_in 490 (by decide +kernel) rfl)
theorem zs_J0_495 : zCS RJ0 495 yJ1_charAt_3b067 cJ1_charAt_3b067 2 (some .char) 2 := by
  refine ⟨?_, by decide +kernel, by decide +kernel, by decide +kernel⟩
  exact zS4 (zGT_in 491 (by decide +kernel) rfl) (zGT_in 492 (by decide +kernel) rfl) (zGT_in 116 (by decide +kernel) rfl) (zGT_in 493 (by decide +kernel) rfl)
theorem zc_X8_159 : zCV RX8 159 yJ0_length_8abf5 cJ0_length_8abf5 1 (some .int) 20 0 := by
  refine ⟨RJ0, Or.inr ⟨rfl, rfl⟩, ?_, rfl, by decide +kernel, by decide +kernel, by decide +kernel⟩
  exact zV5 (zGT_in 1635 (by decide +kernel) rfl) (zGT_in 475 (by decide +kernel) rfl) (zGT_in 476 (by decide +kernel) rfl) (zGT_in 112 (by decide +kernel) rfl) (zGT_in 477 (by decide +kernel) rfl)
theorem zc_X8_164 : zCV RX8 164 yJ0_charAt_5068e cJ0_charAt_5068e 2 (some .char) 20 1 := by
  refine ⟨RJ0, Or.inr ⟨rfl, rfl⟩, ?_, rfl, by decide +kernel, by decide +kernel, by decide +kernel⟩
  exact zV5 (zGT_in 1636 (by decide +kernel) rfl) (zGT_in 484 (by decide +kernel) rfl) (zGT_in 485 (by decide +kernel) rfl) (zGT_in 112 (by decide +kernel) rfl) (zGT_in 486 (by decide +kernel) rfl)
theorem zf_X8_168 : zFW RX8 168 8 14 := ⟨RX8, TX8, 21, by decide, rfl, by decide, zu_X8, zGT_in 1546 (by decide +kernel) rfl⟩
theorem zp_X8_168 : zPW RX8 168 8 14 .int := ⟨RX8, TX8, 21, tyX8, ⟨by decide, rfl, by decide, zu_X8, zGT_in 1546 (by decide +kernel) rfl⟩, tyX8_ok, nmX8, rfl, by decide +kernel⟩
theorem zf_X8_171 : zFW RX8 171 8 15 := ⟨RX8, TX8, 21, by decide, rfl, by decide, zu_X8, zGT_in 1547 (by decide +kernel) rfl⟩
theorem zp_X8_171 : zPW RX8 171 8 15 .int := ⟨RX8, TX8, 21, tyX8, ⟨by decide, rfl, by decide, zu_X8, zGT_in 1547 (by decide +kernel) rfl⟩, tyX8_ok, nmX8, rfl, by decide +kernel⟩
theorem zc_X8_174 : zCV RX8 174 yX8_next cX8_next 2 none 8 0 := by
  refine ⟨RX8, Or.inl ⟨by decide, TX8, 21, rfl⟩, ?_, rfl, by decide +kernel, by decide +kernel, by decide +kernel⟩
  exact zV5 (zGT_in 1611 (by decide +kernel) rfl) (zGT_in 1613 (by decide +kernel) rfl) (zGT_in 29 (by decide +kernel) rfl) (zGT_in 114 (by decide +kernel) rfl) (zGT_in 1614 (by decide +kernel) rfl)
theorem zbi_m11 : (Int8.ofInt (-11)).toInt32 = (-11 : Int32) := by decide +kernel
theorem zc_X8_177 : zCV RX8 177 yX8_failsIf cX8_failsIf 3 none 8 2 := by
  refine ⟨RX8, Or.inl ⟨by decide, TX8, 21, rfl⟩, ?_, rfl, by decide +kernel, by decide +kernel, by decide +kernel⟩
  exact zV5 (zGT_in 1645 (by decide +kernel) rfl) (zGT_in 1647 (by decide +kernel) rfl) (zGT_in 35 (by decide +kernel) rfl) (zGT_in 114 (by decide +kernel) rfl) (zGT_in 1648 (by decide +kernel) rfl)
theorem zbi_m12 : (Int8.ofInt (-12)).toInt32 = (-12 : Int32) := by decide +kernel
theorem zc_X8_181 : zCV RX8 181 yX8_goOn cX8_goOn 1 none 8 0 := by
  refine ⟨RX8, Or.inl ⟨by decide, TX8, 21, rfl⟩, ?_, rfl, by decide +kernel, by decide +kernel, by decide +kernel⟩
  exact zV5 (zGT_in 1649 (by decide +kernel) rfl) (zGT_in 1651 (by decide +kernel) rfl) (zGT_in 36 (by decide +kernel) rfl) (zGT_in 114 (by decide +kernel) rfl) (zGT_in 1652 (by decide +kernel) rfl)
theorem zc_X8_186 : zCV RX8 186 yX8_wordOf cX8_wordOf 5 (some .int) 8 1 := by
  refine ⟨RX8, Or.inl ⟨by decide, TX8, 21, rfl⟩, ?_, rfl, by decide +kernel, by decide +kernel, by decide +kernel⟩
  exact zV5 (zGT_in 1631 (by decide +kernel) rfl) (zGT_in 1633 (by decide +kernel) rfl) (zGT_in 32 (by decide +kernel) rfl) (zGT_in 114 (by decide +kernel) rfl) (zGT_in 1634 (by decide +kernel) rfl)
theorem zbi_21 : (Int8.ofInt (21)).toInt32 = (21 : Int32) := by decide +kernel
theorem zbi_15 : (Int8.ofInt (15)).toInt32 = (15 : Int32) := by decide +kernel
theorem zs_X8_190 : zCS RX8 190 yX8_nameAt cX8_nameAt 1 (some .int) 1 := by
  refine ⟨?_, by decide +kernel, by decide +kernel, by decide +kernel⟩
  exact zS4 (zGT_in 1665 (by decide +kernel) rfl) (zGT_in 1666 (by decide +kernel) rfl) (zGT_in 114 (by decide +kernel) rfl) (zGT_in 1667 (by decide +kernel) rfl)
theorem zc_X8_193 : zCV RX8 193 yX8_nameHere cX8_nameHere 3 (some .int) 8 0 := by
  refine ⟨RX8, Or.inl ⟨by decide, TX8, 21, rfl⟩, ?_, rfl, by decide +kernel, by decide +kernel, by decide +kernel⟩
  exact zV5 (zGT_in 1657 (by decide +kernel) rfl) (zGT_in 1659 (by decide +kernel) rfl) (zGT_in 38 (by decide +kernel) rfl) (zGT_in 114 (by decide +kernel) rfl) (zGT_in 1660 (by decide +kernel) rfl)
theorem zbi_m14 : (Int8.ofInt (-14)).toInt32 = (-14 : Int32) := by decide +kernel
theorem zc_X8_196 : zCV RX8 196 yX8_nameFound cX8_nameFound 4 (some .int) 8 2 := by
  refine ⟨RX8, Or.inl ⟨by decide, TX8, 21, rfl⟩, ?_, rfl, by decide +kernel, by decide +kernel, by decide +kernel⟩
  exact zV5 (zGT_in 1661 (by decide +kernel) rfl) (zGT_in 1663 (by decide +kernel) rfl) (zGT_in 39 (by decide +kernel) rfl) (zGT_in 114 (by decide +kernel) rfl) (zGT_in 1664 (by decide +kernel) rfl)
theorem zbi_m13 : (Int8.ofInt (-13)).toInt32 = (-13 : Int32) := by decide +kernel
theorem zbi_m15 : (Int8.ofInt (-15)).toInt32 = (-15 : Int32) := by decide +kernel
theorem zc_X8_199 : zCV RX8 199 yX8_newName cX8_newName 3 none 8 1 := by
  refine ⟨RX8, Or.inl ⟨by decide, TX8, 21, rfl⟩, ?_, rfl, by decide +kernel, by decide +kernel, by decide +kernel⟩
  exact zV5 (zGT_in 1653 (by decide +kernel) rfl) (zGT_in 1655 (by decide +kernel) rfl) (zGT_in 37 (by decide +kernel) rfl) (zGT_in 114 (by decide +kernel) rfl) (zGT_in 1656 (by decide +kernel) rfl)
theorem zc_X8_203 : zCV RX8 203 yX8_thing cX8_thing 4 (some .int) 8 1 := by
  refine ⟨RX8, Or.inl ⟨by decide, TX8, 21, rfl⟩, ?_, rfl, by decide +kernel, by decide +kernel, by decide +kernel⟩
  exact zV5 (zGT_in 1672 (by decide +kernel) rfl) (zGT_in 1674 (by decide +kernel) rfl) (zGT_in 41 (by decide +kernel) rfl) (zGT_in 114 (by decide +kernel) rfl) (zGT_in 1675 (by decide +kernel) rfl)
theorem zsi_999 : (Int16.ofInt (999)).toInt32 = (999 : Int32) := by decide +kernel
theorem zc_X8_206 : zCV RX8 206 yX8_integer cX8_integer 4 (some .int) 8 2 := by
  refine ⟨RX8, Or.inl ⟨by decide, TX8, 21, rfl⟩, ?_, rfl, by decide +kernel, by decide +kernel, by decide +kernel⟩
  exact zV5 (zGT_in 1684 (by decide +kernel) rfl) (zGT_in 1686 (by decide +kernel) rfl) (zGT_in 44 (by decide +kernel) rfl) (zGT_in 114 (by decide +kernel) rfl) (zGT_in 1687 (by decide +kernel) rfl)
theorem zsi_9999 : (Int16.ofInt (9999)).toInt32 = (9999 : Int32) := by decide +kernel
theorem zsi_300 : (Int16.ofInt (300)).toInt32 = (300 : Int32) := by decide +kernel
theorem zbi_m3 : (Int8.ofInt (-3)).toInt32 = (-3 : Int32) := by decide +kernel
theorem zc_X8_209 : zCV RX8 209 yX8_sets cX8_sets 4 none 8 3 := by
  refine ⟨RX8, Or.inl ⟨by decide, TX8, 21, rfl⟩, ?_, rfl, by decide +kernel, by decide +kernel, by decide +kernel⟩
  exact zV5 (zGT_in 1692 (by decide +kernel) rfl) (zGT_in 1694 (by decide +kernel) rfl) (zGT_in 46 (by decide +kernel) rfl) (zGT_in 114 (by decide +kernel) rfl) (zGT_in 1695 (by decide +kernel) rfl)
theorem zbi_99 : (Int8.ofInt (99)).toInt32 = (99 : Int32) := by decide +kernel
theorem zbi_50 : (Int8.ofInt (50)).toInt32 = (50 : Int32) := by decide +kernel
theorem zf_X8_215 : zFW RX8 215 8 18 := ⟨RX8, TX8, 21, by decide, rfl, by decide, zu_X8, zGT_in 1550 (by decide +kernel) rfl⟩
theorem zp_X8_215 : zPW RX8 215 8 18 .int := ⟨RX8, TX8, 21, tyX8, ⟨by decide, rfl, by decide, zu_X8, zGT_in 1550 (by decide +kernel) rfl⟩, tyX8_ok, nmX8, rfl, by decide +kernel⟩
theorem zs_X8_218 : zCS RX8 218 yX8_top cX8_top 1 (some .int) 1 := by
  refine ⟨?_, by decide +kernel, by decide +kernel, by decide +kernel⟩
  exact zS4 (zGT_in 1705 (by decide +kernel) rfl) (zGT_in 1706 (by decide +kernel) rfl) (zGT_in 114 (by decide +kernel) rfl) (zGT_in 1707 (by decide +kernel) rfl)
theorem zc_X8_221 : zCV RX8 221 yX8_readParty cX8_readParty 1 none 8 0 := by
  refine ⟨RX8, Or.inl ⟨by decide, TX8, 21, rfl⟩, ?_, rfl, by decide +kernel, by decide +kernel, by decide +kernel⟩
  exact zV5 (zGT_in 1637 (by decide +kernel) rfl) (zGT_in 1639 (by decide +kernel) rfl) (zGT_in 33 (by decide +kernel) rfl) (zGT_in 114 (by decide +kernel) rfl) (zGT_in 1640 (by decide +kernel) rfl)
theorem zf_X8_239 : zFW RX8 239 8 17 := ⟨RX8, TX8, 21, by decide, rfl, by decide, zu_X8, zGT_in 1549 (by decide +kernel) rfl⟩
theorem zp_X8_239 : zPW RX8 239 8 17 .int := ⟨RX8, TX8, 21, tyX8, ⟨by decide, rfl, by decide, zu_X8, zGT_in 1549 (by decide +kernel) rfl⟩, tyX8_ok, nmX8, rfl, by decide +kernel⟩
theorem zc_X8_224 : zCV RX8 224 yX8_readRegion cX8_readRegion 2 none 8 0 := by
  refine ⟨RX8, Or.inl ⟨by decide, TX8, 21, rfl⟩, ?_, rfl, by decide +kernel, by decide +kernel, by decide +kernel⟩
  exact zV5 (zGT_in 1668 (by decide +kernel) rfl) (zGT_in 1670 (by decide +kernel) rfl) (zGT_in 40 (by decide +kernel) rfl) (zGT_in 114 (by decide +kernel) rfl) (zGT_in 1671 (by decide +kernel) rfl)
theorem zc_X8_227 : zCV RX8 227 yX8_readWard cX8_readWard 2 none 8 0 := by
  refine ⟨RX8, Or.inl ⟨by decide, TX8, 21, rfl⟩, ?_, rfl, by decide +kernel, by decide +kernel, by decide +kernel⟩
  exact zV5 (zGT_in 1676 (by decide +kernel) rfl) (zGT_in 1678 (by decide +kernel) rfl) (zGT_in 42 (by decide +kernel) rfl) (zGT_in 114 (by decide +kernel) rfl) (zGT_in 1679 (by decide +kernel) rfl)
theorem zc_X8_230 : zCV RX8 230 yX8_readBox cX8_readBox 6 none 8 0 := by
  refine ⟨RX8, Or.inl ⟨by decide, TX8, 21, rfl⟩, ?_, rfl, by decide +kernel, by decide +kernel, by decide +kernel⟩
  exact zV5 (zGT_in 1680 (by decide +kernel) rfl) (zGT_in 1682 (by decide +kernel) rfl) (zGT_in 43 (by decide +kernel) rfl) (zGT_in 114 (by decide +kernel) rfl) (zGT_in 1683 (by decide +kernel) rfl)
theorem zc_X8_233 : zCV RX8 233 yX8_readTable cX8_readTable 2 none 8 0 := by
  refine ⟨RX8, Or.inl ⟨by decide, TX8, 21, rfl⟩, ?_, rfl, by decide +kernel, by decide +kernel, by decide +kernel⟩
  exact zV5 (zGT_in 1696 (by decide +kernel) rfl) (zGT_in 1698 (by decide +kernel) rfl) (zGT_in 47 (by decide +kernel) rfl) (zGT_in 114 (by decide +kernel) rfl) (zGT_in 1699 (by decide +kernel) rfl)
theorem zc_X8_236 : zCV RX8 236 yX8_readSetting cX8_readSetting 3 none 8 0 := by
  refine ⟨RX8, Or.inl ⟨by decide, TX8, 21, rfl⟩, ?_, rfl, by decide +kernel, by decide +kernel, by decide +kernel⟩
  exact zV5 (zGT_in 1700 (by decide +kernel) rfl) (zGT_in 1702 (by decide +kernel) rfl) (zGT_in 48 (by decide +kernel) rfl) (zGT_in 114 (by decide +kernel) rfl) (zGT_in 1703 (by decide +kernel) rfl)
theorem zbi_m2 : (Int8.ofInt (-2)).toInt32 = (-2 : Int32) := by decide +kernel
theorem zf_X8_16 : zFW RX8 16 8 4 := ⟨RX8, TX8, 21, by decide, rfl, by decide, zu_X8, zGT_in 1536 (by decide +kernel) rfl⟩
theorem zs_X8_242 : zCS RX8 242 yX8_copies cX8_copies 3 none 2 := by
  refine ⟨?_, by decide +kernel, by decide +kernel, by decide +kernel⟩
  exact zS4 (zGT_in 1608 (by decide +kernel) rfl) (zGT_in 1609 (by decide +kernel) rfl) (zGT_in 114 (by decide +kernel) rfl) (zGT_in 1610 (by decide +kernel) rfl)
theorem zf_X8_22 : zFW RX8 22 8 6 := ⟨RX8, TX8, 21, by decide, rfl, by decide, zu_X8, zGT_in 1538 (by decide +kernel) rfl⟩
theorem zc_X8_35 : zCV RX8 35 yX8_newHall cX8_newHall 2 none 8 0 := by
  refine ⟨RX8, Or.inl ⟨by decide, TX8, 21, rfl⟩, ?_, rfl, by decide +kernel, by decide +kernel, by decide +kernel⟩
  exact zV5 (zGT_in 1528 (by decide +kernel) rfl) (zGT_in 1530 (by decide +kernel) rfl) (zGT_in 28 (by decide +kernel) rfl) (zGT_in 114 (by decide +kernel) rfl) (zGT_in 1531 (by decide +kernel) rfl)
theorem zp_X8_138 : zPW RX8 138 8 9 .int := ⟨RX8, TX8, 21, tyX8, ⟨by decide, rfl, by decide, zu_X8, zGT_in 1541 (by decide +kernel) rfl⟩, tyX8_ok, nmX8, rfl, by decide +kernel⟩
theorem zc_X8_246 : zCV RX8 246 yX8_readStatement cX8_readStatement 2 none 8 0 := by
  refine ⟨RX8, Or.inl ⟨by decide, TX8, 21, rfl⟩, ?_, rfl, by decide +kernel, by decide +kernel, by decide +kernel⟩
  exact zV5 (zGT_in 1626 (by decide +kernel) rfl) (zGT_in 1628 (by decide +kernel) rfl) (zGT_in 31 (by decide +kernel) rfl) (zGT_in 114 (by decide +kernel) rfl) (zGT_in 1629 (by decide +kernel) rfl)
theorem zf_X8_28 : zFW RX8 28 8 16 := ⟨RX8, TX8, 21, by decide, rfl, by decide, zu_X8, zGT_in 1548 (by decide +kernel) rfl⟩
theorem zp_X8_28 : zPW RX8 28 8 16 .int := ⟨RX8, TX8, 21, tyX8, ⟨by decide, rfl, by decide, zu_X8, zGT_in 1548 (by decide +kernel) rfl⟩, tyX8_ok, nmX8, rfl, by decide +kernel⟩
theorem zf_X8_249 : zFW RX8 249 8 8 := ⟨RX8, TX8, 21, by decide, rfl, by decide, zu_X8, zGT_in 1540 (by decide +kernel) rfl⟩
theorem zp_X8_249 : zPW RX8 249 8 8 .int := ⟨RX8, TX8, 21, tyX8, ⟨by decide, rfl, by decide, zu_X8, zGT_in 1540 (by decide +kernel) rfl⟩, tyX8_ok, nmX8, rfl, by decide +kernel⟩
theorem zs_X8_252 : zCS RX8 252 yX8_isSetting cX8_isSetting 1 (some .boolean) 1 := by
  refine ⟨?_, by decide +kernel, by decide +kernel, by decide +kernel⟩
  exact zS4 (zGT_in 1728 (by decide +kernel) rfl) (zGT_in 1729 (by decide +kernel) rfl) (zGT_in 114 (by decide +kernel) rfl) (zGT_in 1730 (by decide +kernel) rfl)
theorem zc_X8_255 : zCV RX8 255 yX8_is cX8_is 3 (some .boolean) 8 2 := by
  refine ⟨RX8, Or.inl ⟨by decide, TX8, 21, rfl⟩, ?_, rfl, by decide +kernel, by decide +kernel, by decide +kernel⟩
  exact zV5 (zGT_in 1735 (by decide +kernel) rfl) (zGT_in 1737 (by decide +kernel) rfl) (zGT_in 49 (by decide +kernel) rfl) (zGT_in 114 (by decide +kernel) rfl) (zGT_in 1738 (by decide +kernel) rfl)
theorem zc_X8_258 : zCV RX8 258 yX8_checks cX8_checks 2 (some .boolean) 8 1 := by
  refine ⟨RX8, Or.inl ⟨by decide, TX8, 21, rfl⟩, ?_, rfl, by decide +kernel, by decide +kernel, by decide +kernel⟩
  exact zV5 (zGT_in 1739 (by decide +kernel) rfl) (zGT_in 1741 (by decide +kernel) rfl) (zGT_in 50 (by decide +kernel) rfl) (zGT_in 114 (by decide +kernel) rfl) (zGT_in 1742 (by decide +kernel) rfl)
theorem zc_X8_262 : zCV RX8 262 yX8_isPile cX8_isPile 2 (some .boolean) 8 1 := by
  refine ⟨RX8, Or.inl ⟨by decide, TX8, 21, rfl⟩, ?_, rfl, by decide +kernel, by decide +kernel, by decide +kernel⟩
  exact zV5 (zGT_in 1779 (by decide +kernel) rfl) (zGT_in 1781 (by decide +kernel) rfl) (zGT_in 54 (by decide +kernel) rfl) (zGT_in 114 (by decide +kernel) rfl) (zGT_in 1782 (by decide +kernel) rfl)
theorem zc_X8_265 : zCV RX8 265 yX8_isGood cX8_isGood 2 (some .boolean) 8 1 := by
  refine ⟨RX8, Or.inl ⟨by decide, TX8, 21, rfl⟩, ?_, rfl, by decide +kernel, by decide +kernel, by decide +kernel⟩
  exact zV5 (zGT_in 1791 (by decide +kernel) rfl) (zGT_in 1793 (by decide +kernel) rfl) (zGT_in 56 (by decide +kernel) rfl) (zGT_in 114 (by decide +kernel) rfl) (zGT_in 1794 (by decide +kernel) rfl)
theorem zc_X8_268 : zCV RX8 268 yX8_boxOn cX8_boxOn 3 (some .int) 8 1 := by
  refine ⟨RX8, Or.inl ⟨by decide, TX8, 21, rfl⟩, ?_, rfl, by decide +kernel, by decide +kernel, by decide +kernel⟩
  exact zV5 (zGT_in 1811 (by decide +kernel) rfl) (zGT_in 1813 (by decide +kernel) rfl) (zGT_in 58 (by decide +kernel) rfl) (zGT_in 114 (by decide +kernel) rfl) (zGT_in 1814 (by decide +kernel) rfl)
theorem zc_X8_271 : zCV RX8 271 yX8_isCount cX8_isCount 3 (some .boolean) 8 2 := by
  refine ⟨RX8, Or.inl ⟨by decide, TX8, 21, rfl⟩, ?_, rfl, by decide +kernel, by decide +kernel, by decide +kernel⟩
  exact zV5 (zGT_in 1823 (by decide +kernel) rfl) (zGT_in 1825 (by decide +kernel) rfl) (zGT_in 59 (by decide +kernel) rfl) (zGT_in 114 (by decide +kernel) rfl) (zGT_in 1826 (by decide +kernel) rfl)
theorem zc_X8_274 : zCV RX8 274 yX8_finds cX8_finds 6 (some .int) 8 3 := by
  refine ⟨RX8, Or.inl ⟨by decide, TX8, 21, rfl⟩, ?_, rfl, by decide +kernel, by decide +kernel, by decide +kernel⟩
  exact zV5 (zGT_in 1839 (by decide +kernel) rfl) (zGT_in 1841 (by decide +kernel) rfl) (zGT_in 61 (by decide +kernel) rfl) (zGT_in 114 (by decide +kernel) rfl) (zGT_in 1842 (by decide +kernel) rfl)
theorem zc_X8_277 : zCV RX8 277 yX8_due cX8_due 3 (some .int) 8 0 := by
  refine ⟨RX8, Or.inl ⟨by decide, TX8, 21, rfl⟩, ?_, rfl, by decide +kernel, by decide +kernel, by decide +kernel⟩
  exact zV5 (zGT_in 1949 (by decide +kernel) rfl) (zGT_in 1951 (by decide +kernel) rfl) (zGT_in 78 (by decide +kernel) rfl) (zGT_in 114 (by decide +kernel) rfl) (zGT_in 1952 (by decide +kernel) rfl)
theorem zc_X8_280 : zCV RX8 280 yX8_wouldAgree cX8_wouldAgree 5 (some .boolean) 8 3 := by
  refine ⟨RX8, Or.inl ⟨by decide, TX8, 21, rfl⟩, ?_, rfl, by decide +kernel, by decide +kernel, by decide +kernel⟩
  exact zV5 (zGT_in 1965 (by decide +kernel) rfl) (zGT_in 1967 (by decide +kernel) rfl) (zGT_in 81 (by decide +kernel) rfl) (zGT_in 114 (by decide +kernel) rfl) (zGT_in 1968 (by decide +kernel) rfl)
theorem zc_X8_283 : zCV RX8 283 yX8_findAlike cX8_findAlike 5 (some .boolean) 8 3 := by
  refine ⟨RX8, Or.inl ⟨by decide, TX8, 21, rfl⟩, ?_, rfl, by decide +kernel, by decide +kernel, by decide +kernel⟩
  exact zV5 (zGT_in 1973 (by decide +kernel) rfl) (zGT_in 1975 (by decide +kernel) rfl) (zGT_in 83 (by decide +kernel) rfl) (zGT_in 114 (by decide +kernel) rfl) (zGT_in 1976 (by decide +kernel) rfl)
theorem zc_X8_289 : zCV RX8 289 yX8_areTwoEnough cX8_areTwoEnough 4 (some .boolean) 8 1 := by
  refine ⟨RX8, Or.inl ⟨by decide, TX8, 21, rfl⟩, ?_, rfl, by decide +kernel, by decide +kernel, by decide +kernel⟩
  exact zV5 (zGT_in 1969 (by decide +kernel) rfl) (zGT_in 1971 (by decide +kernel) rfl) (zGT_in 82 (by decide +kernel) rfl) (zGT_in 114 (by decide +kernel) rfl) (zGT_in 1972 (by decide +kernel) rfl)
theorem zc_X8_286 : zCV RX8 286 yX8_isOneEnough cX8_isOneEnough 4 (some .boolean) 8 1 := by
  refine ⟨RX8, Or.inl ⟨by decide, TX8, 21, rfl⟩, ?_, rfl, by decide +kernel, by decide +kernel, by decide +kernel⟩
  exact zV5 (zGT_in 1961 (by decide +kernel) rfl) (zGT_in 1963 (by decide +kernel) rfl) (zGT_in 80 (by decide +kernel) rfl) (zGT_in 114 (by decide +kernel) rfl) (zGT_in 1964 (by decide +kernel) rfl)
theorem zc_X8_292 : zCV RX8 292 yX8_comes cX8_comes 5 (some .int) 8 0 := by
  refine ⟨RX8, Or.inl ⟨by decide, TX8, 21, rfl⟩, ?_, rfl, by decide +kernel, by decide +kernel, by decide +kernel⟩
  exact zV5 (zGT_in 1985 (by decide +kernel) rfl) (zGT_in 1987 (by decide +kernel) rfl) (zGT_in 84 (by decide +kernel) rfl) (zGT_in 114 (by decide +kernel) rfl) (zGT_in 1988 (by decide +kernel) rfl)
theorem zc_X8_295 : zCV RX8 295 yX8_undeclared cX8_undeclared 4 (some .int) 8 1 := by
  refine ⟨RX8, Or.inl ⟨by decide, TX8, 21, rfl⟩, ?_, rfl, by decide +kernel, by decide +kernel, by decide +kernel⟩
  exact zV5 (zGT_in 2001 (by decide +kernel) rfl) (zGT_in 2003 (by decide +kernel) rfl) (zGT_in 85 (by decide +kernel) rfl) (zGT_in 114 (by decide +kernel) rfl) (zGT_in 2004 (by decide +kernel) rfl)
theorem zc_X8_298 : zCV RX8 298 yX8_seats cX8_seats 5 (some .int) 8 2 := by
  refine ⟨RX8, Or.inl ⟨by decide, TX8, 21, rfl⟩, ?_, rfl, by decide +kernel, by decide +kernel, by decide +kernel⟩
  exact zV5 (zGT_in 2013 (by decide +kernel) rfl) (zGT_in 2015 (by decide +kernel) rfl) (zGT_in 86 (by decide +kernel) rfl) (zGT_in 114 (by decide +kernel) rfl) (zGT_in 2016 (by decide +kernel) rfl)
theorem zc_X8_301 : zCV RX8 301 yX8_isBeyond cX8_isBeyond 4 (some .boolean) 8 2 := by
  refine ⟨RX8, Or.inl ⟨by decide, TX8, 21, rfl⟩, ?_, rfl, by decide +kernel, by decide +kernel, by decide +kernel⟩
  exact zV5 (zGT_in 2021 (by decide +kernel) rfl) (zGT_in 2023 (by decide +kernel) rfl) (zGT_in 87 (by decide +kernel) rfl) (zGT_in 114 (by decide +kernel) rfl) (zGT_in 2024 (by decide +kernel) rfl)
theorem zc_X8_304 : zCV RX8 304 yX8_isWrong cX8_isWrong 4 (some .boolean) 8 2 := by
  refine ⟨RX8, Or.inl ⟨by decide, TX8, 21, rfl⟩, ?_, rfl, by decide +kernel, by decide +kernel, by decide +kernel⟩
  exact zV5 (zGT_in 2033 (by decide +kernel) rfl) (zGT_in 2035 (by decide +kernel) rfl) (zGT_in 88 (by decide +kernel) rfl) (zGT_in 114 (by decide +kernel) rfl) (zGT_in 2036 (by decide +kernel) rfl)
theorem zf_X8_25 : zFW RX8 25 8 7 := ⟨RX8, TX8, 21, by decide, rfl, by decide, zu_X8, zGT_in 1539 (by decide +kernel) rfl⟩
theorem zsi_5380 : (Int16.ofInt (5380)).toInt32 = (5380 : Int32) := by decide +kernel
theorem zc_X8_307 : zCV RX8 307 yX8_keeps cX8_keeps 2 none 8 0 := by
  refine ⟨RX8, Or.inl ⟨by decide, TX8, 21, rfl⟩, ?_, rfl, by decide +kernel, by decide +kernel, by decide +kernel⟩
  exact zV5 (zGT_in 2045 (by decide +kernel) rfl) (zGT_in 2047 (by decide +kernel) rfl) (zGT_in 89 (by decide +kernel) rfl) (zGT_in 114 (by decide +kernel) rfl) (zGT_in 2048 (by decide +kernel) rfl)
theorem zc_X8_310 : zCV RX8 310 yX8_inHall cX8_inHall 3 (some .int) 8 0 := by
  refine ⟨RX8, Or.inl ⟨by decide, TX8, 21, rfl⟩, ?_, rfl, by decide +kernel, by decide +kernel, by decide +kernel⟩
  exact zV5 (zGT_in 2049 (by decide +kernel) rfl) (zGT_in 2051 (by decide +kernel) rfl) (zGT_in 90 (by decide +kernel) rfl) (zGT_in 114 (by decide +kernel) rfl) (zGT_in 2052 (by decide +kernel) rfl)
theorem zbi_m6 : (Int8.ofInt (-6)).toInt32 = (-6 : Int32) := by decide +kernel
theorem zc_X8_313 : zCV RX8 313 yX8_opens cX8_opens 3 none 8 2 := by
  refine ⟨RX8, Or.inl ⟨by decide, TX8, 21, rfl⟩, ?_, rfl, by decide +kernel, by decide +kernel, by decide +kernel⟩
  exact zV5 (zGT_in 2057 (by decide +kernel) rfl) (zGT_in 2059 (by decide +kernel) rfl) (zGT_in 91 (by decide +kernel) rfl) (zGT_in 114 (by decide +kernel) rfl) (zGT_in 2060 (by decide +kernel) rfl)
theorem zbi_m7 : (Int8.ofInt (-7)).toInt32 = (-7 : Int32) := by decide +kernel
theorem zc_X8_317 : zCV RX8 317 yX8_counts cX8_counts 5 none 8 2 := by
  refine ⟨RX8, Or.inl ⟨by decide, TX8, 21, rfl⟩, ?_, rfl, by decide +kernel, by decide +kernel, by decide +kernel⟩
  exact zV5 (zGT_in 2065 (by decide +kernel) rfl) (zGT_in 2067 (by decide +kernel) rfl) (zGT_in 92 (by decide +kernel) rfl) (zGT_in 114 (by decide +kernel) rfl) (zGT_in 2068 (by decide +kernel) rfl)
theorem zc_X8_320 : zCV RX8 320 yX8_enters cX8_enters 3 none 8 2 := by
  refine ⟨RX8, Or.inl ⟨by decide, TX8, 21, rfl⟩, ?_, rfl, by decide +kernel, by decide +kernel, by decide +kernel⟩
  exact zV5 (zGT_in 2077 (by decide +kernel) rfl) (zGT_in 2079 (by decide +kernel) rfl) (zGT_in 94 (by decide +kernel) rfl) (zGT_in 114 (by decide +kernel) rfl) (zGT_in 2080 (by decide +kernel) rfl)
theorem zc_X8_323 : zCV RX8 323 yX8_seals cX8_seals 2 none 8 1 := by
  refine ⟨RX8, Or.inl ⟨by decide, TX8, 21, rfl⟩, ?_, rfl, by decide +kernel, by decide +kernel, by decide +kernel⟩
  exact zV5 (zGT_in 2073 (by decide +kernel) rfl) (zGT_in 2075 (by decide +kernel) rfl) (zGT_in 93 (by decide +kernel) rfl) (zGT_in 114 (by decide +kernel) rfl) (zGT_in 2076 (by decide +kernel) rfl)
theorem zc_X8_326 : zCV RX8 326 yX8_wasCountedAt cX8_wasCountedAt 4 (some .boolean) 8 2 := by
  refine ⟨RX8, Or.inl ⟨by decide, TX8, 21, rfl⟩, ?_, rfl, by decide +kernel, by decide +kernel, by decide +kernel⟩
  exact zV5 (zGT_in 2101 (by decide +kernel) rfl) (zGT_in 2103 (by decide +kernel) rfl) (zGT_in 96 (by decide +kernel) rfl) (zGT_in 114 (by decide +kernel) rfl) (zGT_in 2104 (by decide +kernel) rfl)
theorem zc_X8_329 : zCV RX8 329 yX8_toOpen cX8_toOpen 4 (some .int) 8 2 := by
  refine ⟨RX8, Or.inl ⟨by decide, TX8, 21, rfl⟩, ?_, rfl, by decide +kernel, by decide +kernel, by decide +kernel⟩
  exact zV5 (zGT_in 2097 (by decide +kernel) rfl) (zGT_in 2099 (by decide +kernel) rfl) (zGT_in 95 (by decide +kernel) rfl) (zGT_in 114 (by decide +kernel) rfl) (zGT_in 2100 (by decide +kernel) rfl)
theorem zf_X8_32 : zFW RX8 32 8 19 := ⟨RX8, TX8, 21, by decide, rfl, by decide, zu_X8, zGT_in 1551 (by decide +kernel) rfl⟩
theorem zf_X8_332 : zFW RX8 332 8 20 := ⟨RX8, TX8, 21, by decide, rfl, by decide, zu_X8, zGT_in 1552 (by decide +kernel) rfl⟩
theorem zp_X8_332 : zPW RX8 332 8 20 .int := ⟨RX8, TX8, 21, tyX8, ⟨by decide, rfl, by decide, zu_X8, zGT_in 1552 (by decide +kernel) rfl⟩, tyX8_ok, nmX8, rfl, by decide +kernel⟩
theorem zbi_31 : (Int8.ofInt (31)).toInt32 = (31 : Int32) := by decide +kernel
theorem zbi_96 : (Int8.ofInt (96)).toInt32 = (96 : Int32) := by decide +kernel
theorem zc_X8_335 : zCV RX8 335 yX8_writes cX8_writes 2 none 8 1 := by
  refine ⟨RX8, Or.inl ⟨by decide, TX8, 21, rfl⟩, ?_, rfl, by decide +kernel, by decide +kernel, by decide +kernel⟩
  exact zV5 (zGT_in 2117 (by decide +kernel) rfl) (zGT_in 2119 (by decide +kernel) rfl) (zGT_in 98 (by decide +kernel) rfl) (zGT_in 114 (by decide +kernel) rfl) (zGT_in 2120 (by decide +kernel) rfl)
theorem zc_X8_338 : zCV RX8 338 yX8_writesName cX8_writesName 4 none 8 1 := by
  refine ⟨RX8, Or.inl ⟨by decide, TX8, 21, rfl⟩, ?_, rfl, by decide +kernel, by decide +kernel, by decide +kernel⟩
  exact zV5 (zGT_in 2113 (by decide +kernel) rfl) (zGT_in 2115 (by decide +kernel) rfl) (zGT_in 97 (by decide +kernel) rfl) (zGT_in 114 (by decide +kernel) rfl) (zGT_in 2116 (by decide +kernel) rfl)
theorem zbi_61 : (Int8.ofInt (61)).toInt32 = (61 : Int32) := by decide +kernel
theorem zc_X8_341 : zCV RX8 341 yX8_writesNumber cX8_writesNumber 3 none 8 1 := by
  refine ⟨RX8, Or.inl ⟨by decide, TX8, 21, rfl⟩, ?_, rfl, by decide +kernel, by decide +kernel, by decide +kernel⟩
  exact zV5 (zGT_in 2121 (by decide +kernel) rfl) (zGT_in 2123 (by decide +kernel) rfl) (zGT_in 99 (by decide +kernel) rfl) (zGT_in 114 (by decide +kernel) rfl) (zGT_in 2124 (by decide +kernel) rfl)
