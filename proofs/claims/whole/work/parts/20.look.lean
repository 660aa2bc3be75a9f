theorem zz_test : decode cX8_many 0 = .ok (.aload_n 0, 1) := dX8_many_0
