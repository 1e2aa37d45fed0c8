theorem tst_0 : decode cX0_init 0 = .ok (.aload_n 0, 1) := dX0_init_0
