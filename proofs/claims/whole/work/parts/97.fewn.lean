theorem mI_a4 : allN (fun t => (mTb4 >>> (8 * t)) % 256 == 0 || (mW4.getD ((mTb4 >>> (8 * t)) % 256 - 1) (0, 0)).1 == t) 65536 = true := by decide +kernel
