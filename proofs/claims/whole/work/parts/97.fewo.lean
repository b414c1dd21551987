theorem mlev4 : allN (fun s => s == 0 || mA 4 (s + 1) (mP 4 s) mW4 0 (mP 4 s) == some (mP 4 (s + 1))) 8 = true := by decide +kernel
