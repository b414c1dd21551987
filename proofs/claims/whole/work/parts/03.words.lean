theorem kN_L : Cond.initialized RL ∈ g_ws := g_wm (tb1 _ (List.mem_of_getElem? (i := 0) rfl)) rfl
theorem kN_X11 : Cond.initialized RX11 ∈ g_ws := g_wm (tb1 _ (List.mem_of_getElem? (i := 1) rfl)) rfl
theorem kN_X2 : Cond.initialized RX2 ∈ g_ws := g_wm (tb1 _ (List.mem_of_getElem? (i := 2) rfl)) rfl
theorem kN_X0 : Cond.initialized RX0 ∈ g_ws := g_wm (tb1 _ (List.mem_of_getElem? (i := 3) rfl)) rfl
theorem kN_X10 : Cond.initialized RX10 ∈ g_ws := g_wm (tb1 _ (List.mem_of_getElem? (i := 4) rfl)) rfl
theorem kN_X4 : Cond.initialized RX4 ∈ g_ws := g_wm (tb1 _ (List.mem_of_getElem? (i := 5) rfl)) rfl
theorem kN_X9 : Cond.initialized RX9 ∈ g_ws := g_wm (tb1 _ (List.mem_of_getElem? (i := 6) rfl)) rfl
theorem kN_X8 : Cond.initialized RX8 ∈ g_ws := g_wm (tb1 _ (List.mem_of_getElem? (i := 7) rfl)) rfl
theorem kN_X5 : Cond.initialized RX5 ∈ g_ws := g_wm (tb1 _ (List.mem_of_getElem? (i := 8) rfl)) rfl
theorem kN_X1 : Cond.initialized RX1 ∈ g_ws := g_wm (tb1 _ (List.mem_of_getElem? (i := 9) rfl)) rfl
theorem kN_X6 : Cond.initialized RX6 ∈ g_ws := g_wm (tb1 _ (List.mem_of_getElem? (i := 10) rfl)) rfl
theorem kN_X3 : Cond.initialized RX3 ∈ g_ws := g_wm (tb1 _ (List.mem_of_getElem? (i := 11) rfl)) rfl
theorem kN_X7 : Cond.initialized RX7 ∈ g_ws := g_wm (tb1 _ (List.mem_of_getElem? (i := 12) rfl)) rfl
theorem kN_X12 : Cond.initialized RX12 ∈ g_ws := g_wm (tb1 _ (List.mem_of_getElem? (i := 13) rfl)) rfl
theorem kN_J6 : Cond.initialized RJ6 ∈ g_ws := g_wm (tb1 _ (List.mem_of_getElem? (i := 14) rfl)) rfl
theorem kN_J0 : Cond.initialized RJ0 ∈ g_ws := g_wm (tb1 _ (List.mem_of_getElem? (i := 15) rfl)) rfl
theorem kN_J1 : Cond.initialized RJ1 ∈ g_ws := g_wm (tb1 _ (List.mem_of_getElem? (i := 16) rfl)) rfl
theorem kN_J3 : Cond.initialized RJ3 ∈ g_ws := g_wm (tb1 _ (List.mem_of_getElem? (i := 17) rfl)) rfl
theorem kN_J2 : Cond.initialized RJ2 ∈ g_ws := g_wm (tb1 _ (List.mem_of_getElem? (i := 18) rfl)) rfl
theorem kN_J9 : Cond.initialized RJ9 ∈ g_ws := g_wm (tb1 _ (List.mem_of_getElem? (i := 19) rfl)) rfl
theorem kN_J10 : Cond.initialized RJ10 ∈ g_ws := g_wm (tb1 _ (List.mem_of_getElem? (i := 20) rfl)) rfl
theorem kN_J7 : Cond.initialized RJ7 ∈ g_ws := g_wm (tb1 _ (List.mem_of_getElem? (i := 21) rfl)) rfl
theorem kM_L_9 : Cond.methodLink RL 9 yX11_init ∈ g_ws := g_wm (tb1 _ (List.mem_of_getElem? (i := 24) rfl)) rfl
theorem kI_X11_init : Cond.instanceMethod yX11_init ∈ g_ws := g_wm (tb1 _ (List.mem_of_getElem? (i := 25) rfl)) rfl
theorem kC_X11_init : Cond.code yX11_init cX11_init 2 none ∈ g_ws := g_wm (tb1 _ (List.mem_of_getElem? (i := 26) rfl)) rfl
theorem kI_X2_init : Cond.instanceMethod yX2_init ∈ g_ws := g_wm (tb1 _ (List.mem_of_getElem? (i := 33) rfl)) rfl
theorem kC_X2_init : Cond.code yX2_init cX2_init 1 none ∈ g_ws := g_wm (tb1 _ (List.mem_of_getElem? (i := 34) rfl)) rfl
theorem kF_X2_9 : Cond.fieldLink RX2 9 (TX2 0).1 (TX2 0).2.1 (TX2 0).2.2.1 ∈ g_ws := g_wm (tb1 _ (List.mem_of_getElem? (i := 36) rfl)) rfl
theorem kF_X11_367 : Cond.fieldLink RX11 367 (TX2 0).1 (TX2 0).2.1 (TX2 0).2.2.1 ∈ g_ws := g_wm (tb1 _ (List.mem_of_getElem? (i := 37) rfl)) rfl
theorem kF_X2_16 : Cond.fieldLink RX2 16 (TX2 1).1 (TX2 1).2.1 (TX2 1).2.2.1 ∈ g_ws := g_wm (tb1 _ (List.mem_of_getElem? (i := 38) rfl)) rfl
theorem kF_X11_364 : Cond.fieldLink RX11 364 (TX2 1).1 (TX2 1).2.1 (TX2 1).2.2.1 ∈ g_ws := g_wm (tb1 _ (List.mem_of_getElem? (i := 39) rfl)) rfl
theorem kI_X0_init : Cond.instanceMethod yX0_init ∈ g_ws := g_wm (tb1 _ (List.mem_of_getElem? (i := 49) rfl)) rfl
theorem kC_X0_init : Cond.code yX0_init cX0_init 1 none ∈ g_ws := g_wm (tb1 _ (List.mem_of_getElem? (i := 50) rfl)) rfl
theorem kF_X0_24 : Cond.fieldLink RX0 24 (TX0 0).1 (TX0 0).2.1 (TX0 0).2.2.1 ∈ g_ws := g_wm (tb1 _ (List.mem_of_getElem? (i := 52) rfl)) rfl
theorem kF_X11_95 : Cond.fieldLink RX11 95 (TX0 0).1 (TX0 0).2.1 (TX0 0).2.2.1 ∈ g_ws := g_wm (tb1 _ (List.mem_of_getElem? (i := 53) rfl)) rfl
theorem kF_X11_111 : Cond.fieldLink RX11 111 (TX0 1).1 (TX0 1).2.1 (TX0 1).2.2.1 ∈ g_ws := g_wm (tb1 _ (List.mem_of_getElem? (i := 54) rfl)) rfl
theorem kF_X0_28 : Cond.fieldLink RX0 28 (TX0 1).1 (TX0 1).2.1 (TX0 1).2.2.1 ∈ g_ws := g_wm (tb1 _ (List.mem_of_getElem? (i := 55) rfl)) rfl
theorem kF_X0_44 : Cond.fieldLink RX0 44 (TX0 2).1 (TX0 2).2.1 (TX0 2).2.2.1 ∈ g_ws := g_wm (tb1 _ (List.mem_of_getElem? (i := 56) rfl)) rfl
theorem kF_X11_229 : Cond.fieldLink RX11 229 (TX0 2).1 (TX0 2).2.1 (TX0 2).2.2.1 ∈ g_ws := g_wm (tb1 _ (List.mem_of_getElem? (i := 57) rfl)) rfl
theorem kF_X5_23 : Cond.fieldLink RX5 23 (TX0 3).1 (TX0 3).2.1 (TX0 3).2.2.1 ∈ g_ws := g_wm (tb1 _ (List.mem_of_getElem? (i := 58) rfl)) rfl
theorem kF_X0_31 : Cond.fieldLink RX0 31 (TX0 3).1 (TX0 3).2.1 (TX0 3).2.2.1 ∈ g_ws := g_wm (tb1 _ (List.mem_of_getElem? (i := 59) rfl)) rfl
theorem kF_X11_370 : Cond.fieldLink RX11 370 (TX0 3).1 (TX0 3).2.1 (TX0 3).2.2.1 ∈ g_ws := g_wm (tb1 _ (List.mem_of_getElem? (i := 60) rfl)) rfl
theorem kF_X0_9 : Cond.fieldLink RX0 9 (TX0 4).1 (TX0 4).2.1 (TX0 4).2.2.1 ∈ g_ws := g_wm (tb1 _ (List.mem_of_getElem? (i := 61) rfl)) rfl
theorem kF_X11_107 : Cond.fieldLink RX11 107 (TX0 4).1 (TX0 4).2.1 (TX0 4).2.2.1 ∈ g_ws := g_wm (tb1 _ (List.mem_of_getElem? (i := 62) rfl)) rfl
theorem kF_X0_15 : Cond.fieldLink RX0 15 (TX0 5).1 (TX0 5).2.1 (TX0 5).2.2.1 ∈ g_ws := g_wm (tb1 _ (List.mem_of_getElem? (i := 63) rfl)) rfl
theorem kF_X5_35 : Cond.fieldLink RX5 35 (TX0 5).1 (TX0 5).2.1 (TX0 5).2.2.1 ∈ g_ws := g_wm (tb1 _ (List.mem_of_getElem? (i := 64) rfl)) rfl
theorem kF_X11_114 : Cond.fieldLink RX11 114 (TX0 5).1 (TX0 5).2.1 (TX0 5).2.2.1 ∈ g_ws := g_wm (tb1 _ (List.mem_of_getElem? (i := 65) rfl)) rfl
theorem kF_X0_18 : Cond.fieldLink RX0 18 (TX0 6).1 (TX0 6).2.1 (TX0 6).2.2.1 ∈ g_ws := g_wm (tb1 _ (List.mem_of_getElem? (i := 66) rfl)) rfl
theorem kF_X11_122 : Cond.fieldLink RX11 122 (TX0 6).1 (TX0 6).2.1 (TX0 6).2.2.1 ∈ g_ws := g_wm (tb1 _ (List.mem_of_getElem? (i := 67) rfl)) rfl
theorem kF_X0_21 : Cond.fieldLink RX0 21 (TX0 7).1 (TX0 7).2.1 (TX0 7).2.2.1 ∈ g_ws := g_wm (tb1 _ (List.mem_of_getElem? (i := 68) rfl)) rfl
theorem kF_X11_264 : Cond.fieldLink RX11 264 (TX0 7).1 (TX0 7).2.1 (TX0 7).2.2.1 ∈ g_ws := g_wm (tb1 _ (List.mem_of_getElem? (i := 69) rfl)) rfl
theorem kI_X10_init : Cond.instanceMethod yX10_init ∈ g_ws := g_wm (tb1 _ (List.mem_of_getElem? (i := 90) rfl)) rfl
theorem kC_X10_init : Cond.code yX10_init cX10_init 1 none ∈ g_ws := g_wm (tb1 _ (List.mem_of_getElem? (i := 91) rfl)) rfl
theorem kF_X10_24 : Cond.fieldLink RX10 24 (TX10 0).1 (TX10 0).2.1 (TX10 0).2.2.1 ∈ g_ws := g_wm (tb1 _ (List.mem_of_getElem? (i := 95) rfl)) rfl
theorem kF_X11_141 : Cond.fieldLink RX11 141 (TX10 0).1 (TX10 0).2.1 (TX10 0).2.2.1 ∈ g_ws := g_wm (tb1 _ (List.mem_of_getElem? (i := 96) rfl)) rfl
theorem kF_X10_9 : Cond.fieldLink RX10 9 (TX10 1).1 (TX10 1).2.1 (TX10 1).2.2.1 ∈ g_ws := g_wm (tb1 _ (List.mem_of_getElem? (i := 97) rfl)) rfl
theorem kF_X11_166 : Cond.fieldLink RX11 166 (TX10 1).1 (TX10 1).2.1 (TX10 1).2.2.1 ∈ g_ws := g_wm (tb1 _ (List.mem_of_getElem? (i := 98) rfl)) rfl
theorem kF_X10_33 : Cond.fieldLink RX10 33 (TX10 2).1 (TX10 2).2.1 (TX10 2).2.2.1 ∈ g_ws := g_wm (tb1 _ (List.mem_of_getElem? (i := 99) rfl)) rfl
theorem kF_X11_373 : Cond.fieldLink RX11 373 (TX10 2).1 (TX10 2).2.1 (TX10 2).2.2.1 ∈ g_ws := g_wm (tb1 _ (List.mem_of_getElem? (i := 100) rfl)) rfl
theorem kF_X10_15 : Cond.fieldLink RX10 15 (TX10 3).1 (TX10 3).2.1 (TX10 3).2.2.1 ∈ g_ws := g_wm (tb1 _ (List.mem_of_getElem? (i := 101) rfl)) rfl
theorem kF_X10_21 : Cond.fieldLink RX10 21 (TX10 4).1 (TX10 4).2.1 (TX10 4).2.2.1 ∈ g_ws := g_wm (tb1 _ (List.mem_of_getElem? (i := 102) rfl)) rfl
theorem kI_X4_init : Cond.instanceMethod yX4_init ∈ g_ws := g_wm (tb1 _ (List.mem_of_getElem? (i := 117) rfl)) rfl
theorem kC_X4_init : Cond.code yX4_init cX4_init 1 none ∈ g_ws := g_wm (tb1 _ (List.mem_of_getElem? (i := 118) rfl)) rfl
theorem kF_X4_33 : Cond.fieldLink RX4 33 (TX4 0).1 (TX4 0).2.1 (TX4 0).2.2.1 ∈ g_ws := g_wm (tb1 _ (List.mem_of_getElem? (i := 120) rfl)) rfl
theorem kF_X11_349 : Cond.fieldLink RX11 349 (TX4 0).1 (TX4 0).2.1 (TX4 0).2.2.1 ∈ g_ws := g_wm (tb1 _ (List.mem_of_getElem? (i := 121) rfl)) rfl
theorem kF_X5_28 : Cond.fieldLink RX5 28 (TX4 1).1 (TX4 1).2.1 (TX4 1).2.2.1 ∈ g_ws := g_wm (tb1 _ (List.mem_of_getElem? (i := 122) rfl)) rfl
theorem kF_X4_45 : Cond.fieldLink RX4 45 (TX4 1).1 (TX4 1).2.1 (TX4 1).2.2.1 ∈ g_ws := g_wm (tb1 _ (List.mem_of_getElem? (i := 123) rfl)) rfl
theorem kF_X4_9 : Cond.fieldLink RX4 9 (TX4 2).1 (TX4 2).2.1 (TX4 2).2.2.1 ∈ g_ws := g_wm (tb1 _ (List.mem_of_getElem? (i := 124) rfl)) rfl
theorem kF_X11_199 : Cond.fieldLink RX11 199 (TX4 2).1 (TX4 2).2.1 (TX4 2).2.2.1 ∈ g_ws := g_wm (tb1 _ (List.mem_of_getElem? (i := 125) rfl)) rfl
theorem kF_X4_15 : Cond.fieldLink RX4 15 (TX4 3).1 (TX4 3).2.1 (TX4 3).2.2.1 ∈ g_ws := g_wm (tb1 _ (List.mem_of_getElem? (i := 126) rfl)) rfl
theorem kF_X11_207 : Cond.fieldLink RX11 207 (TX4 3).1 (TX4 3).2.1 (TX4 3).2.2.1 ∈ g_ws := g_wm (tb1 _ (List.mem_of_getElem? (i := 127) rfl)) rfl
theorem kF_X4_18 : Cond.fieldLink RX4 18 (TX4 4).1 (TX4 4).2.1 (TX4 4).2.2.1 ∈ g_ws := g_wm (tb1 _ (List.mem_of_getElem? (i := 128) rfl)) rfl
theorem kF_X4_21 : Cond.fieldLink RX4 21 (TX4 5).1 (TX4 5).2.1 (TX4 5).2.2.1 ∈ g_ws := g_wm (tb1 _ (List.mem_of_getElem? (i := 129) rfl)) rfl
theorem kF_X11_210 : Cond.fieldLink RX11 210 (TX4 5).1 (TX4 5).2.1 (TX4 5).2.2.1 ∈ g_ws := g_wm (tb1 _ (List.mem_of_getElem? (i := 130) rfl)) rfl
theorem kF_X4_24 : Cond.fieldLink RX4 24 (TX4 6).1 (TX4 6).2.1 (TX4 6).2.2.1 ∈ g_ws := g_wm (tb1 _ (List.mem_of_getElem? (i := 131) rfl)) rfl
theorem kF_X11_213 : Cond.fieldLink RX11 213 (TX4 6).1 (TX4 6).2.1 (TX4 6).2.2.1 ∈ g_ws := g_wm (tb1 _ (List.mem_of_getElem? (i := 132) rfl)) rfl
theorem kF_X4_27 : Cond.fieldLink RX4 27 (TX4 7).1 (TX4 7).2.1 (TX4 7).2.2.1 ∈ g_ws := g_wm (tb1 _ (List.mem_of_getElem? (i := 133) rfl)) rfl
theorem kF_X11_216 : Cond.fieldLink RX11 216 (TX4 7).1 (TX4 7).2.1 (TX4 7).2.2.1 ∈ g_ws := g_wm (tb1 _ (List.mem_of_getElem? (i := 134) rfl)) rfl
theorem kF_X4_30 : Cond.fieldLink RX4 30 (TX4 8).1 (TX4 8).2.1 (TX4 8).2.2.1 ∈ g_ws := g_wm (tb1 _ (List.mem_of_getElem? (i := 135) rfl)) rfl
theorem kF_X11_219 : Cond.fieldLink RX11 219 (TX4 8).1 (TX4 8).2.1 (TX4 8).2.2.1 ∈ g_ws := g_wm (tb1 _ (List.mem_of_getElem? (i := 136) rfl)) rfl
theorem kI_X9_init : Cond.instanceMethod yX9_init ∈ g_ws := g_wm (tb1 _ (List.mem_of_getElem? (i := 159) rfl)) rfl
theorem kC_X9_init : Cond.code yX9_init cX9_init 1 none ∈ g_ws := g_wm (tb1 _ (List.mem_of_getElem? (i := 160) rfl)) rfl
theorem kI_X8_init : Cond.instanceMethod yX8_init ∈ g_ws := g_wm (tb1 _ (List.mem_of_getElem? (i := 165) rfl)) rfl
theorem kC_X8_init : Cond.code yX8_init cX8_init 1 none ∈ g_ws := g_wm (tb1 _ (List.mem_of_getElem? (i := 166) rfl)) rfl
theorem kF_X8_9 : Cond.fieldLink RX8 9 (TX8 0).1 (TX8 0).2.1 (TX8 0).2.2.1 ∈ g_ws := g_wm (tb1 _ (List.mem_of_getElem? (i := 168) rfl)) rfl
theorem kF_X9_75 : Cond.fieldLink RX9 75 (TX8 0).1 (TX8 0).2.1 (TX8 0).2.2.1 ∈ g_ws := g_wm (tb1 _ (List.mem_of_getElem? (i := 169) rfl)) rfl
theorem kF_X8_15 : Cond.fieldLink RX8 15 (TX8 1).1 (TX8 1).2.1 (TX8 1).2.2.1 ∈ g_ws := g_wm (tb1 _ (List.mem_of_getElem? (i := 170) rfl)) rfl
theorem kF_X11_129 : Cond.fieldLink RX11 129 (TX8 1).1 (TX8 1).2.1 (TX8 1).2.2.1 ∈ g_ws := g_wm (tb1 _ (List.mem_of_getElem? (i := 171) rfl)) rfl
theorem kF_X9_74 : Cond.fieldLink RX9 74 (TX8 1).1 (TX8 1).2.1 (TX8 1).2.2.1 ∈ g_ws := g_wm (tb1 _ (List.mem_of_getElem? (i := 172) rfl)) rfl
theorem kF_X9_12 : Cond.fieldLink RX9 12 (TX9 0).1 (TX9 0).2.1 (TX9 0).2.2.1 ∈ g_ws := g_wm (tb1 _ (List.mem_of_getElem? (i := 178) rfl)) rfl
theorem kF_X11_47 : Cond.fieldLink RX11 47 (TX9 0).1 (TX9 0).2.1 (TX9 0).2.2.1 ∈ g_ws := g_wm (tb1 _ (List.mem_of_getElem? (i := 179) rfl)) rfl
theorem kF_X9_18 : Cond.fieldLink RX9 18 (TX9 1).1 (TX9 1).2.1 (TX9 1).2.2.1 ∈ g_ws := g_wm (tb1 _ (List.mem_of_getElem? (i := 180) rfl)) rfl
theorem kF_X11_145 : Cond.fieldLink RX11 145 (TX9 1).1 (TX9 1).2.1 (TX9 1).2.2.1 ∈ g_ws := g_wm (tb1 _ (List.mem_of_getElem? (i := 181) rfl)) rfl
theorem kF_X9_34 : Cond.fieldLink RX9 34 (TX9 2).1 (TX9 2).2.1 (TX9 2).2.2.1 ∈ g_ws := g_wm (tb1 _ (List.mem_of_getElem? (i := 182) rfl)) rfl
theorem kF_X11_148 : Cond.fieldLink RX11 148 (TX9 2).1 (TX9 2).2.1 (TX9 2).2.2.1 ∈ g_ws := g_wm (tb1 _ (List.mem_of_getElem? (i := 183) rfl)) rfl
theorem kF_X9_22 : Cond.fieldLink RX9 22 (TX9 3).1 (TX9 3).2.1 (TX9 3).2.2.1 ∈ g_ws := g_wm (tb1 _ (List.mem_of_getElem? (i := 184) rfl)) rfl
theorem kF_X9_25 : Cond.fieldLink RX9 25 (TX9 4).1 (TX9 4).2.1 (TX9 4).2.2.1 ∈ g_ws := g_wm (tb1 _ (List.mem_of_getElem? (i := 185) rfl)) rfl
theorem kF_X9_28 : Cond.fieldLink RX9 28 (TX9 5).1 (TX9 5).2.1 (TX9 5).2.2.1 ∈ g_ws := g_wm (tb1 _ (List.mem_of_getElem? (i := 186) rfl)) rfl
theorem kF_X9_38 : Cond.fieldLink RX9 38 (TX9 6).1 (TX9 6).2.1 (TX9 6).2.2.1 ∈ g_ws := g_wm (tb1 _ (List.mem_of_getElem? (i := 187) rfl)) rfl
theorem kF_X9_67 : Cond.fieldLink RX9 67 (TX9 7).1 (TX9 7).2.1 (TX9 7).2.2.1 ∈ g_ws := g_wm (tb1 _ (List.mem_of_getElem? (i := 188) rfl)) rfl
theorem kI_X5_init : Cond.instanceMethod yX5_init ∈ g_ws := g_wm (tb1 _ (List.mem_of_getElem? (i := 209) rfl)) rfl
theorem kC_X5_init : Cond.code yX5_init cX5_init 1 none ∈ g_ws := g_wm (tb1 _ (List.mem_of_getElem? (i := 210) rfl)) rfl
theorem kF_X5_9 : Cond.fieldLink RX5 9 (TX5 0).1 (TX5 0).2.1 (TX5 0).2.2.1 ∈ g_ws := g_wm (tb1 _ (List.mem_of_getElem? (i := 212) rfl)) rfl
theorem kF_X11_398 : Cond.fieldLink RX11 398 (TX5 0).1 (TX5 0).2.1 (TX5 0).2.2.1 ∈ g_ws := g_wm (tb1 _ (List.mem_of_getElem? (i := 213) rfl)) rfl
theorem kF_X5_15 : Cond.fieldLink RX5 15 (TX5 1).1 (TX5 1).2.1 (TX5 1).2.2.1 ∈ g_ws := g_wm (tb1 _ (List.mem_of_getElem? (i := 214) rfl)) rfl
theorem kF_X5_19 : Cond.fieldLink RX5 19 (TX5 2).1 (TX5 2).2.1 (TX5 2).2.2.1 ∈ g_ws := g_wm (tb1 _ (List.mem_of_getElem? (i := 215) rfl)) rfl
theorem kI_X1_init : Cond.instanceMethod yX1_init ∈ g_ws := g_wm (tb1 _ (List.mem_of_getElem? (i := 227) rfl)) rfl
theorem kC_X1_init : Cond.code yX1_init cX1_init 1 none ∈ g_ws := g_wm (tb1 _ (List.mem_of_getElem? (i := 228) rfl)) rfl
theorem kF_X1_9 : Cond.fieldLink RX1 9 (TX1 0).1 (TX1 0).2.1 (TX1 0).2.2.1 ∈ g_ws := g_wm (tb1 _ (List.mem_of_getElem? (i := 230) rfl)) rfl
theorem kF_X6_28 : Cond.fieldLink RX6 28 (TX1 0).1 (TX1 0).2.1 (TX1 0).2.2.1 ∈ g_ws := g_wm (tb1 _ (List.mem_of_getElem? (i := 231) rfl)) rfl
theorem kF_X11_378 : Cond.fieldLink RX11 378 (TX1 0).1 (TX1 0).2.1 (TX1 0).2.2.1 ∈ g_ws := g_wm (tb1 _ (List.mem_of_getElem? (i := 232) rfl)) rfl
theorem kF_X1_19 : Cond.fieldLink RX1 19 (TX1 1).1 (TX1 1).2.1 (TX1 1).2.2.1 ∈ g_ws := g_wm (tb1 _ (List.mem_of_getElem? (i := 233) rfl)) rfl
theorem kF_X6_23 : Cond.fieldLink RX6 23 (TX1 1).1 (TX1 1).2.1 (TX1 1).2.2.1 ∈ g_ws := g_wm (tb1 _ (List.mem_of_getElem? (i := 234) rfl)) rfl
theorem kF_X11_377 : Cond.fieldLink RX11 377 (TX1 1).1 (TX1 1).2.1 (TX1 1).2.2.1 ∈ g_ws := g_wm (tb1 _ (List.mem_of_getElem? (i := 235) rfl)) rfl
theorem kF_X1_15 : Cond.fieldLink RX1 15 (TX1 2).1 (TX1 2).2.1 (TX1 2).2.2.1 ∈ g_ws := g_wm (tb1 _ (List.mem_of_getElem? (i := 236) rfl)) rfl
theorem kF_X11_374 : Cond.fieldLink RX11 374 (TX1 2).1 (TX1 2).2.1 (TX1 2).2.2.1 ∈ g_ws := g_wm (tb1 _ (List.mem_of_getElem? (i := 237) rfl)) rfl
theorem kI_X6_init : Cond.instanceMethod yX6_init ∈ g_ws := g_wm (tb2 _ (List.mem_of_getElem? (i := 9) rfl)) rfl
theorem kC_X6_init : Cond.code yX6_init cX6_init 1 none ∈ g_ws := g_wm (tb2 _ (List.mem_of_getElem? (i := 10) rfl)) rfl
theorem kF_X6_11 : Cond.fieldLink RX6 11 (TX6 0).1 (TX6 0).2.1 (TX6 0).2.2.1 ∈ g_ws := g_wm (tb2 _ (List.mem_of_getElem? (i := 12) rfl)) rfl
theorem kF_X7_31 : Cond.fieldLink RX7 31 (TX6 0).1 (TX6 0).2.1 (TX6 0).2.2.1 ∈ g_ws := g_wm (tb2 _ (List.mem_of_getElem? (i := 13) rfl)) rfl
theorem kF_X11_386 : Cond.fieldLink RX11 386 (TX6 0).1 (TX6 0).2.1 (TX6 0).2.2.1 ∈ g_ws := g_wm (tb2 _ (List.mem_of_getElem? (i := 14) rfl)) rfl
theorem kF_X6_19 : Cond.fieldLink RX6 19 (TX6 1).1 (TX6 1).2.1 (TX6 1).2.2.1 ∈ g_ws := g_wm (tb2 _ (List.mem_of_getElem? (i := 15) rfl)) rfl
theorem kF_X7_28 : Cond.fieldLink RX7 28 (TX6 1).1 (TX6 1).2.1 (TX6 1).2.2.1 ∈ g_ws := g_wm (tb2 _ (List.mem_of_getElem? (i := 16) rfl)) rfl
theorem kF_X11_271 : Cond.fieldLink RX11 271 (TX6 1).1 (TX6 1).2.1 (TX6 1).2.2.1 ∈ g_ws := g_wm (tb2 _ (List.mem_of_getElem? (i := 17) rfl)) rfl
theorem kF_X6_15 : Cond.fieldLink RX6 15 (TX6 2).1 (TX6 2).2.1 (TX6 2).2.2.1 ∈ g_ws := g_wm (tb2 _ (List.mem_of_getElem? (i := 18) rfl)) rfl
theorem kI_X3_init : Cond.instanceMethod yX3_init ∈ g_ws := g_wm (tb2 _ (List.mem_of_getElem? (i := 29) rfl)) rfl
theorem kC_X3_init : Cond.code yX3_init cX3_init 1 none ∈ g_ws := g_wm (tb2 _ (List.mem_of_getElem? (i := 30) rfl)) rfl
theorem kF_X3_9 : Cond.fieldLink RX3 9 (TX3 0).1 (TX3 0).2.1 (TX3 0).2.2.1 ∈ g_ws := g_wm (tb2 _ (List.mem_of_getElem? (i := 32) rfl)) rfl
theorem kF_X3_13 : Cond.fieldLink RX3 13 (TX3 1).1 (TX3 1).2.1 (TX3 1).2.2.1 ∈ g_ws := g_wm (tb2 _ (List.mem_of_getElem? (i := 33) rfl)) rfl
theorem kF_X3_16 : Cond.fieldLink RX3 16 (TX3 2).1 (TX3 2).2.1 (TX3 2).2.2.1 ∈ g_ws := g_wm (tb2 _ (List.mem_of_getElem? (i := 34) rfl)) rfl
theorem kF_X3_39 : Cond.fieldLink RX3 39 (TX3 3).1 (TX3 3).2.1 (TX3 3).2.2.1 ∈ g_ws := g_wm (tb2 _ (List.mem_of_getElem? (i := 35) rfl)) rfl
theorem kF_X3_20 : Cond.fieldLink RX3 20 (TX3 4).1 (TX3 4).2.1 (TX3 4).2.2.1 ∈ g_ws := g_wm (tb2 _ (List.mem_of_getElem? (i := 36) rfl)) rfl
theorem kI_X7_init : Cond.instanceMethod yX7_init ∈ g_ws := g_wm (tb2 _ (List.mem_of_getElem? (i := 52) rfl)) rfl
theorem kC_X7_init : Cond.code yX7_init cX7_init 1 none ∈ g_ws := g_wm (tb2 _ (List.mem_of_getElem? (i := 53) rfl)) rfl
theorem kF_X7_15 : Cond.fieldLink RX7 15 (TX7 0).1 (TX7 0).2.1 (TX7 0).2.2.1 ∈ g_ws := g_wm (tb2 _ (List.mem_of_getElem? (i := 55) rfl)) rfl
theorem kF_X11_323 : Cond.fieldLink RX11 323 (TX7 0).1 (TX7 0).2.1 (TX7 0).2.2.1 ∈ g_ws := g_wm (tb2 _ (List.mem_of_getElem? (i := 56) rfl)) rfl
theorem kF_X7_19 : Cond.fieldLink RX7 19 (TX7 1).1 (TX7 1).2.1 (TX7 1).2.2.1 ∈ g_ws := g_wm (tb2 _ (List.mem_of_getElem? (i := 57) rfl)) rfl
theorem kF_X11_316 : Cond.fieldLink RX11 316 (TX7 1).1 (TX7 1).2.1 (TX7 1).2.2.1 ∈ g_ws := g_wm (tb2 _ (List.mem_of_getElem? (i := 58) rfl)) rfl
theorem kF_X7_9 : Cond.fieldLink RX7 9 (TX7 2).1 (TX7 2).2.1 (TX7 2).2.2.1 ∈ g_ws := g_wm (tb2 _ (List.mem_of_getElem? (i := 59) rfl)) rfl
theorem kF_X11_329 : Cond.fieldLink RX11 329 (TX7 2).1 (TX7 2).2.1 (TX7 2).2.2.1 ∈ g_ws := g_wm (tb2 _ (List.mem_of_getElem? (i := 60) rfl)) rfl
theorem kF_X11_12 : Cond.fieldLink RX11 12 (TX11 0).1 (TX11 0).2.1 (TX11 0).2.2.1 ∈ g_ws := g_wm (tb2 _ (List.mem_of_getElem? (i := 68) rfl)) rfl
theorem kF_X11_19 : Cond.fieldLink RX11 19 (TX11 1).1 (TX11 1).2.1 (TX11 1).2.2.1 ∈ g_ws := g_wm (tb2 _ (List.mem_of_getElem? (i := 69) rfl)) rfl
theorem kF_X11_26 : Cond.fieldLink RX11 26 (TX11 2).1 (TX11 2).2.1 (TX11 2).2.2.1 ∈ g_ws := g_wm (tb2 _ (List.mem_of_getElem? (i := 70) rfl)) rfl
theorem kF_X11_33 : Cond.fieldLink RX11 33 (TX11 3).1 (TX11 3).2.1 (TX11 3).2.2.1 ∈ g_ws := g_wm (tb2 _ (List.mem_of_getElem? (i := 71) rfl)) rfl
theorem kF_X11_353 : Cond.fieldLink RX11 353 (TX11 4).1 (TX11 4).2.1 (TX11 4).2.2.1 ∈ g_ws := g_wm (tb2 _ (List.mem_of_getElem? (i := 72) rfl)) rfl
theorem kF_X11_37 : Cond.fieldLink RX11 37 (TX11 5).1 (TX11 5).2.1 (TX11 5).2.2.1 ∈ g_ws := g_wm (tb2 _ (List.mem_of_getElem? (i := 73) rfl)) rfl
theorem kF_X11_343 : Cond.fieldLink RX11 343 (TX11 6).1 (TX11 6).2.1 (TX11 6).2.2.1 ∈ g_ws := g_wm (tb2 _ (List.mem_of_getElem? (i := 74) rfl)) rfl
theorem kF_X11_346 : Cond.fieldLink RX11 346 (TX11 7).1 (TX11 7).2.1 (TX11 7).2.2.1 ∈ g_ws := g_wm (tb2 _ (List.mem_of_getElem? (i := 75) rfl)) rfl
theorem kF_X11_350 : Cond.fieldLink RX11 350 (TX11 8).1 (TX11 8).2.1 (TX11 8).2.2.1 ∈ g_ws := g_wm (tb2 _ (List.mem_of_getElem? (i := 76) rfl)) rfl
theorem kF_X11_43 : Cond.fieldLink RX11 43 (TX11 9).1 (TX11 9).2.1 (TX11 9).2.2.1 ∈ g_ws := g_wm (tb2 _ (List.mem_of_getElem? (i := 77) rfl)) rfl
theorem kF_X11_51 : Cond.fieldLink RX11 51 (TX11 10).1 (TX11 10).2.1 (TX11 10).2.2.1 ∈ g_ws := g_wm (tb2 _ (List.mem_of_getElem? (i := 78) rfl)) rfl
theorem kF_X11_55 : Cond.fieldLink RX11 55 (TX11 11).1 (TX11 11).2.1 (TX11 11).2.2.1 ∈ g_ws := g_wm (tb2 _ (List.mem_of_getElem? (i := 79) rfl)) rfl
theorem kF_X11_62 : Cond.fieldLink RX11 62 (TX11 12).1 (TX11 12).2.1 (TX11 12).2.2.1 ∈ g_ws := g_wm (tb2 _ (List.mem_of_getElem? (i := 80) rfl)) rfl
theorem kF_X11_66 : Cond.fieldLink RX11 66 (TX11 13).1 (TX11 13).2.1 (TX11 13).2.2.1 ∈ g_ws := g_wm (tb2 _ (List.mem_of_getElem? (i := 81) rfl)) rfl
theorem kF_X11_72 : Cond.fieldLink RX11 72 (TX11 14).1 (TX11 14).2.1 (TX11 14).2.2.1 ∈ g_ws := g_wm (tb2 _ (List.mem_of_getElem? (i := 82) rfl)) rfl
theorem kF_X11_79 : Cond.fieldLink RX11 79 (TX11 15).1 (TX11 15).2.1 (TX11 15).2.2.1 ∈ g_ws := g_wm (tb2 _ (List.mem_of_getElem? (i := 83) rfl)) rfl
theorem kF_X11_85 : Cond.fieldLink RX11 85 (TX11 16).1 (TX11 16).2.1 (TX11 16).2.2.1 ∈ g_ws := g_wm (tb2 _ (List.mem_of_getElem? (i := 84) rfl)) rfl
theorem kM_L_13 : Cond.methodLink RL 13 yX11_elder ∈ g_ws := g_wm (tb2 _ (List.mem_of_getElem? (i := 120) rfl)) rfl
theorem kI_X11_elder : Cond.instanceMethod yX11_elder ∈ g_ws := g_wm (tb2 _ (List.mem_of_getElem? (i := 121) rfl)) rfl
theorem kS_X11_elder : Cond.selects RX11 yX11_elder yX11_elder ∈ g_ws := g_wm (tb2 _ (List.mem_of_getElem? (i := 122) rfl)) rfl
theorem kC_X11_elder : Cond.code yX11_elder cX11_elder 2 (some .int) ∈ g_ws := g_wm (tb2 _ (List.mem_of_getElem? (i := 123) rfl)) rfl
theorem kK_X11_90 : Cond.constant RX11 90 (-1000000001) ∈ g_ws := g_wm (tb2 _ (List.mem_of_getElem? (i := 124) rfl)) rfl
theorem kM_X11_91 : Cond.methodLink RX11 91 yX2_tell ∈ g_ws := g_wm (tb2 _ (List.mem_of_getElem? (i := 125) rfl)) rfl
theorem kI_X2_tell : Cond.instanceMethod yX2_tell ∈ g_ws := g_wm (tb2 _ (List.mem_of_getElem? (i := 126) rfl)) rfl
theorem kS_X2_tell : Cond.selects RX2 yX2_tell yX2_tell ∈ g_ws := g_wm (tb2 _ (List.mem_of_getElem? (i := 127) rfl)) rfl
theorem kC_X2_tell : Cond.code yX2_tell cX2_tell 3 (some .int) ∈ g_ws := g_wm (tb2 _ (List.mem_of_getElem? (i := 128) rfl)) rfl
theorem kK_X2_15 : Cond.constant RX2 15 (-1000000001) ∈ g_ws := g_wm (tb2 _ (List.mem_of_getElem? (i := 129) rfl)) rfl
theorem kK_X11_99 : Cond.constant RX11 99 (-1000000002) ∈ g_ws := g_wm (tb2 _ (List.mem_of_getElem? (i := 130) rfl)) rfl
theorem kM_X11_100 : Cond.methodLink RX11 100 yX0_add ∈ g_ws := g_wm (tb2 _ (List.mem_of_getElem? (i := 131) rfl)) rfl
theorem kI_X0_add : Cond.instanceMethod yX0_add ∈ g_ws := g_wm (tb2 _ (List.mem_of_getElem? (i := 132) rfl)) rfl
theorem kS_X0_add : Cond.selects RX0 yX0_add yX0_add ∈ g_ws := g_wm (tb2 _ (List.mem_of_getElem? (i := 133) rfl)) rfl
theorem kC_X0_add : Cond.code yX0_add cX0_add 2 (some .int) ∈ g_ws := g_wm (tb2 _ (List.mem_of_getElem? (i := 134) rfl)) rfl
theorem kM_L_18 : Cond.methodLink RL 18 yX11_of ∈ g_ws := g_wm (tb2 _ (List.mem_of_getElem? (i := 135) rfl)) rfl
theorem kI_X11_of : Cond.instanceMethod yX11_of ∈ g_ws := g_wm (tb2 _ (List.mem_of_getElem? (i := 136) rfl)) rfl
theorem kS_X11_of : Cond.selects RX11 yX11_of yX11_of ∈ g_ws := g_wm (tb2 _ (List.mem_of_getElem? (i := 137) rfl)) rfl
theorem kC_X11_of : Cond.code yX11_of cX11_of 3 (some .int) ∈ g_ws := g_wm (tb2 _ (List.mem_of_getElem? (i := 138) rfl)) rfl
theorem kM_X11_103 : Cond.methodLink RX11 103 yX0_has ∈ g_ws := g_wm (tb2 _ (List.mem_of_getElem? (i := 139) rfl)) rfl
theorem kI_X0_has : Cond.instanceMethod yX0_has ∈ g_ws := g_wm (tb2 _ (List.mem_of_getElem? (i := 140) rfl)) rfl
theorem kS_X0_has : Cond.selects RX0 yX0_has yX0_has ∈ g_ws := g_wm (tb2 _ (List.mem_of_getElem? (i := 141) rfl)) rfl
theorem kC_X0_has : Cond.code yX0_has cX0_has 2 (some .boolean) ∈ g_ws := g_wm (tb2 _ (List.mem_of_getElem? (i := 142) rfl)) rfl
theorem kM_X11_117 : Cond.methodLink RX11 117 yJ6_bitCount_0f7a4 ∈ g_ws := g_wm (tb2 _ (List.mem_of_getElem? (i := 143) rfl)) rfl
theorem kT_J6_bitCount_0f7a4 : Cond.static yJ6_bitCount_0f7a4 ∈ g_ws := g_wm (tb2 _ (List.mem_of_getElem? (i := 144) rfl)) rfl
theorem kC_J6_bitCount_0f7a4 : Cond.code yJ6_bitCount_0f7a4 cJ6_bitCount_0f7a4 1 (some .int) ∈ g_ws := g_wm (tb2 _ (List.mem_of_getElem? (i := 145) rfl)) rfl
theorem kK_J6_265 : Cond.constant RJ6 265 (1431655765) ∈ g_ws := g_wm (tb2 _ (List.mem_of_getElem? (i := 146) rfl)) rfl
theorem kK_J6_266 : Cond.constant RJ6 266 (858993459) ∈ g_ws := g_wm (tb2 _ (List.mem_of_getElem? (i := 147) rfl)) rfl
theorem kK_J6_267 : Cond.constant RJ6 267 (252645135) ∈ g_ws := g_wm (tb2 _ (List.mem_of_getElem? (i := 148) rfl)) rfl
theorem kM_L_23 : Cond.methodLink RL 23 yX11_gone ∈ g_ws := g_wm (tb2 _ (List.mem_of_getElem? (i := 149) rfl)) rfl
theorem kI_X11_gone : Cond.instanceMethod yX11_gone ∈ g_ws := g_wm (tb2 _ (List.mem_of_getElem? (i := 150) rfl)) rfl
theorem kS_X11_gone : Cond.selects RX11 yX11_gone yX11_gone ∈ g_ws := g_wm (tb2 _ (List.mem_of_getElem? (i := 151) rfl)) rfl
theorem kC_X11_gone : Cond.code yX11_gone cX11_gone 3 (some .int) ∈ g_ws := g_wm (tb2 _ (List.mem_of_getElem? (i := 152) rfl)) rfl
theorem kM_X11_125 : Cond.methodLink RX11 125 yX0_setGone ∈ g_ws := g_wm (tb2 _ (List.mem_of_getElem? (i := 153) rfl)) rfl
theorem kI_X0_setGone : Cond.instanceMethod yX0_setGone ∈ g_ws := g_wm (tb2 _ (List.mem_of_getElem? (i := 154) rfl)) rfl
theorem kS_X0_setGone : Cond.selects RX0 yX0_setGone yX0_setGone ∈ g_ws := g_wm (tb2 _ (List.mem_of_getElem? (i := 155) rfl)) rfl
theorem kC_X0_setGone : Cond.code yX0_setGone cX0_setGone 4 (some .boolean) ∈ g_ws := g_wm (tb2 _ (List.mem_of_getElem? (i := 156) rfl)) rfl
theorem kM_L_28 : Cond.methodLink RL 28 yX11_feed ∈ g_ws := g_wm (tb2 _ (List.mem_of_getElem? (i := 157) rfl)) rfl
theorem kI_X11_feed : Cond.instanceMethod yX11_feed ∈ g_ws := g_wm (tb2 _ (List.mem_of_getElem? (i := 158) rfl)) rfl
theorem kS_X11_feed : Cond.selects RX11 yX11_feed yX11_feed ∈ g_ws := g_wm (tb2 _ (List.mem_of_getElem? (i := 159) rfl)) rfl
theorem kC_X11_feed : Cond.code yX11_feed cX11_feed 3 (some .int) ∈ g_ws := g_wm (tb2 _ (List.mem_of_getElem? (i := 160) rfl)) rfl
theorem kM_X11_134 : Cond.methodLink RX11 134 yX8_add ∈ g_ws := g_wm (tb2 _ (List.mem_of_getElem? (i := 161) rfl)) rfl
theorem kI_X8_add : Cond.instanceMethod yX8_add ∈ g_ws := g_wm (tb2 _ (List.mem_of_getElem? (i := 162) rfl)) rfl
theorem kS_X8_add : Cond.selects RX8 yX8_add yX8_add ∈ g_ws := g_wm (tb2 _ (List.mem_of_getElem? (i := 163) rfl)) rfl
theorem kC_X8_add : Cond.code yX8_add cX8_add 4 (some .int) ∈ g_ws := g_wm (tb2 _ (List.mem_of_getElem? (i := 164) rfl)) rfl
theorem kM_L_32 : Cond.methodLink RL 32 yX11_wipe ∈ g_ws := g_wm (tb2 _ (List.mem_of_getElem? (i := 165) rfl)) rfl
theorem kI_X11_wipe : Cond.instanceMethod yX11_wipe ∈ g_ws := g_wm (tb2 _ (List.mem_of_getElem? (i := 166) rfl)) rfl
theorem kS_X11_wipe : Cond.selects RX11 yX11_wipe yX11_wipe ∈ g_ws := g_wm (tb2 _ (List.mem_of_getElem? (i := 167) rfl)) rfl
theorem kC_X11_wipe : Cond.code yX11_wipe cX11_wipe 1 (some .int) ∈ g_ws := g_wm (tb2 _ (List.mem_of_getElem? (i := 168) rfl)) rfl
theorem kM_X11_137 : Cond.methodLink RX11 137 yX8_clear ∈ g_ws := g_wm (tb2 _ (List.mem_of_getElem? (i := 169) rfl)) rfl
theorem kI_X8_clear : Cond.instanceMethod yX8_clear ∈ g_ws := g_wm (tb2 _ (List.mem_of_getElem? (i := 170) rfl)) rfl
theorem kS_X8_clear : Cond.selects RX8 yX8_clear yX8_clear ∈ g_ws := g_wm (tb2 _ (List.mem_of_getElem? (i := 171) rfl)) rfl
theorem kC_X8_clear : Cond.code yX8_clear cX8_clear 2 (some .int) ∈ g_ws := g_wm (tb2 _ (List.mem_of_getElem? (i := 172) rfl)) rfl
theorem kM_L_37 : Cond.methodLink RL 37 yX11_text ∈ g_ws := g_wm (tb2 _ (List.mem_of_getElem? (i := 173) rfl)) rfl
theorem kI_X11_text : Cond.instanceMethod yX11_text ∈ g_ws := g_wm (tb2 _ (List.mem_of_getElem? (i := 174) rfl)) rfl
theorem kS_X11_text : Cond.selects RX11 yX11_text yX11_text ∈ g_ws := g_wm (tb2 _ (List.mem_of_getElem? (i := 175) rfl)) rfl
theorem kC_X11_text : Cond.code yX11_text cX11_text 2 (some .int) ∈ g_ws := g_wm (tb2 _ (List.mem_of_getElem? (i := 176) rfl)) rfl
theorem kM_X11_142 : Cond.methodLink RX11 142 yX9_readTape ∈ g_ws := g_wm (tb2 _ (List.mem_of_getElem? (i := 177) rfl)) rfl
theorem kI_X9_readTape : Cond.instanceMethod yX9_readTape ∈ g_ws := g_wm (tb2 _ (List.mem_of_getElem? (i := 178) rfl)) rfl
theorem kS_X9_readTape : Cond.selects RX9 yX9_readTape yX9_readTape ∈ g_ws := g_wm (tb2 _ (List.mem_of_getElem? (i := 179) rfl)) rfl
theorem kC_X9_readTape : Cond.code yX9_readTape cX9_readTape 2 (some .int) ∈ g_ws := g_wm (tb2 _ (List.mem_of_getElem? (i := 180) rfl)) rfl
theorem kM_X9_31 : Cond.methodLink RX9 31 yX9_findTokens ∈ g_ws := g_wm (tb2 _ (List.mem_of_getElem? (i := 181) rfl)) rfl
theorem kI_X9_findTokens : Cond.instanceMethod yX9_findTokens ∈ g_ws := g_wm (tb2 _ (List.mem_of_getElem? (i := 182) rfl)) rfl
theorem kS_X9_findTokens : Cond.selects RX9 yX9_findTokens yX9_findTokens ∈ g_ws := g_wm (tb2 _ (List.mem_of_getElem? (i := 183) rfl)) rfl
theorem kC_X9_findTokens : Cond.code yX9_findTokens cX9_findTokens 4 none ∈ g_ws := g_wm (tb2 _ (List.mem_of_getElem? (i := 184) rfl)) rfl
theorem kM_X9_78 : Cond.methodLink RX9 78 yX9_endOf ∈ g_ws := g_wm (tb2 _ (List.mem_of_getElem? (i := 185) rfl)) rfl
theorem kI_X9_endOf : Cond.instanceMethod yX9_endOf ∈ g_ws := g_wm (tb2 _ (List.mem_of_getElem? (i := 186) rfl)) rfl
theorem kS_X9_endOf : Cond.selects RX9 yX9_endOf yX9_endOf ∈ g_ws := g_wm (tb2 _ (List.mem_of_getElem? (i := 187) rfl)) rfl
theorem kC_X9_endOf : Cond.code yX9_endOf cX9_endOf 5 (some .int) ∈ g_ws := g_wm (tb2 _ (List.mem_of_getElem? (i := 188) rfl)) rfl
theorem kM_X9_89 : Cond.methodLink RX9 89 yX9_isLetter ∈ g_ws := g_wm (tb2 _ (List.mem_of_getElem? (i := 189) rfl)) rfl
theorem kT_X9_isLetter : Cond.static yX9_isLetter ∈ g_ws := g_wm (tb2 _ (List.mem_of_getElem? (i := 190) rfl)) rfl
theorem kC_X9_isLetter : Cond.code yX9_isLetter cX9_isLetter 1 (some .boolean) ∈ g_ws := g_wm (tb2 _ (List.mem_of_getElem? (i := 191) rfl)) rfl
theorem kM_X9_92 : Cond.methodLink RX9 92 yX9_isDigit ∈ g_ws := g_wm (tb2 _ (List.mem_of_getElem? (i := 192) rfl)) rfl
theorem kT_X9_isDigit : Cond.static yX9_isDigit ∈ g_ws := g_wm (tb2 _ (List.mem_of_getElem? (i := 193) rfl)) rfl
theorem kC_X9_isDigit : Cond.code yX9_isDigit cX9_isDigit 1 (some .boolean) ∈ g_ws := g_wm (tb2 _ (List.mem_of_getElem? (i := 194) rfl)) rfl
theorem kM_X9_82 : Cond.methodLink RX9 82 yX9_tokenOf ∈ g_ws := g_wm (tb2 _ (List.mem_of_getElem? (i := 195) rfl)) rfl
theorem kI_X9_tokenOf : Cond.instanceMethod yX9_tokenOf ∈ g_ws := g_wm (tb2 _ (List.mem_of_getElem? (i := 196) rfl)) rfl
theorem kS_X9_tokenOf : Cond.selects RX9 yX9_tokenOf yX9_tokenOf ∈ g_ws := g_wm (tb2 _ (List.mem_of_getElem? (i := 197) rfl)) rfl
theorem kC_X9_tokenOf : Cond.code yX9_tokenOf cX9_tokenOf 3 (some .int) ∈ g_ws := g_wm (tb2 _ (List.mem_of_getElem? (i := 198) rfl)) rfl
theorem kM_X9_95 : Cond.methodLink RX9 95 yX9_wordToken ∈ g_ws := g_wm (tb2 _ (List.mem_of_getElem? (i := 199) rfl)) rfl
theorem kI_X9_wordToken : Cond.instanceMethod yX9_wordToken ∈ g_ws := g_wm (tb2 _ (List.mem_of_getElem? (i := 200) rfl)) rfl
theorem kS_X9_wordToken : Cond.selects RX9 yX9_wordToken yX9_wordToken ∈ g_ws := g_wm (tb2 _ (List.mem_of_getElem? (i := 201) rfl)) rfl
theorem kC_X9_wordToken : Cond.code yX9_wordToken cX9_wordToken 3 (some .int) ∈ g_ws := g_wm (tb2 _ (List.mem_of_getElem? (i := 202) rfl)) rfl
theorem kM_X9_108 : Cond.methodLink RX9 108 yX9_spells ∈ g_ws := g_wm (tb2 _ (List.mem_of_getElem? (i := 204) rfl)) rfl
theorem kI_X9_spells : Cond.instanceMethod yX9_spells ∈ g_ws := g_wm (tb2 _ (List.mem_of_getElem? (i := 205) rfl)) rfl
theorem kS_X9_spells : Cond.selects RX9 yX9_spells yX9_spells ∈ g_ws := g_wm (tb2 _ (List.mem_of_getElem? (i := 206) rfl)) rfl
theorem kC_X9_spells : Cond.code yX9_spells cX9_spells 5 (some .boolean) ∈ g_ws := g_wm (tb2 _ (List.mem_of_getElem? (i := 207) rfl)) rfl
theorem kM_X9_132 : Cond.methodLink RX9 132 yJ0_length_8abf5 ∈ g_ws := g_wm (tb2 _ (List.mem_of_getElem? (i := 208) rfl)) rfl
theorem kI_J0_length_8abf5 : Cond.instanceMethod yJ0_length_8abf5 ∈ g_ws := g_wm (tb2 _ (List.mem_of_getElem? (i := 209) rfl)) rfl
theorem kS_J0_length_8abf5 : Cond.selects RJ0 yJ0_length_8abf5 yJ0_length_8abf5 ∈ g_ws := g_wm (tb2 _ (List.mem_of_getElem? (i := 210) rfl)) rfl
theorem kC_J0_length_8abf5 : Cond.code yJ0_length_8abf5 cJ0_length_8abf5 1 (some .int) ∈ g_ws := g_wm (tb2 _ (List.mem_of_getElem? (i := 211) rfl)) rfl
theorem kM_J0_335 : Cond.methodLink RJ0 335 yJ0_coder_7d493 ∈ g_ws := g_wm (tb2 _ (List.mem_of_getElem? (i := 212) rfl)) rfl
theorem kI_J0_coder_7d493 : Cond.instanceMethod yJ0_coder_7d493 ∈ g_ws := g_wm (tb2 _ (List.mem_of_getElem? (i := 213) rfl)) rfl
theorem kS_J0_coder_7d493 : Cond.selects RJ0 yJ0_coder_7d493 yJ0_coder_7d493 ∈ g_ws := g_wm (tb2 _ (List.mem_of_getElem? (i := 214) rfl)) rfl
theorem kC_J0_coder_7d493 : Cond.code yJ0_coder_7d493 cJ0_coder_7d493 1 (some .byte) ∈ g_ws := g_wm (tb2 _ (List.mem_of_getElem? (i := 215) rfl)) rfl
theorem kF_J0_38 : Cond.fieldLink RJ0 38 "java/lang/String" "COMPACT_STRINGS" "Z" ∈ g_ws := g_wm (tb2 _ (List.mem_of_getElem? (i := 216) rfl)) rfl
theorem kM_X9_137 : Cond.methodLink RX9 137 yJ0_charAt_5068e ∈ g_ws := g_wm (tb2 _ (List.mem_of_getElem? (i := 218) rfl)) rfl
theorem kI_J0_charAt_5068e : Cond.instanceMethod yJ0_charAt_5068e ∈ g_ws := g_wm (tb2 _ (List.mem_of_getElem? (i := 219) rfl)) rfl
theorem kS_J0_charAt_5068e : Cond.selects RJ0 yJ0_charAt_5068e yJ0_charAt_5068e ∈ g_ws := g_wm (tb2 _ (List.mem_of_getElem? (i := 220) rfl)) rfl
theorem kC_J0_charAt_5068e : Cond.code yJ0_charAt_5068e cJ0_charAt_5068e 2 (some .char) ∈ g_ws := g_wm (tb2 _ (List.mem_of_getElem? (i := 221) rfl)) rfl
theorem kM_J0_492 : Cond.methodLink RJ0 492 yJ0_isLatin1_aae02 ∈ g_ws := g_wm (tb2 _ (List.mem_of_getElem? (i := 222) rfl)) rfl
theorem kI_J0_isLatin1_aae02 : Cond.instanceMethod yJ0_isLatin1_aae02 ∈ g_ws := g_wm (tb2 _ (List.mem_of_getElem? (i := 223) rfl)) rfl
theorem kS_J0_isLatin1_aae02 : Cond.selects RJ0 yJ0_isLatin1_aae02 yJ0_isLatin1_aae02 ∈ g_ws := g_wm (tb2 _ (List.mem_of_getElem? (i := 224) rfl)) rfl
theorem kC_J0_isLatin1_aae02 : Cond.code yJ0_isLatin1_aae02 cJ0_isLatin1_aae02 1 (some .boolean) ∈ g_ws := g_wm (tb2 _ (List.mem_of_getElem? (i := 225) rfl)) rfl
theorem kM_J0_495 : Cond.methodLink RJ0 495 yJ1_charAt_3b067 ∈ g_ws := g_wm (tb2 _ (List.mem_of_getElem? (i := 226) rfl)) rfl
theorem kT_J1_charAt_3b067 : Cond.static yJ1_charAt_3b067 ∈ g_ws := g_wm (tb2 _ (List.mem_of_getElem? (i := 227) rfl)) rfl
theorem kC_J1_charAt_3b067 : Cond.code yJ1_charAt_3b067 cJ1_charAt_3b067 2 (some .char) ∈ g_ws := g_wm (tb2 _ (List.mem_of_getElem? (i := 228) rfl)) rfl
theorem kM_J1_9 : Cond.methodLink RJ1 9 yJ0_checkIndex_df160 ∈ g_ws := g_wm (tb2 _ (List.mem_of_getElem? (i := 229) rfl)) rfl
theorem kT_J0_checkIndex_df160 : Cond.static yJ0_checkIndex_df160 ∈ g_ws := g_wm (tb2 _ (List.mem_of_getElem? (i := 230) rfl)) rfl
theorem kC_J0_checkIndex_df160 : Cond.code yJ0_checkIndex_df160 cJ0_checkIndex_df160 2 none ∈ g_ws := g_wm (tb2 _ (List.mem_of_getElem? (i := 231) rfl)) rfl
theorem kF_J0_1053 : Cond.fieldLink RJ0 1053 "jdk/internal/util/Preconditions" "SIOOBE_FORMATTER" "Ljava/util/function/BiFunction;" ∈ g_ws := g_wm (tb2 _ (List.mem_of_getElem? (i := 232) rfl)) rfl
theorem kM_J0_1059 : Cond.methodLink RJ0 1059 yJ3_checkIndex_8e157 ∈ g_ws := g_wm (tb2 _ (List.mem_of_getElem? (i := 234) rfl)) rfl
theorem kT_J3_checkIndex_8e157 : Cond.static yJ3_checkIndex_8e157 ∈ g_ws := g_wm (tb2 _ (List.mem_of_getElem? (i := 235) rfl)) rfl
theorem kC_J3_checkIndex_8e157 : Cond.code yJ3_checkIndex_8e157 cJ3_checkIndex_8e157 3 (some .int) ∈ g_ws := g_wm (tb2 _ (List.mem_of_getElem? (i := 236) rfl)) rfl
theorem kM_J0_498 : Cond.methodLink RJ0 498 yJ2_charAt_3b067 ∈ g_ws := g_wm (tb2 _ (List.mem_of_getElem? (i := 237) rfl)) rfl
theorem kT_J2_charAt_3b067 : Cond.static yJ2_charAt_3b067 ∈ g_ws := g_wm (tb2 _ (List.mem_of_getElem? (i := 238) rfl)) rfl
theorem kC_J2_charAt_3b067 : Cond.code yJ2_charAt_3b067 cJ2_charAt_3b067 2 (some .char) ∈ g_ws := g_wm (tb2 _ (List.mem_of_getElem? (i := 239) rfl)) rfl
theorem kM_J2_67 : Cond.methodLink RJ2 67 yJ2_checkIndex_2214a ∈ g_ws := g_wm (tb3 _ (List.mem_of_getElem? (i := 0) rfl)) rfl
theorem kT_J2_checkIndex_2214a : Cond.static yJ2_checkIndex_2214a ∈ g_ws := g_wm (tb3 _ (List.mem_of_getElem? (i := 1) rfl)) rfl
theorem kC_J2_checkIndex_2214a : Cond.code yJ2_checkIndex_2214a cJ2_checkIndex_2214a 2 none ∈ g_ws := g_wm (tb3 _ (List.mem_of_getElem? (i := 2) rfl)) rfl
theorem kM_J2_48 : Cond.methodLink RJ2 48 yJ2_length_9d52b ∈ g_ws := g_wm (tb3 _ (List.mem_of_getElem? (i := 3) rfl)) rfl
theorem kT_J2_length_9d52b : Cond.static yJ2_length_9d52b ∈ g_ws := g_wm (tb3 _ (List.mem_of_getElem? (i := 4) rfl)) rfl
theorem kC_J2_length_9d52b : Cond.code yJ2_length_9d52b cJ2_length_9d52b 1 (some .int) ∈ g_ws := g_wm (tb3 _ (List.mem_of_getElem? (i := 5) rfl)) rfl
theorem kM_J2_414 : Cond.methodLink RJ2 414 yJ0_checkIndex_df160 ∈ g_ws := g_wm (tb3 _ (List.mem_of_getElem? (i := 6) rfl)) rfl
theorem kM_J2_71 : Cond.methodLink RJ2 71 yJ2_getChar_3b067 ∈ g_ws := g_wm (tb3 _ (List.mem_of_getElem? (i := 7) rfl)) rfl
theorem kT_J2_getChar_3b067 : Cond.static yJ2_getChar_3b067 ∈ g_ws := g_wm (tb3 _ (List.mem_of_getElem? (i := 8) rfl)) rfl
theorem kC_J2_getChar_3b067 : Cond.code yJ2_getChar_3b067 cJ2_getChar_3b067 2 (some .char) ∈ g_ws := g_wm (tb3 _ (List.mem_of_getElem? (i := 9) rfl)) rfl
theorem kF_J2_44 : Cond.fieldLink RJ2 44 "java/lang/StringUTF16" "$assertionsDisabled" "Z" ∈ g_ws := g_wm (tb3 _ (List.mem_of_getElem? (i := 10) rfl)) rfl
theorem kF_J2_59 : Cond.fieldLink RJ2 59 "java/lang/StringUTF16" "HI_BYTE_SHIFT" "I" ∈ g_ws := g_wm (tb3 _ (List.mem_of_getElem? (i := 12) rfl)) rfl
theorem kF_J2_63 : Cond.fieldLink RJ2 63 "java/lang/StringUTF16" "LO_BYTE_SHIFT" "I" ∈ g_ws := g_wm (tb3 _ (List.mem_of_getElem? (i := 14) rfl)) rfl
theorem kM_X9_86 : Cond.methodLink RX9 86 yX9_numberOf ∈ g_ws := g_wm (tb3 _ (List.mem_of_getElem? (i := 26) rfl)) rfl
theorem kI_X9_numberOf : Cond.instanceMethod yX9_numberOf ∈ g_ws := g_wm (tb3 _ (List.mem_of_getElem? (i := 27) rfl)) rfl
theorem kS_X9_numberOf : Cond.selects RX9 yX9_numberOf yX9_numberOf ∈ g_ws := g_wm (tb3 _ (List.mem_of_getElem? (i := 28) rfl)) rfl
theorem kC_X9_numberOf : Cond.code yX9_numberOf cX9_numberOf 5 (some .int) ∈ g_ws := g_wm (tb3 _ (List.mem_of_getElem? (i := 29) rfl)) rfl
theorem kM_X9_101 : Cond.methodLink RX9 101 yJ9_min_7cf53 ∈ g_ws := g_wm (tb3 _ (List.mem_of_getElem? (i := 30) rfl)) rfl
theorem kT_J9_min_7cf53 : Cond.static yJ9_min_7cf53 ∈ g_ws := g_wm (tb3 _ (List.mem_of_getElem? (i := 31) rfl)) rfl
theorem kC_J9_min_7cf53 : Cond.code yJ9_min_7cf53 cJ9_min_7cf53 2 (some .int) ∈ g_ws := g_wm (tb3 _ (List.mem_of_getElem? (i := 32) rfl)) rfl
theorem kM_X9_98 : Cond.methodLink RX9 98 yX9_signToken ∈ g_ws := g_wm (tb3 _ (List.mem_of_getElem? (i := 33) rfl)) rfl
theorem kT_X9_signToken : Cond.static yX9_signToken ∈ g_ws := g_wm (tb3 _ (List.mem_of_getElem? (i := 34) rfl)) rfl
theorem kC_X9_signToken : Cond.code yX9_signToken cX9_signToken 1 (some .int) ∈ g_ws := g_wm (tb3 _ (List.mem_of_getElem? (i := 35) rfl)) rfl
theorem kM_X9_41 : Cond.methodLink RX9 41 yX9_pass ∈ g_ws := g_wm (tb3 _ (List.mem_of_getElem? (i := 36) rfl)) rfl
theorem kI_X9_pass : Cond.instanceMethod yX9_pass ∈ g_ws := g_wm (tb3 _ (List.mem_of_getElem? (i := 37) rfl)) rfl
theorem kS_X9_pass : Cond.selects RX9 yX9_pass yX9_pass ∈ g_ws := g_wm (tb3 _ (List.mem_of_getElem? (i := 38) rfl)) rfl
theorem kC_X9_pass : Cond.code yX9_pass cX9_pass 3 (some .boolean) ∈ g_ws := g_wm (tb3 _ (List.mem_of_getElem? (i := 39) rfl)) rfl
theorem kM_X9_45 : Cond.methodLink RX9 45 yX9_readEither ∈ g_ws := g_wm (tb3 _ (List.mem_of_getElem? (i := 40) rfl)) rfl
theorem kI_X9_readEither : Cond.instanceMethod yX9_readEither ∈ g_ws := g_wm (tb3 _ (List.mem_of_getElem? (i := 41) rfl)) rfl
theorem kS_X9_readEither : Cond.selects RX9 yX9_readEither yX9_readEither ∈ g_ws := g_wm (tb3 _ (List.mem_of_getElem? (i := 42) rfl)) rfl
theorem kC_X9_readEither : Cond.code yX9_readEither cX9_readEither 4 (some .boolean) ∈ g_ws := g_wm (tb3 _ (List.mem_of_getElem? (i := 43) rfl)) rfl
theorem kM_X9_54 : Cond.methodLink RX9 54 yX9_readBoth ∈ g_ws := g_wm (tb3 _ (List.mem_of_getElem? (i := 44) rfl)) rfl
theorem kI_X9_readBoth : Cond.instanceMethod yX9_readBoth ∈ g_ws := g_wm (tb3 _ (List.mem_of_getElem? (i := 45) rfl)) rfl
theorem kS_X9_readBoth : Cond.selects RX9 yX9_readBoth yX9_readBoth ∈ g_ws := g_wm (tb3 _ (List.mem_of_getElem? (i := 46) rfl)) rfl
theorem kC_X9_readBoth : Cond.code yX9_readBoth cX9_readBoth 4 (some .boolean) ∈ g_ws := g_wm (tb3 _ (List.mem_of_getElem? (i := 47) rfl)) rfl
theorem kM_X9_57 : Cond.methodLink RX9 57 yX9_readNot ∈ g_ws := g_wm (tb3 _ (List.mem_of_getElem? (i := 48) rfl)) rfl
theorem kI_X9_readNot : Cond.instanceMethod yX9_readNot ∈ g_ws := g_wm (tb3 _ (List.mem_of_getElem? (i := 49) rfl)) rfl
theorem kS_X9_readNot : Cond.selects RX9 yX9_readNot yX9_readNot ∈ g_ws := g_wm (tb3 _ (List.mem_of_getElem? (i := 50) rfl)) rfl
theorem kC_X9_readNot : Cond.code yX9_readNot cX9_readNot 3 (some .boolean) ∈ g_ws := g_wm (tb3 _ (List.mem_of_getElem? (i := 51) rfl)) rfl
theorem kM_X9_60 : Cond.methodLink RX9 60 yX9_readOne ∈ g_ws := g_wm (tb3 _ (List.mem_of_getElem? (i := 52) rfl)) rfl
theorem kI_X9_readOne : Cond.instanceMethod yX9_readOne ∈ g_ws := g_wm (tb3 _ (List.mem_of_getElem? (i := 53) rfl)) rfl
theorem kS_X9_readOne : Cond.selects RX9 yX9_readOne yX9_readOne ∈ g_ws := g_wm (tb3 _ (List.mem_of_getElem? (i := 54) rfl)) rfl
theorem kC_X9_readOne : Cond.code yX9_readOne cX9_readOne 3 (some .boolean) ∈ g_ws := g_wm (tb3 _ (List.mem_of_getElem? (i := 55) rfl)) rfl
theorem kM_X9_63 : Cond.methodLink RX9 63 yX9_readPart ∈ g_ws := g_wm (tb3 _ (List.mem_of_getElem? (i := 56) rfl)) rfl
theorem kI_X9_readPart : Cond.instanceMethod yX9_readPart ∈ g_ws := g_wm (tb3 _ (List.mem_of_getElem? (i := 57) rfl)) rfl
theorem kS_X9_readPart : Cond.selects RX9 yX9_readPart yX9_readPart ∈ g_ws := g_wm (tb3 _ (List.mem_of_getElem? (i := 58) rfl)) rfl
theorem kC_X9_readPart : Cond.code yX9_readPart cX9_readPart 3 (some .boolean) ∈ g_ws := g_wm (tb3 _ (List.mem_of_getElem? (i := 59) rfl)) rfl
theorem kM_X9_50 : Cond.methodLink RX9 50 yX9_emit ∈ g_ws := g_wm (tb3 _ (List.mem_of_getElem? (i := 60) rfl)) rfl
theorem kI_X9_emit : Cond.instanceMethod yX9_emit ∈ g_ws := g_wm (tb3 _ (List.mem_of_getElem? (i := 61) rfl)) rfl
theorem kS_X9_emit : Cond.selects RX9 yX9_emit yX9_emit ∈ g_ws := g_wm (tb3 _ (List.mem_of_getElem? (i := 62) rfl)) rfl
theorem kC_X9_emit : Cond.code yX9_emit cX9_emit 4 (some .boolean) ∈ g_ws := g_wm (tb3 _ (List.mem_of_getElem? (i := 63) rfl)) rfl
theorem kM_X9_70 : Cond.methodLink RX9 70 yX10_step ∈ g_ws := g_wm (tb3 _ (List.mem_of_getElem? (i := 64) rfl)) rfl
theorem kT_X10_step : Cond.static yX10_step ∈ g_ws := g_wm (tb3 _ (List.mem_of_getElem? (i := 65) rfl)) rfl
theorem kC_X10_step : Cond.code yX10_step cX10_step 3 (some .int) ∈ g_ws := g_wm (tb3 _ (List.mem_of_getElem? (i := 66) rfl)) rfl
theorem kM_X11_149 : Cond.methodLink RX11 149 yX10_add ∈ g_ws := g_wm (tb3 _ (List.mem_of_getElem? (i := 67) rfl)) rfl
theorem kI_X10_add : Cond.instanceMethod yX10_add ∈ g_ws := g_wm (tb3 _ (List.mem_of_getElem? (i := 68) rfl)) rfl
theorem kS_X10_add : Cond.selects RX10 yX10_add yX10_add ∈ g_ws := g_wm (tb3 _ (List.mem_of_getElem? (i := 69) rfl)) rfl
theorem kC_X10_add : Cond.code yX10_add cX10_add 3 (some .int) ∈ g_ws := g_wm (tb3 _ (List.mem_of_getElem? (i := 70) rfl)) rfl
theorem kM_L_41 : Cond.methodLink RL 41 yX11_use ∈ g_ws := g_wm (tb3 _ (List.mem_of_getElem? (i := 75) rfl)) rfl
theorem kI_X11_use : Cond.instanceMethod yX11_use ∈ g_ws := g_wm (tb3 _ (List.mem_of_getElem? (i := 76) rfl)) rfl
theorem kS_X11_use : Cond.selects RX11 yX11_use yX11_use ∈ g_ws := g_wm (tb3 _ (List.mem_of_getElem? (i := 77) rfl)) rfl
theorem kC_X11_use : Cond.code yX11_use cX11_use 2 (some .int) ∈ g_ws := g_wm (tb3 _ (List.mem_of_getElem? (i := 78) rfl)) rfl
theorem kM_X11_152 : Cond.methodLink RX11 152 yX10_has ∈ g_ws := g_wm (tb3 _ (List.mem_of_getElem? (i := 79) rfl)) rfl
theorem kI_X10_has : Cond.instanceMethod yX10_has ∈ g_ws := g_wm (tb3 _ (List.mem_of_getElem? (i := 80) rfl)) rfl
theorem kS_X10_has : Cond.selects RX10 yX10_has yX10_has ∈ g_ws := g_wm (tb3 _ (List.mem_of_getElem? (i := 81) rfl)) rfl
theorem kC_X10_has : Cond.code yX10_has cX10_has 2 (some .boolean) ∈ g_ws := g_wm (tb3 _ (List.mem_of_getElem? (i := 82) rfl)) rfl
theorem kM_X11_153 : Cond.methodLink RX11 153 yX10_setUsed ∈ g_ws := g_wm (tb3 _ (List.mem_of_getElem? (i := 83) rfl)) rfl
theorem kI_X10_setUsed : Cond.instanceMethod yX10_setUsed ∈ g_ws := g_wm (tb3 _ (List.mem_of_getElem? (i := 84) rfl)) rfl
theorem kS_X10_setUsed : Cond.selects RX10 yX10_setUsed yX10_setUsed ∈ g_ws := g_wm (tb3 _ (List.mem_of_getElem? (i := 85) rfl)) rfl
theorem kC_X10_setUsed : Cond.code yX10_setUsed cX10_setUsed 3 (some .int) ∈ g_ws := g_wm (tb3 _ (List.mem_of_getElem? (i := 86) rfl)) rfl
theorem kM_L_45 : Cond.methodLink RL 45 yX11_may ∈ g_ws := g_wm (tb3 _ (List.mem_of_getElem? (i := 87) rfl)) rfl
theorem kI_X11_may : Cond.instanceMethod yX11_may ∈ g_ws := g_wm (tb3 _ (List.mem_of_getElem? (i := 88) rfl)) rfl
theorem kS_X11_may : Cond.selects RX11 yX11_may yX11_may ∈ g_ws := g_wm (tb3 _ (List.mem_of_getElem? (i := 89) rfl)) rfl
theorem kC_X11_may : Cond.code yX11_may cX11_may 3 (some .int) ∈ g_ws := g_wm (tb3 _ (List.mem_of_getElem? (i := 90) rfl)) rfl
theorem kM_X11_156 : Cond.methodLink RX11 156 yX0_hasSet ∈ g_ws := g_wm (tb3 _ (List.mem_of_getElem? (i := 91) rfl)) rfl
theorem kI_X0_hasSet : Cond.instanceMethod yX0_hasSet ∈ g_ws := g_wm (tb3 _ (List.mem_of_getElem? (i := 92) rfl)) rfl
theorem kS_X0_hasSet : Cond.selects RX0 yX0_hasSet yX0_hasSet ∈ g_ws := g_wm (tb3 _ (List.mem_of_getElem? (i := 93) rfl)) rfl
theorem kC_X0_hasSet : Cond.code yX0_hasSet cX0_hasSet 2 (some .boolean) ∈ g_ws := g_wm (tb3 _ (List.mem_of_getElem? (i := 94) rfl)) rfl
theorem kM_X11_159 : Cond.methodLink RX11 159 yX0_present ∈ g_ws := g_wm (tb3 _ (List.mem_of_getElem? (i := 95) rfl)) rfl
theorem kI_X0_present : Cond.instanceMethod yX0_present ∈ g_ws := g_wm (tb3 _ (List.mem_of_getElem? (i := 96) rfl)) rfl
theorem kS_X0_present : Cond.selects RX0 yX0_present yX0_present ∈ g_ws := g_wm (tb3 _ (List.mem_of_getElem? (i := 97) rfl)) rfl
theorem kC_X0_present : Cond.code yX0_present cX0_present 1 (some .int) ∈ g_ws := g_wm (tb3 _ (List.mem_of_getElem? (i := 98) rfl)) rfl
theorem kM_X11_162 : Cond.methodLink RX11 162 yX10_allow ∈ g_ws := g_wm (tb3 _ (List.mem_of_getElem? (i := 99) rfl)) rfl
theorem kI_X10_allow : Cond.instanceMethod yX10_allow ∈ g_ws := g_wm (tb3 _ (List.mem_of_getElem? (i := 100) rfl)) rfl
theorem kS_X10_allow : Cond.selects RX10 yX10_allow yX10_allow ∈ g_ws := g_wm (tb3 _ (List.mem_of_getElem? (i := 101) rfl)) rfl
theorem kC_X10_allow : Cond.code yX10_allow cX10_allow 11 (some .boolean) ∈ g_ws := g_wm (tb3 _ (List.mem_of_getElem? (i := 102) rfl)) rfl
theorem kM_X10_36 : Cond.methodLink RX10 36 yX0_present ∈ g_ws := g_wm (tb3 _ (List.mem_of_getElem? (i := 103) rfl)) rfl
theorem kM_X10_42 : Cond.methodLink RX10 42 yX0_weightOf ∈ g_ws := g_wm (tb3 _ (List.mem_of_getElem? (i := 104) rfl)) rfl
theorem kI_X0_weightOf : Cond.instanceMethod yX0_weightOf ∈ g_ws := g_wm (tb3 _ (List.mem_of_getElem? (i := 105) rfl)) rfl
theorem kS_X0_weightOf : Cond.selects RX0 yX0_weightOf yX0_weightOf ∈ g_ws := g_wm (tb3 _ (List.mem_of_getElem? (i := 106) rfl)) rfl
theorem kC_X0_weightOf : Cond.code yX0_weightOf cX0_weightOf 4 (some .int) ∈ g_ws := g_wm (tb3 _ (List.mem_of_getElem? (i := 107) rfl)) rfl
theorem kM_X10_46 : Cond.methodLink RX10 46 yX10_partHolds ∈ g_ws := g_wm (tb3 _ (List.mem_of_getElem? (i := 108) rfl)) rfl
theorem kT_X10_partHolds : Cond.static yX10_partHolds ∈ g_ws := g_wm (tb3 _ (List.mem_of_getElem? (i := 109) rfl)) rfl
theorem kC_X10_partHolds : Cond.code yX10_partHolds cX10_partHolds 4 (some .boolean) ∈ g_ws := g_wm (tb3 _ (List.mem_of_getElem? (i := 110) rfl)) rfl
theorem kM_X10_50 : Cond.methodLink RX10 50 yJ6_bitCount_0f7a4 ∈ g_ws := g_wm (tb3 _ (List.mem_of_getElem? (i := 111) rfl)) rfl
theorem kM_L_49 : Cond.methodLink RL 49 yX11_more ∈ g_ws := g_wm (tb3 _ (List.mem_of_getElem? (i := 112) rfl)) rfl
theorem kI_X11_more : Cond.instanceMethod yX11_more ∈ g_ws := g_wm (tb3 _ (List.mem_of_getElem? (i := 113) rfl)) rfl
theorem kS_X11_more : Cond.selects RX11 yX11_more yX11_more ∈ g_ws := g_wm (tb3 _ (List.mem_of_getElem? (i := 114) rfl)) rfl
theorem kC_X11_more : Cond.code yX11_more cX11_more 2 (some .int) ∈ g_ws := g_wm (tb3 _ (List.mem_of_getElem? (i := 115) rfl)) rfl
theorem kK_X11_169 : Cond.constant RX11 169 (-1000000005) ∈ g_ws := g_wm (tb3 _ (List.mem_of_getElem? (i := 116) rfl)) rfl
theorem kM_X11_170 : Cond.methodLink RX11 170 yX11_allowedSets ∈ g_ws := g_wm (tb3 _ (List.mem_of_getElem? (i := 117) rfl)) rfl
theorem kI_X11_allowedSets : Cond.instanceMethod yX11_allowedSets ∈ g_ws := g_wm (tb3 _ (List.mem_of_getElem? (i := 119) rfl)) rfl
theorem kC_X11_allowedSets : Cond.code yX11_allowedSets cX11_allowedSets 4 (Option.some (FieldType.object "ElderChest$Family")) ∈ g_ws := g_wm (tb3 _ (List.mem_of_getElem? (i := 120) rfl)) rfl
theorem kM_X11_174 : Cond.methodLink RX11 174 yX1_firstFall ∈ g_ws := g_wm (tb3 _ (List.mem_of_getElem? (i := 121) rfl)) rfl
theorem kI_X1_firstFall : Cond.instanceMethod yX1_firstFall ∈ g_ws := g_wm (tb3 _ (List.mem_of_getElem? (i := 122) rfl)) rfl
theorem kS_X1_firstFall : Cond.selects RX1 yX1_firstFall yX1_firstFall ∈ g_ws := g_wm (tb3 _ (List.mem_of_getElem? (i := 123) rfl)) rfl
theorem kC_X1_firstFall : Cond.code yX1_firstFall cX1_firstFall 3 (some .int) ∈ g_ws := g_wm (tb3 _ (List.mem_of_getElem? (i := 124) rfl)) rfl
theorem kK_X11_177 : Cond.constant RX11 177 (-1000000004) ∈ g_ws := g_wm (tb3 _ (List.mem_of_getElem? (i := 125) rfl)) rfl
theorem kM_L_53 : Cond.methodLink RL 53 yX11_least ∈ g_ws := g_wm (tb3 _ (List.mem_of_getElem? (i := 126) rfl)) rfl
theorem kI_X11_least : Cond.instanceMethod yX11_least ∈ g_ws := g_wm (tb3 _ (List.mem_of_getElem? (i := 127) rfl)) rfl
theorem kS_X11_least : Cond.selects RX11 yX11_least yX11_least ∈ g_ws := g_wm (tb3 _ (List.mem_of_getElem? (i := 128) rfl)) rfl
theorem kC_X11_least : Cond.code yX11_least cX11_least 2 (some .int) ∈ g_ws := g_wm (tb3 _ (List.mem_of_getElem? (i := 129) rfl)) rfl
theorem kM_X11_178 : Cond.methodLink RX11 178 yX11_listedByText ∈ g_ws := g_wm (tb3 _ (List.mem_of_getElem? (i := 130) rfl)) rfl
theorem kI_X11_listedByText : Cond.instanceMethod yX11_listedByText ∈ g_ws := g_wm (tb3 _ (List.mem_of_getElem? (i := 132) rfl)) rfl
theorem kC_X11_listedByText : Cond.code yX11_listedByText cX11_listedByText 3 (some .int) ∈ g_ws := g_wm (tb3 _ (List.mem_of_getElem? (i := 133) rfl)) rfl
theorem kM_X11_382 : Cond.methodLink RX11 382 yX11_listed ∈ g_ws := g_wm (tb3 _ (List.mem_of_getElem? (i := 134) rfl)) rfl
theorem kI_X11_listed : Cond.instanceMethod yX11_listed ∈ g_ws := g_wm (tb3 _ (List.mem_of_getElem? (i := 136) rfl)) rfl
theorem kC_X11_listed : Cond.code yX11_listed cX11_listed 4 (some .int) ∈ g_ws := g_wm (tb3 _ (List.mem_of_getElem? (i := 137) rfl)) rfl
theorem kM_X11_267 : Cond.methodLink RX11 267 yX6_findMost ∈ g_ws := g_wm (tb3 _ (List.mem_of_getElem? (i := 138) rfl)) rfl
theorem kI_X6_findMost : Cond.instanceMethod yX6_findMost ∈ g_ws := g_wm (tb3 _ (List.mem_of_getElem? (i := 139) rfl)) rfl
theorem kS_X6_findMost : Cond.selects RX6 yX6_findMost yX6_findMost ∈ g_ws := g_wm (tb3 _ (List.mem_of_getElem? (i := 140) rfl)) rfl
theorem kC_X6_findMost : Cond.code yX6_findMost cX6_findMost 5 none ∈ g_ws := g_wm (tb3 _ (List.mem_of_getElem? (i := 141) rfl)) rfl
theorem kM_X6_31 : Cond.methodLink RX6 31 yX6_add ∈ g_ws := g_wm (tb3 _ (List.mem_of_getElem? (i := 142) rfl)) rfl
theorem kI_X6_add : Cond.instanceMethod yX6_add ∈ g_ws := g_wm (tb3 _ (List.mem_of_getElem? (i := 143) rfl)) rfl
theorem kS_X6_add : Cond.selects RX6 yX6_add yX6_add ∈ g_ws := g_wm (tb3 _ (List.mem_of_getElem? (i := 144) rfl)) rfl
theorem kC_X6_add : Cond.code yX6_add cX6_add 2 none ∈ g_ws := g_wm (tb3 _ (List.mem_of_getElem? (i := 145) rfl)) rfl
theorem kM_X6_35 : Cond.methodLink RX6 35 yX6_turn ∈ g_ws := g_wm (tb3 _ (List.mem_of_getElem? (i := 146) rfl)) rfl
theorem kI_X6_turn : Cond.instanceMethod yX6_turn ∈ g_ws := g_wm (tb3 _ (List.mem_of_getElem? (i := 147) rfl)) rfl
theorem kS_X6_turn : Cond.selects RX6 yX6_turn yX6_turn ∈ g_ws := g_wm (tb3 _ (List.mem_of_getElem? (i := 148) rfl)) rfl
theorem kC_X6_turn : Cond.code yX6_turn cX6_turn 3 none ∈ g_ws := g_wm (tb3 _ (List.mem_of_getElem? (i := 149) rfl)) rfl
theorem kM_X11_309 : Cond.methodLink RX11 309 yX6_findLeast ∈ g_ws := g_wm (tb3 _ (List.mem_of_getElem? (i := 150) rfl)) rfl
theorem kI_X6_findLeast : Cond.instanceMethod yX6_findLeast ∈ g_ws := g_wm (tb3 _ (List.mem_of_getElem? (i := 151) rfl)) rfl
theorem kS_X6_findLeast : Cond.selects RX6 yX6_findLeast yX6_findLeast ∈ g_ws := g_wm (tb3 _ (List.mem_of_getElem? (i := 152) rfl)) rfl
theorem kC_X6_findLeast : Cond.code yX6_findLeast cX6_findLeast 5 none ∈ g_ws := g_wm (tb3 _ (List.mem_of_getElem? (i := 153) rfl)) rfl
theorem kM_L_57 : Cond.methodLink RL 57 yX11_most ∈ g_ws := g_wm (tb3 _ (List.mem_of_getElem? (i := 154) rfl)) rfl
theorem kI_X11_most : Cond.instanceMethod yX11_most ∈ g_ws := g_wm (tb3 _ (List.mem_of_getElem? (i := 155) rfl)) rfl
theorem kS_X11_most : Cond.selects RX11 yX11_most yX11_most ∈ g_ws := g_wm (tb3 _ (List.mem_of_getElem? (i := 156) rfl)) rfl
theorem kC_X11_most : Cond.code yX11_most cX11_most 2 (some .int) ∈ g_ws := g_wm (tb3 _ (List.mem_of_getElem? (i := 157) rfl)) rfl
theorem kM_L_61 : Cond.methodLink RL 61 yX11_lock ∈ g_ws := g_wm (tb3 _ (List.mem_of_getElem? (i := 158) rfl)) rfl
theorem kI_X11_lock : Cond.instanceMethod yX11_lock ∈ g_ws := g_wm (tb3 _ (List.mem_of_getElem? (i := 159) rfl)) rfl
theorem kS_X11_lock : Cond.selects RX11 yX11_lock yX11_lock ∈ g_ws := g_wm (tb3 _ (List.mem_of_getElem? (i := 160) rfl)) rfl
theorem kC_X11_lock : Cond.code yX11_lock cX11_lock 3 (some .int) ∈ g_ws := g_wm (tb3 _ (List.mem_of_getElem? (i := 161) rfl)) rfl
theorem kM_X11_182 : Cond.methodLink RX11 182 yX11_isKey ∈ g_ws := g_wm (tb3 _ (List.mem_of_getElem? (i := 162) rfl)) rfl
theorem kT_X11_isKey : Cond.static yX11_isKey ∈ g_ws := g_wm (tb3 _ (List.mem_of_getElem? (i := 163) rfl)) rfl
theorem kC_X11_isKey : Cond.code yX11_isKey cX11_isKey 1 (some .boolean) ∈ g_ws := g_wm (tb3 _ (List.mem_of_getElem? (i := 164) rfl)) rfl
theorem kM_X11_185 : Cond.methodLink RX11 185 yX4_hasRoomFor ∈ g_ws := g_wm (tb3 _ (List.mem_of_getElem? (i := 165) rfl)) rfl
theorem kI_X4_hasRoomFor : Cond.instanceMethod yX4_hasRoomFor ∈ g_ws := g_wm (tb3 _ (List.mem_of_getElem? (i := 166) rfl)) rfl
theorem kS_X4_hasRoomFor : Cond.selects RX4 yX4_hasRoomFor yX4_hasRoomFor ∈ g_ws := g_wm (tb3 _ (List.mem_of_getElem? (i := 167) rfl)) rfl
theorem kC_X4_hasRoomFor : Cond.code yX4_hasRoomFor cX4_hasRoomFor 2 (some .boolean) ∈ g_ws := g_wm (tb3 _ (List.mem_of_getElem? (i := 168) rfl)) rfl
theorem kM_X11_188 : Cond.methodLink RX11 188 yX4_addLock ∈ g_ws := g_wm (tb3 _ (List.mem_of_getElem? (i := 169) rfl)) rfl
theorem kI_X4_addLock : Cond.instanceMethod yX4_addLock ∈ g_ws := g_wm (tb3 _ (List.mem_of_getElem? (i := 170) rfl)) rfl
theorem kS_X4_addLock : Cond.selects RX4 yX4_addLock yX4_addLock ∈ g_ws := g_wm (tb3 _ (List.mem_of_getElem? (i := 171) rfl)) rfl
theorem kC_X4_addLock : Cond.code yX4_addLock cX4_addLock 3 (some .int) ∈ g_ws := g_wm (tb3 _ (List.mem_of_getElem? (i := 172) rfl)) rfl
theorem kM_X4_37 : Cond.methodLink RX4 37 yX4_add ∈ g_ws := g_wm (tb3 _ (List.mem_of_getElem? (i := 173) rfl)) rfl
theorem kI_X4_add : Cond.instanceMethod yX4_add ∈ g_ws := g_wm (tb3 _ (List.mem_of_getElem? (i := 174) rfl)) rfl
theorem kS_X4_add : Cond.selects RX4 yX4_add yX4_add ∈ g_ws := g_wm (tb3 _ (List.mem_of_getElem? (i := 175) rfl)) rfl
theorem kC_X4_add : Cond.code yX4_add cX4_add 7 (some .int) ∈ g_ws := g_wm (tb3 _ (List.mem_of_getElem? (i := 176) rfl)) rfl
theorem kM_X4_41 : Cond.methodLink RX4 41 yX4_openersOf ∈ g_ws := g_wm (tb3 _ (List.mem_of_getElem? (i := 177) rfl)) rfl
theorem kT_X4_openersOf : Cond.static yX4_openersOf ∈ g_ws := g_wm (tb3 _ (List.mem_of_getElem? (i := 178) rfl)) rfl
theorem kC_X4_openersOf : Cond.code yX4_openersOf cX4_openersOf 2 (some .int) ∈ g_ws := g_wm (tb3 _ (List.mem_of_getElem? (i := 179) rfl)) rfl
theorem kM_L_65 : Cond.methodLink RL 65 yX11_chain ∈ g_ws := g_wm (tb3 _ (List.mem_of_getElem? (i := 180) rfl)) rfl
theorem kI_X11_chain : Cond.instanceMethod yX11_chain ∈ g_ws := g_wm (tb3 _ (List.mem_of_getElem? (i := 181) rfl)) rfl
theorem kS_X11_chain : Cond.selects RX11 yX11_chain yX11_chain ∈ g_ws := g_wm (tb3 _ (List.mem_of_getElem? (i := 182) rfl)) rfl
theorem kC_X11_chain : Cond.code yX11_chain cX11_chain 4 (some .int) ∈ g_ws := g_wm (tb3 _ (List.mem_of_getElem? (i := 183) rfl)) rfl
theorem kM_X11_191 : Cond.methodLink RX11 191 yX4_has ∈ g_ws := g_wm (tb3 _ (List.mem_of_getElem? (i := 184) rfl)) rfl
theorem kI_X4_has : Cond.instanceMethod yX4_has ∈ g_ws := g_wm (tb3 _ (List.mem_of_getElem? (i := 185) rfl)) rfl
theorem kS_X4_has : Cond.selects RX4 yX4_has yX4_has ∈ g_ws := g_wm (tb3 _ (List.mem_of_getElem? (i := 186) rfl)) rfl
theorem kC_X4_has : Cond.code yX4_has cX4_has 2 (some .boolean) ∈ g_ws := g_wm (tb3 _ (List.mem_of_getElem? (i := 187) rfl)) rfl
theorem kM_X11_192 : Cond.methodLink RX11 192 yX4_addChain ∈ g_ws := g_wm (tb3 _ (List.mem_of_getElem? (i := 188) rfl)) rfl
theorem kI_X4_addChain : Cond.instanceMethod yX4_addChain ∈ g_ws := g_wm (tb3 _ (List.mem_of_getElem? (i := 189) rfl)) rfl
theorem kS_X4_addChain : Cond.selects RX4 yX4_addChain yX4_addChain ∈ g_ws := g_wm (tb3 _ (List.mem_of_getElem? (i := 190) rfl)) rfl
theorem kC_X4_addChain : Cond.code yX4_addChain cX4_addChain 5 (some .int) ∈ g_ws := g_wm (tb3 _ (List.mem_of_getElem? (i := 191) rfl)) rfl
theorem kM_L_70 : Cond.methodLink RL 70 yX11_box ∈ g_ws := g_wm (tb3 _ (List.mem_of_getElem? (i := 192) rfl)) rfl
theorem kI_X11_box : Cond.instanceMethod yX11_box ∈ g_ws := g_wm (tb3 _ (List.mem_of_getElem? (i := 193) rfl)) rfl
theorem kS_X11_box : Cond.selects RX11 yX11_box yX11_box ∈ g_ws := g_wm (tb3 _ (List.mem_of_getElem? (i := 194) rfl)) rfl
theorem kC_X11_box : Cond.code yX11_box cX11_box 3 (some .int) ∈ g_ws := g_wm (tb3 _ (List.mem_of_getElem? (i := 195) rfl)) rfl
theorem kM_X11_196 : Cond.methodLink RX11 196 yX4_addBox ∈ g_ws := g_wm (tb3 _ (List.mem_of_getElem? (i := 196) rfl)) rfl
theorem kI_X4_addBox : Cond.instanceMethod yX4_addBox ∈ g_ws := g_wm (tb3 _ (List.mem_of_getElem? (i := 197) rfl)) rfl
theorem kS_X4_addBox : Cond.selects RX4 yX4_addBox yX4_addBox ∈ g_ws := g_wm (tb3 _ (List.mem_of_getElem? (i := 198) rfl)) rfl
theorem kC_X4_addBox : Cond.code yX4_addBox cX4_addBox 3 (some .int) ∈ g_ws := g_wm (tb3 _ (List.mem_of_getElem? (i := 199) rfl)) rfl
theorem kM_L_74 : Cond.methodLink RL 74 yX11_hanging ∈ g_ws := g_wm (tb3 _ (List.mem_of_getElem? (i := 200) rfl)) rfl
theorem kI_X11_hanging : Cond.instanceMethod yX11_hanging ∈ g_ws := g_wm (tb3 _ (List.mem_of_getElem? (i := 201) rfl)) rfl
theorem kS_X11_hanging : Cond.selects RX11 yX11_hanging yX11_hanging ∈ g_ws := g_wm (tb3 _ (List.mem_of_getElem? (i := 202) rfl)) rfl
theorem kC_X11_hanging : Cond.code yX11_hanging cX11_hanging 3 (some .int) ∈ g_ws := g_wm (tb3 _ (List.mem_of_getElem? (i := 203) rfl)) rfl
theorem kM_X11_202 : Cond.methodLink RX11 202 yX4_isOf ∈ g_ws := g_wm (tb3 _ (List.mem_of_getElem? (i := 204) rfl)) rfl
theorem kI_X4_isOf : Cond.instanceMethod yX4_isOf ∈ g_ws := g_wm (tb3 _ (List.mem_of_getElem? (i := 205) rfl)) rfl
theorem kS_X4_isOf : Cond.selects RX4 yX4_isOf yX4_isOf ∈ g_ws := g_wm (tb3 _ (List.mem_of_getElem? (i := 206) rfl)) rfl
theorem kC_X4_isOf : Cond.code yX4_isOf cX4_isOf 4 (some .boolean) ∈ g_ws := g_wm (tb3 _ (List.mem_of_getElem? (i := 207) rfl)) rfl
theorem kK_X11_206 : Cond.constant RX11 206 (-1000000003) ∈ g_ws := g_wm (tb3 _ (List.mem_of_getElem? (i := 208) rfl)) rfl
theorem kM_L_78 : Cond.methodLink RL 78 yX11_as ∈ g_ws := g_wm (tb3 _ (List.mem_of_getElem? (i := 209) rfl)) rfl
theorem kI_X11_as : Cond.instanceMethod yX11_as ∈ g_ws := g_wm (tb3 _ (List.mem_of_getElem? (i := 210) rfl)) rfl
theorem kS_X11_as : Cond.selects RX11 yX11_as yX11_as ∈ g_ws := g_wm (tb3 _ (List.mem_of_getElem? (i := 211) rfl)) rfl
theorem kC_X11_as : Cond.code yX11_as cX11_as 3 (some .int) ∈ g_ws := g_wm (tb3 _ (List.mem_of_getElem? (i := 212) rfl)) rfl
theorem kM_L_82 : Cond.methodLink RL 82 yX11_key ∈ g_ws := g_wm (tb3 _ (List.mem_of_getElem? (i := 213) rfl)) rfl
theorem kI_X11_key : Cond.instanceMethod yX11_key ∈ g_ws := g_wm (tb3 _ (List.mem_of_getElem? (i := 214) rfl)) rfl
theorem kS_X11_key : Cond.selects RX11 yX11_key yX11_key ∈ g_ws := g_wm (tb3 _ (List.mem_of_getElem? (i := 215) rfl)) rfl
theorem kC_X11_key : Cond.code yX11_key cX11_key 4 (some .int) ∈ g_ws := g_wm (tb3 _ (List.mem_of_getElem? (i := 216) rfl)) rfl
theorem kM_X11_222 : Cond.methodLink RX11 222 yX0_setKey ∈ g_ws := g_wm (tb3 _ (List.mem_of_getElem? (i := 217) rfl)) rfl
theorem kI_X0_setKey : Cond.instanceMethod yX0_setKey ∈ g_ws := g_wm (tb3 _ (List.mem_of_getElem? (i := 218) rfl)) rfl
theorem kS_X0_setKey : Cond.selects RX0 yX0_setKey yX0_setKey ∈ g_ws := g_wm (tb3 _ (List.mem_of_getElem? (i := 219) rfl)) rfl
theorem kC_X0_setKey : Cond.code yX0_setKey cX0_setKey 5 (some .boolean) ∈ g_ws := g_wm (tb3 _ (List.mem_of_getElem? (i := 220) rfl)) rfl
theorem kM_L_86 : Cond.methodLink RL 86 yX11_lend ∈ g_ws := g_wm (tb3 _ (List.mem_of_getElem? (i := 221) rfl)) rfl
theorem kI_X11_lend : Cond.instanceMethod yX11_lend ∈ g_ws := g_wm (tb3 _ (List.mem_of_getElem? (i := 222) rfl)) rfl
theorem kS_X11_lend : Cond.selects RX11 yX11_lend yX11_lend ∈ g_ws := g_wm (tb3 _ (List.mem_of_getElem? (i := 223) rfl)) rfl
theorem kC_X11_lend : Cond.code yX11_lend cX11_lend 4 (some .int) ∈ g_ws := g_wm (tb3 _ (List.mem_of_getElem? (i := 224) rfl)) rfl
theorem kM_X11_226 : Cond.methodLink RX11 226 yX0_hasKey ∈ g_ws := g_wm (tb3 _ (List.mem_of_getElem? (i := 225) rfl)) rfl
theorem kI_X0_hasKey : Cond.instanceMethod yX0_hasKey ∈ g_ws := g_wm (tb3 _ (List.mem_of_getElem? (i := 226) rfl)) rfl
theorem kS_X0_hasKey : Cond.selects RX0 yX0_hasKey yX0_hasKey ∈ g_ws := g_wm (tb3 _ (List.mem_of_getElem? (i := 227) rfl)) rfl
theorem kC_X0_hasKey : Cond.code yX0_hasKey cX0_hasKey 3 (some .boolean) ∈ g_ws := g_wm (tb3 _ (List.mem_of_getElem? (i := 228) rfl)) rfl
theorem kM_X11_232 : Cond.methodLink RX11 232 yX0_addLend ∈ g_ws := g_wm (tb3 _ (List.mem_of_getElem? (i := 229) rfl)) rfl
theorem kI_X0_addLend : Cond.instanceMethod yX0_addLend ∈ g_ws := g_wm (tb3 _ (List.mem_of_getElem? (i := 230) rfl)) rfl
theorem kS_X0_addLend : Cond.selects RX0 yX0_addLend yX0_addLend ∈ g_ws := g_wm (tb3 _ (List.mem_of_getElem? (i := 231) rfl)) rfl
theorem kC_X0_addLend : Cond.code yX0_addLend cX0_addLend 3 (some .int) ∈ g_ws := g_wm (tb3 _ (List.mem_of_getElem? (i := 232) rfl)) rfl
theorem kM_L_91 : Cond.methodLink RL 91 yX11_opens ∈ g_ws := g_wm (tb3 _ (List.mem_of_getElem? (i := 233) rfl)) rfl
theorem kI_X11_opens : Cond.instanceMethod yX11_opens ∈ g_ws := g_wm (tb3 _ (List.mem_of_getElem? (i := 234) rfl)) rfl
theorem kS_X11_opens : Cond.selects RX11 yX11_opens yX11_opens ∈ g_ws := g_wm (tb3 _ (List.mem_of_getElem? (i := 235) rfl)) rfl
theorem kC_X11_opens : Cond.code yX11_opens cX11_opens 3 (some .int) ∈ g_ws := g_wm (tb3 _ (List.mem_of_getElem? (i := 236) rfl)) rfl
theorem kM_X11_235 : Cond.methodLink RX11 235 yX0_keysOf ∈ g_ws := g_wm (tb3 _ (List.mem_of_getElem? (i := 237) rfl)) rfl
theorem kI_X0_keysOf : Cond.instanceMethod yX0_keysOf ∈ g_ws := g_wm (tb3 _ (List.mem_of_getElem? (i := 238) rfl)) rfl
theorem kS_X0_keysOf : Cond.selects RX0 yX0_keysOf yX0_keysOf ∈ g_ws := g_wm (tb3 _ (List.mem_of_getElem? (i := 239) rfl)) rfl
theorem kC_X0_keysOf : Cond.code yX0_keysOf cX0_keysOf 4 (some .int) ∈ g_ws := g_wm (tb4 _ (List.mem_of_getElem? (i := 0) rfl)) rfl
theorem kM_X11_238 : Cond.methodLink RX11 238 yX4_isOpenInTheEnd ∈ g_ws := g_wm (tb4 _ (List.mem_of_getElem? (i := 1) rfl)) rfl
theorem kI_X4_isOpenInTheEnd : Cond.instanceMethod yX4_isOpenInTheEnd ∈ g_ws := g_wm (tb4 _ (List.mem_of_getElem? (i := 2) rfl)) rfl
theorem kS_X4_isOpenInTheEnd : Cond.selects RX4 yX4_isOpenInTheEnd yX4_isOpenInTheEnd ∈ g_ws := g_wm (tb4 _ (List.mem_of_getElem? (i := 3) rfl)) rfl
theorem kC_X4_isOpenInTheEnd : Cond.code yX4_isOpenInTheEnd cX4_isOpenInTheEnd 3 (some .boolean) ∈ g_ws := g_wm (tb4 _ (List.mem_of_getElem? (i := 4) rfl)) rfl
theorem kM_X4_60 : Cond.methodLink RX4 60 yX4_openInTheEnd ∈ g_ws := g_wm (tb4 _ (List.mem_of_getElem? (i := 5) rfl)) rfl
theorem kI_X4_openInTheEnd : Cond.instanceMethod yX4_openInTheEnd ∈ g_ws := g_wm (tb4 _ (List.mem_of_getElem? (i := 6) rfl)) rfl
theorem kS_X4_openInTheEnd : Cond.selects RX4 yX4_openInTheEnd yX4_openInTheEnd ∈ g_ws := g_wm (tb4 _ (List.mem_of_getElem? (i := 7) rfl)) rfl
theorem kC_X4_openInTheEnd : Cond.code yX4_openInTheEnd cX4_openInTheEnd 7 (some .long) ∈ g_ws := g_wm (tb4 _ (List.mem_of_getElem? (i := 8) rfl)) rfl
theorem kM_X4_52 : Cond.methodLink RX4 52 yX4_openWith ∈ g_ws := g_wm (tb4 _ (List.mem_of_getElem? (i := 9) rfl)) rfl
theorem kI_X4_openWith : Cond.instanceMethod yX4_openWith ∈ g_ws := g_wm (tb4 _ (List.mem_of_getElem? (i := 10) rfl)) rfl
theorem kS_X4_openWith : Cond.selects RX4 yX4_openWith yX4_openWith ∈ g_ws := g_wm (tb4 _ (List.mem_of_getElem? (i := 11) rfl)) rfl
theorem kC_X4_openWith : Cond.code yX4_openWith cX4_openWith 5 (some .long) ∈ g_ws := g_wm (tb4 _ (List.mem_of_getElem? (i := 12) rfl)) rfl
theorem kM_X4_48 : Cond.methodLink RX4 48 yX4_opensWith ∈ g_ws := g_wm (tb4 _ (List.mem_of_getElem? (i := 13) rfl)) rfl
theorem kI_X4_opensWith : Cond.instanceMethod yX4_opensWith ∈ g_ws := g_wm (tb4 _ (List.mem_of_getElem? (i := 14) rfl)) rfl
theorem kS_X4_opensWith : Cond.selects RX4 yX4_opensWith yX4_opensWith ∈ g_ws := g_wm (tb4 _ (List.mem_of_getElem? (i := 15) rfl)) rfl
theorem kC_X4_opensWith : Cond.code yX4_opensWith cX4_opensWith 9 (some .boolean) ∈ g_ws := g_wm (tb4 _ (List.mem_of_getElem? (i := 16) rfl)) rfl
theorem kM_X4_56 : Cond.methodLink RX4 56 yX4_keysInBoxes ∈ g_ws := g_wm (tb4 _ (List.mem_of_getElem? (i := 17) rfl)) rfl
theorem kI_X4_keysInBoxes : Cond.instanceMethod yX4_keysInBoxes ∈ g_ws := g_wm (tb4 _ (List.mem_of_getElem? (i := 18) rfl)) rfl
theorem kS_X4_keysInBoxes : Cond.selects RX4 yX4_keysInBoxes yX4_keysInBoxes ∈ g_ws := g_wm (tb4 _ (List.mem_of_getElem? (i := 19) rfl)) rfl
theorem kC_X4_keysInBoxes : Cond.code yX4_keysInBoxes cX4_keysInBoxes 5 (some .int) ∈ g_ws := g_wm (tb4 _ (List.mem_of_getElem? (i := 20) rfl)) rfl
theorem kM_L_95 : Cond.methodLink RL 95 yX11_had ∈ g_ws := g_wm (tb4 _ (List.mem_of_getElem? (i := 21) rfl)) rfl
theorem kI_X11_had : Cond.instanceMethod yX11_had ∈ g_ws := g_wm (tb4 _ (List.mem_of_getElem? (i := 22) rfl)) rfl
theorem kS_X11_had : Cond.selects RX11 yX11_had yX11_had ∈ g_ws := g_wm (tb4 _ (List.mem_of_getElem? (i := 23) rfl)) rfl
theorem kC_X11_had : Cond.code yX11_had cX11_had 2 (some .int) ∈ g_ws := g_wm (tb4 _ (List.mem_of_getElem? (i := 24) rfl)) rfl
theorem kM_X11_241 : Cond.methodLink RX11 241 yX4_keysInTheEnd ∈ g_ws := g_wm (tb4 _ (List.mem_of_getElem? (i := 25) rfl)) rfl
theorem kI_X4_keysInTheEnd : Cond.instanceMethod yX4_keysInTheEnd ∈ g_ws := g_wm (tb4 _ (List.mem_of_getElem? (i := 26) rfl)) rfl
theorem kS_X4_keysInTheEnd : Cond.selects RX4 yX4_keysInTheEnd yX4_keysInTheEnd ∈ g_ws := g_wm (tb4 _ (List.mem_of_getElem? (i := 27) rfl)) rfl
theorem kC_X4_keysInTheEnd : Cond.code yX4_keysInTheEnd cX4_keysInTheEnd 2 (some .int) ∈ g_ws := g_wm (tb4 _ (List.mem_of_getElem? (i := 28) rfl)) rfl
theorem kM_L_99 : Cond.methodLink RL 99 yX11_round ∈ g_ws := g_wm (tb4 _ (List.mem_of_getElem? (i := 29) rfl)) rfl
theorem kI_X11_round : Cond.instanceMethod yX11_round ∈ g_ws := g_wm (tb4 _ (List.mem_of_getElem? (i := 30) rfl)) rfl
theorem kS_X11_round : Cond.selects RX11 yX11_round yX11_round ∈ g_ws := g_wm (tb4 _ (List.mem_of_getElem? (i := 31) rfl)) rfl
theorem kC_X11_round : Cond.code yX11_round cX11_round 3 (some .int) ∈ g_ws := g_wm (tb4 _ (List.mem_of_getElem? (i := 32) rfl)) rfl
theorem kM_X11_244 : Cond.methodLink RX11 244 yX4_roundOf ∈ g_ws := g_wm (tb4 _ (List.mem_of_getElem? (i := 33) rfl)) rfl
theorem kI_X4_roundOf : Cond.instanceMethod yX4_roundOf ∈ g_ws := g_wm (tb4 _ (List.mem_of_getElem? (i := 34) rfl)) rfl
theorem kS_X4_roundOf : Cond.selects RX4 yX4_roundOf yX4_roundOf ∈ g_ws := g_wm (tb4 _ (List.mem_of_getElem? (i := 35) rfl)) rfl
theorem kC_X4_roundOf : Cond.code yX4_roundOf cX4_roundOf 8 (some .int) ∈ g_ws := g_wm (tb4 _ (List.mem_of_getElem? (i := 36) rfl)) rfl
theorem kM_L_103 : Cond.methodLink RL 103 yX11_lets ∈ g_ws := g_wm (tb4 _ (List.mem_of_getElem? (i := 37) rfl)) rfl
theorem kI_X11_lets : Cond.instanceMethod yX11_lets ∈ g_ws := g_wm (tb4 _ (List.mem_of_getElem? (i := 38) rfl)) rfl
theorem kS_X11_lets : Cond.selects RX11 yX11_lets yX11_lets ∈ g_ws := g_wm (tb4 _ (List.mem_of_getElem? (i := 39) rfl)) rfl
theorem kC_X11_lets : Cond.code yX11_lets cX11_lets 3 (some .int) ∈ g_ws := g_wm (tb4 _ (List.mem_of_getElem? (i := 40) rfl)) rfl
theorem kM_X11_247 : Cond.methodLink RX11 247 yX11_listedByHanging ∈ g_ws := g_wm (tb4 _ (List.mem_of_getElem? (i := 41) rfl)) rfl
theorem kI_X11_listedByHanging : Cond.instanceMethod yX11_listedByHanging ∈ g_ws := g_wm (tb4 _ (List.mem_of_getElem? (i := 43) rfl)) rfl
theorem kC_X11_listedByHanging : Cond.code yX11_listedByHanging cX11_listedByHanging 4 (some .int) ∈ g_ws := g_wm (tb4 _ (List.mem_of_getElem? (i := 44) rfl)) rfl
theorem kM_X11_305 : Cond.methodLink RX11 305 yX11_openingSets ∈ g_ws := g_wm (tb4 _ (List.mem_of_getElem? (i := 45) rfl)) rfl
theorem kI_X11_openingSets : Cond.instanceMethod yX11_openingSets ∈ g_ws := g_wm (tb4 _ (List.mem_of_getElem? (i := 47) rfl)) rfl
theorem kC_X11_openingSets : Cond.code yX11_openingSets cX11_openingSets 4 (Option.some (FieldType.object "ElderChest$Family")) ∈ g_ws := g_wm (tb4 _ (List.mem_of_getElem? (i := 48) rfl)) rfl
theorem kM_X11_253 : Cond.methodLink RX11 253 yX5_refresh ∈ g_ws := g_wm (tb4 _ (List.mem_of_getElem? (i := 49) rfl)) rfl
theorem kI_X5_refresh : Cond.instanceMethod yX5_refresh ∈ g_ws := g_wm (tb4 _ (List.mem_of_getElem? (i := 50) rfl)) rfl
theorem kS_X5_refresh : Cond.selects RX5 yX5_refresh yX5_refresh ∈ g_ws := g_wm (tb4 _ (List.mem_of_getElem? (i := 51) rfl)) rfl
theorem kC_X5_refresh : Cond.code yX5_refresh cX5_refresh 6 none ∈ g_ws := g_wm (tb4 _ (List.mem_of_getElem? (i := 52) rfl)) rfl
theorem kM_X5_31 : Cond.methodLink RX5 31 yX0_present ∈ g_ws := g_wm (tb4 _ (List.mem_of_getElem? (i := 53) rfl)) rfl
theorem kM_X5_38 : Cond.methodLink RX5 38 yJ6_numberOfTrailingZeros_0f7a4 ∈ g_ws := g_wm (tb4 _ (List.mem_of_getElem? (i := 54) rfl)) rfl
theorem kT_J6_numberOfTrailingZeros_0f7a4 : Cond.static yJ6_numberOfTrailingZeros_0f7a4 ∈ g_ws := g_wm (tb4 _ (List.mem_of_getElem? (i := 55) rfl)) rfl
theorem kC_J6_numberOfTrailingZeros_0f7a4 : Cond.code yJ6_numberOfTrailingZeros_0f7a4 cJ6_numberOfTrailingZeros_0f7a4 2 (some .int) ∈ g_ws := g_wm (tb4 _ (List.mem_of_getElem? (i := 56) rfl)) rfl
theorem kK_J6_264 : Cond.constant RJ6 264 (65536) ∈ g_ws := g_wm (tb4 _ (List.mem_of_getElem? (i := 57) rfl)) rfl
theorem kM_X5_44 : Cond.methodLink RX5 44 yX5_fill ∈ g_ws := g_wm (tb4 _ (List.mem_of_getElem? (i := 58) rfl)) rfl
theorem kI_X5_fill : Cond.instanceMethod yX5_fill ∈ g_ws := g_wm (tb4 _ (List.mem_of_getElem? (i := 59) rfl)) rfl
theorem kS_X5_fill : Cond.selects RX5 yX5_fill yX5_fill ∈ g_ws := g_wm (tb4 _ (List.mem_of_getElem? (i := 60) rfl)) rfl
theorem kC_X5_fill : Cond.code yX5_fill cX5_fill 6 none ∈ g_ws := g_wm (tb4 _ (List.mem_of_getElem? (i := 61) rfl)) rfl
theorem kM_X5_48 : Cond.methodLink RX5 48 yX4_openInTheEnd ∈ g_ws := g_wm (tb4 _ (List.mem_of_getElem? (i := 62) rfl)) rfl
theorem kM_X5_52 : Cond.methodLink RX5 52 yX4_keysInBoxes ∈ g_ws := g_wm (tb4 _ (List.mem_of_getElem? (i := 63) rfl)) rfl
theorem kM_X11_257 : Cond.methodLink RX11 257 yX5_isOpen ∈ g_ws := g_wm (tb4 _ (List.mem_of_getElem? (i := 64) rfl)) rfl
theorem kI_X5_isOpen : Cond.instanceMethod yX5_isOpen ∈ g_ws := g_wm (tb4 _ (List.mem_of_getElem? (i := 65) rfl)) rfl
theorem kS_X5_isOpen : Cond.selects RX5 yX5_isOpen yX5_isOpen ∈ g_ws := g_wm (tb4 _ (List.mem_of_getElem? (i := 66) rfl)) rfl
theorem kC_X5_isOpen : Cond.code yX5_isOpen cX5_isOpen 3 (some .boolean) ∈ g_ws := g_wm (tb4 _ (List.mem_of_getElem? (i := 67) rfl)) rfl
theorem kM_L_107 : Cond.methodLink RL 107 yX11_shut ∈ g_ws := g_wm (tb4 _ (List.mem_of_getElem? (i := 68) rfl)) rfl
theorem kI_X11_shut : Cond.instanceMethod yX11_shut ∈ g_ws := g_wm (tb4 _ (List.mem_of_getElem? (i := 69) rfl)) rfl
theorem kS_X11_shut : Cond.selects RX11 yX11_shut yX11_shut ∈ g_ws := g_wm (tb4 _ (List.mem_of_getElem? (i := 70) rfl)) rfl
theorem kC_X11_shut : Cond.code yX11_shut cX11_shut 3 (some .int) ∈ g_ws := g_wm (tb4 _ (List.mem_of_getElem? (i := 71) rfl)) rfl
theorem kM_L_111 : Cond.methodLink RL 111 yX11_wrongly ∈ g_ws := g_wm (tb4 _ (List.mem_of_getElem? (i := 72) rfl)) rfl
theorem kI_X11_wrongly : Cond.instanceMethod yX11_wrongly ∈ g_ws := g_wm (tb4 _ (List.mem_of_getElem? (i := 73) rfl)) rfl
theorem kS_X11_wrongly : Cond.selects RX11 yX11_wrongly yX11_wrongly ∈ g_ws := g_wm (tb4 _ (List.mem_of_getElem? (i := 74) rfl)) rfl
theorem kC_X11_wrongly : Cond.code yX11_wrongly cX11_wrongly 2 (some .int) ∈ g_ws := g_wm (tb4 _ (List.mem_of_getElem? (i := 75) rfl)) rfl
theorem kM_X11_250 : Cond.methodLink RX11 250 yX11_firstApart ∈ g_ws := g_wm (tb4 _ (List.mem_of_getElem? (i := 76) rfl)) rfl
theorem kI_X11_firstApart : Cond.instanceMethod yX11_firstApart ∈ g_ws := g_wm (tb4 _ (List.mem_of_getElem? (i := 78) rfl)) rfl
theorem kC_X11_firstApart : Cond.code yX11_firstApart cX11_firstApart 7 (some .int) ∈ g_ws := g_wm (tb4 _ (List.mem_of_getElem? (i := 79) rfl)) rfl
theorem kM_L_115 : Cond.methodLink RL 115 yX11_lacks ∈ g_ws := g_wm (tb4 _ (List.mem_of_getElem? (i := 80) rfl)) rfl
theorem kI_X11_lacks : Cond.instanceMethod yX11_lacks ∈ g_ws := g_wm (tb4 _ (List.mem_of_getElem? (i := 81) rfl)) rfl
theorem kS_X11_lacks : Cond.selects RX11 yX11_lacks yX11_lacks ∈ g_ws := g_wm (tb4 _ (List.mem_of_getElem? (i := 82) rfl)) rfl
theorem kC_X11_lacks : Cond.code yX11_lacks cX11_lacks 2 (some .int) ∈ g_ws := g_wm (tb4 _ (List.mem_of_getElem? (i := 83) rfl)) rfl
theorem kM_L_119 : Cond.methodLink RL 119 yX11_same ∈ g_ws := g_wm (tb4 _ (List.mem_of_getElem? (i := 84) rfl)) rfl
theorem kI_X11_same : Cond.instanceMethod yX11_same ∈ g_ws := g_wm (tb4 _ (List.mem_of_getElem? (i := 85) rfl)) rfl
theorem kS_X11_same : Cond.selects RX11 yX11_same yX11_same ∈ g_ws := g_wm (tb4 _ (List.mem_of_getElem? (i := 86) rfl)) rfl
theorem kC_X11_same : Cond.code yX11_same cX11_same 5 (some .int) ∈ g_ws := g_wm (tb4 _ (List.mem_of_getElem? (i := 87) rfl)) rfl
theorem kM_L_123 : Cond.methodLink RL 123 yX11_bears ∈ g_ws := g_wm (tb4 _ (List.mem_of_getElem? (i := 88) rfl)) rfl
theorem kI_X11_bears : Cond.instanceMethod yX11_bears ∈ g_ws := g_wm (tb4 _ (List.mem_of_getElem? (i := 89) rfl)) rfl
theorem kS_X11_bears : Cond.selects RX11 yX11_bears yX11_bears ∈ g_ws := g_wm (tb4 _ (List.mem_of_getElem? (i := 90) rfl)) rfl
theorem kC_X11_bears : Cond.code yX11_bears cX11_bears 7 (some .int) ∈ g_ws := g_wm (tb4 _ (List.mem_of_getElem? (i := 91) rfl)) rfl
theorem kM_L_127 : Cond.methodLink RL 127 yX11_need ∈ g_ws := g_wm (tb4 _ (List.mem_of_getElem? (i := 92) rfl)) rfl
theorem kI_X11_need : Cond.instanceMethod yX11_need ∈ g_ws := g_wm (tb4 _ (List.mem_of_getElem? (i := 93) rfl)) rfl
theorem kS_X11_need : Cond.selects RX11 yX11_need yX11_need ∈ g_ws := g_wm (tb4 _ (List.mem_of_getElem? (i := 94) rfl)) rfl
theorem kC_X11_need : Cond.code yX11_need cX11_need 6 (some .int) ∈ g_ws := g_wm (tb4 _ (List.mem_of_getElem? (i := 95) rfl)) rfl
theorem kM_X11_260 : Cond.methodLink RX11 260 yX11_leastBesides ∈ g_ws := g_wm (tb4 _ (List.mem_of_getElem? (i := 96) rfl)) rfl
theorem kI_X11_leastBesides : Cond.instanceMethod yX11_leastBesides ∈ g_ws := g_wm (tb4 _ (List.mem_of_getElem? (i := 98) rfl)) rfl
theorem kC_X11_leastBesides : Cond.code yX11_leastBesides cX11_leastBesides 8 (some .int) ∈ g_ws := g_wm (tb4 _ (List.mem_of_getElem? (i := 99) rfl)) rfl
theorem kM_X11_389 : Cond.methodLink RX11 389 yX4_keysOfLocks ∈ g_ws := g_wm (tb4 _ (List.mem_of_getElem? (i := 100) rfl)) rfl
theorem kI_X4_keysOfLocks : Cond.instanceMethod yX4_keysOfLocks ∈ g_ws := g_wm (tb4 _ (List.mem_of_getElem? (i := 101) rfl)) rfl
theorem kS_X4_keysOfLocks : Cond.selects RX4 yX4_keysOfLocks yX4_keysOfLocks ∈ g_ws := g_wm (tb4 _ (List.mem_of_getElem? (i := 102) rfl)) rfl
theorem kC_X4_keysOfLocks : Cond.code yX4_keysOfLocks cX4_keysOfLocks 3 (some .int) ∈ g_ws := g_wm (tb4 _ (List.mem_of_getElem? (i := 103) rfl)) rfl
theorem kM_L_131 : Cond.methodLink RL 131 yX11_could ∈ g_ws := g_wm (tb4 _ (List.mem_of_getElem? (i := 104) rfl)) rfl
theorem kI_X11_could : Cond.instanceMethod yX11_could ∈ g_ws := g_wm (tb4 _ (List.mem_of_getElem? (i := 105) rfl)) rfl
theorem kS_X11_could : Cond.selects RX11 yX11_could yX11_could ∈ g_ws := g_wm (tb4 _ (List.mem_of_getElem? (i := 106) rfl)) rfl
theorem kC_X11_could : Cond.code yX11_could cX11_could 6 (some .int) ∈ g_ws := g_wm (tb4 _ (List.mem_of_getElem? (i := 107) rfl)) rfl
theorem kM_L_135 : Cond.methodLink RL 135 yX11_build ∈ g_ws := g_wm (tb4 _ (List.mem_of_getElem? (i := 108) rfl)) rfl
theorem kI_X11_build : Cond.instanceMethod yX11_build ∈ g_ws := g_wm (tb4 _ (List.mem_of_getElem? (i := 109) rfl)) rfl
theorem kS_X11_build : Cond.selects RX11 yX11_build yX11_build ∈ g_ws := g_wm (tb4 _ (List.mem_of_getElem? (i := 110) rfl)) rfl
theorem kC_X11_build : Cond.code yX11_build cX11_build 2 (some .int) ∈ g_ws := g_wm (tb4 _ (List.mem_of_getElem? (i := 111) rfl)) rfl
theorem kM_X11_274 : Cond.methodLink RX11 274 yX11_hangSideBySide ∈ g_ws := g_wm (tb4 _ (List.mem_of_getElem? (i := 112) rfl)) rfl
theorem kI_X11_hangSideBySide : Cond.instanceMethod yX11_hangSideBySide ∈ g_ws := g_wm (tb4 _ (List.mem_of_getElem? (i := 114) rfl)) rfl
theorem kC_X11_hangSideBySide : Cond.code yX11_hangSideBySide cX11_hangSideBySide 5 (some .int) ∈ g_ws := g_wm (tb4 _ (List.mem_of_getElem? (i := 115) rfl)) rfl
theorem kM_X11_392 : Cond.methodLink RX11 392 yX0_emptyRings ∈ g_ws := g_wm (tb4 _ (List.mem_of_getElem? (i := 116) rfl)) rfl
theorem kI_X0_emptyRings : Cond.instanceMethod yX0_emptyRings ∈ g_ws := g_wm (tb4 _ (List.mem_of_getElem? (i := 117) rfl)) rfl
theorem kS_X0_emptyRings : Cond.selects RX0 yX0_emptyRings yX0_emptyRings ∈ g_ws := g_wm (tb4 _ (List.mem_of_getElem? (i := 118) rfl)) rfl
theorem kC_X0_emptyRings : Cond.code yX0_emptyRings cX0_emptyRings 1 none ∈ g_ws := g_wm (tb4 _ (List.mem_of_getElem? (i := 119) rfl)) rfl
theorem kM_X0_38 : Cond.methodLink RX0 38 yJ7_fill_53178 ∈ g_ws := g_wm (tb4 _ (List.mem_of_getElem? (i := 120) rfl)) rfl
theorem kT_J7_fill_53178 : Cond.static yJ7_fill_53178 ∈ g_ws := g_wm (tb4 _ (List.mem_of_getElem? (i := 121) rfl)) rfl
theorem kC_J7_fill_53178 : Cond.code yJ7_fill_53178 cJ7_fill_53178 4 none ∈ g_ws := g_wm (tb4 _ (List.mem_of_getElem? (i := 122) rfl)) rfl
theorem kM_X11_395 : Cond.methodLink RX11 395 yX0_giveKey ∈ g_ws := g_wm (tb4 _ (List.mem_of_getElem? (i := 123) rfl)) rfl
theorem kI_X0_giveKey : Cond.instanceMethod yX0_giveKey ∈ g_ws := g_wm (tb4 _ (List.mem_of_getElem? (i := 124) rfl)) rfl
theorem kS_X0_giveKey : Cond.selects RX0 yX0_giveKey yX0_giveKey ∈ g_ws := g_wm (tb4 _ (List.mem_of_getElem? (i := 125) rfl)) rfl
theorem kC_X0_giveKey : Cond.code yX0_giveKey cX0_giveKey 4 none ∈ g_ws := g_wm (tb4 _ (List.mem_of_getElem? (i := 126) rfl)) rfl
theorem kM_X0_34 : Cond.methodLink RX0 34 yX0_setKey ∈ g_ws := g_wm (tb4 _ (List.mem_of_getElem? (i := 127) rfl)) rfl
theorem kM_L_139 : Cond.methodLink RL 139 yX11_fewest ∈ g_ws := g_wm (tb4 _ (List.mem_of_getElem? (i := 128) rfl)) rfl
theorem kI_X11_fewest : Cond.instanceMethod yX11_fewest ∈ g_ws := g_wm (tb4 _ (List.mem_of_getElem? (i := 129) rfl)) rfl
theorem kS_X11_fewest : Cond.selects RX11 yX11_fewest yX11_fewest ∈ g_ws := g_wm (tb4 _ (List.mem_of_getElem? (i := 130) rfl)) rfl
theorem kC_X11_fewest : Cond.code yX11_fewest cX11_fewest 4 (some .int) ∈ g_ws := g_wm (tb4 _ (List.mem_of_getElem? (i := 131) rfl)) rfl
theorem kK_X11_277 : Cond.constant RX11 277 (-1000000007) ∈ g_ws := g_wm (tb4 _ (List.mem_of_getElem? (i := 132) rfl)) rfl
theorem kM_X11_278 : Cond.methodLink RX11 278 yX1_truth ∈ g_ws := g_wm (tb4 _ (List.mem_of_getElem? (i := 133) rfl)) rfl
theorem kI_X1_truth : Cond.instanceMethod yX1_truth ∈ g_ws := g_wm (tb4 _ (List.mem_of_getElem? (i := 134) rfl)) rfl
theorem kS_X1_truth : Cond.selects RX1 yX1_truth yX1_truth ∈ g_ws := g_wm (tb4 _ (List.mem_of_getElem? (i := 135) rfl)) rfl
theorem kC_X1_truth : Cond.code yX1_truth cX1_truth 6 (some .int) ∈ g_ws := g_wm (tb4 _ (List.mem_of_getElem? (i := 136) rfl)) rfl
theorem kM_X11_281 : Cond.methodLink RX11 281 yX3_locksFor ∈ g_ws := g_wm (tb4 _ (List.mem_of_getElem? (i := 137) rfl)) rfl
theorem kI_X3_locksFor : Cond.instanceMethod yX3_locksFor ∈ g_ws := g_wm (tb4 _ (List.mem_of_getElem? (i := 138) rfl)) rfl
theorem kS_X3_locksFor : Cond.selects RX3 yX3_locksFor yX3_locksFor ∈ g_ws := g_wm (tb4 _ (List.mem_of_getElem? (i := 139) rfl)) rfl
theorem kC_X3_locksFor : Cond.code yX3_locksFor cX3_locksFor 4 (some .int) ∈ g_ws := g_wm (tb4 _ (List.mem_of_getElem? (i := 140) rfl)) rfl
theorem kM_X3_24 : Cond.methodLink RX3 24 yX3_hangAll ∈ g_ws := g_wm (tb4 _ (List.mem_of_getElem? (i := 141) rfl)) rfl
theorem kI_X3_hangAll : Cond.instanceMethod yX3_hangAll ∈ g_ws := g_wm (tb4 _ (List.mem_of_getElem? (i := 142) rfl)) rfl
theorem kS_X3_hangAll : Cond.selects RX3 yX3_hangAll yX3_hangAll ∈ g_ws := g_wm (tb4 _ (List.mem_of_getElem? (i := 143) rfl)) rfl
theorem kC_X3_hangAll : Cond.code yX3_hangAll cX3_hangAll 3 none ∈ g_ws := g_wm (tb4 _ (List.mem_of_getElem? (i := 144) rfl)) rfl
theorem kK_X3_28 : Cond.constant RX3 28 (43690) ∈ g_ws := g_wm (tb4 _ (List.mem_of_getElem? (i := 145) rfl)) rfl
theorem kM_X3_29 : Cond.methodLink RX3 29 yX3_addTruth ∈ g_ws := g_wm (tb4 _ (List.mem_of_getElem? (i := 146) rfl)) rfl
theorem kI_X3_addTruth : Cond.instanceMethod yX3_addTruth ∈ g_ws := g_wm (tb4 _ (List.mem_of_getElem? (i := 147) rfl)) rfl
theorem kS_X3_addTruth : Cond.selects RX3 yX3_addTruth yX3_addTruth ∈ g_ws := g_wm (tb4 _ (List.mem_of_getElem? (i := 148) rfl)) rfl
theorem kC_X3_addTruth : Cond.code yX3_addTruth cX3_addTruth 4 none ∈ g_ws := g_wm (tb4 _ (List.mem_of_getElem? (i := 149) rfl)) rfl
theorem kK_X3_32 : Cond.constant RX3 32 (52428) ∈ g_ws := g_wm (tb4 _ (List.mem_of_getElem? (i := 150) rfl)) rfl
theorem kK_X3_33 : Cond.constant RX3 33 (61680) ∈ g_ws := g_wm (tb4 _ (List.mem_of_getElem? (i := 151) rfl)) rfl
theorem kK_X3_34 : Cond.constant RX3 34 (65280) ∈ g_ws := g_wm (tb4 _ (List.mem_of_getElem? (i := 152) rfl)) rfl
theorem kM_X3_35 : Cond.methodLink RX3 35 yX3_joinAll ∈ g_ws := g_wm (tb4 _ (List.mem_of_getElem? (i := 153) rfl)) rfl
theorem kI_X3_joinAll : Cond.instanceMethod yX3_joinAll ∈ g_ws := g_wm (tb4 _ (List.mem_of_getElem? (i := 154) rfl)) rfl
theorem kS_X3_joinAll : Cond.selects RX3 yX3_joinAll yX3_joinAll ∈ g_ws := g_wm (tb4 _ (List.mem_of_getElem? (i := 155) rfl)) rfl
theorem kC_X3_joinAll : Cond.code yX3_joinAll cX3_joinAll 5 none ∈ g_ws := g_wm (tb4 _ (List.mem_of_getElem? (i := 156) rfl)) rfl
theorem kM_L_143 : Cond.methodLink RL 143 yX11_spare ∈ g_ws := g_wm (tb4 _ (List.mem_of_getElem? (i := 157) rfl)) rfl
theorem kI_X11_spare : Cond.instanceMethod yX11_spare ∈ g_ws := g_wm (tb4 _ (List.mem_of_getElem? (i := 158) rfl)) rfl
theorem kS_X11_spare : Cond.selects RX11 yX11_spare yX11_spare ∈ g_ws := g_wm (tb4 _ (List.mem_of_getElem? (i := 159) rfl)) rfl
theorem kC_X11_spare : Cond.code yX11_spare cX11_spare 4 (some .int) ∈ g_ws := g_wm (tb4 _ (List.mem_of_getElem? (i := 160) rfl)) rfl
theorem kM_X11_284 : Cond.methodLink RX11 284 yX11_isSpare ∈ g_ws := g_wm (tb4 _ (List.mem_of_getElem? (i := 161) rfl)) rfl
theorem kI_X11_isSpare : Cond.instanceMethod yX11_isSpare ∈ g_ws := g_wm (tb4 _ (List.mem_of_getElem? (i := 163) rfl)) rfl
theorem kC_X11_isSpare : Cond.code yX11_isSpare cX11_isSpare 10 (some .boolean) ∈ g_ws := g_wm (tb4 _ (List.mem_of_getElem? (i := 164) rfl)) rfl
theorem kM_L_147 : Cond.methodLink RL 147 yX11_thin ∈ g_ws := g_wm (tb4 _ (List.mem_of_getElem? (i := 165) rfl)) rfl
theorem kI_X11_thin : Cond.instanceMethod yX11_thin ∈ g_ws := g_wm (tb4 _ (List.mem_of_getElem? (i := 166) rfl)) rfl
theorem kS_X11_thin : Cond.selects RX11 yX11_thin yX11_thin ∈ g_ws := g_wm (tb4 _ (List.mem_of_getElem? (i := 167) rfl)) rfl
theorem kC_X11_thin : Cond.code yX11_thin cX11_thin 4 (some .int) ∈ g_ws := g_wm (tb4 _ (List.mem_of_getElem? (i := 168) rfl)) rfl
theorem kM_X11_288 : Cond.methodLink RX11 288 yX11_thinRing ∈ g_ws := g_wm (tb4 _ (List.mem_of_getElem? (i := 169) rfl)) rfl
theorem kI_X11_thinRing : Cond.instanceMethod yX11_thinRing ∈ g_ws := g_wm (tb4 _ (List.mem_of_getElem? (i := 171) rfl)) rfl
theorem kC_X11_thinRing : Cond.code yX11_thinRing cX11_thinRing 5 (some .int) ∈ g_ws := g_wm (tb4 _ (List.mem_of_getElem? (i := 172) rfl)) rfl
theorem kM_L_151 : Cond.methodLink RL 151 yX11_heavy ∈ g_ws := g_wm (tb4 _ (List.mem_of_getElem? (i := 173) rfl)) rfl
theorem kI_X11_heavy : Cond.instanceMethod yX11_heavy ∈ g_ws := g_wm (tb4 _ (List.mem_of_getElem? (i := 174) rfl)) rfl
theorem kS_X11_heavy : Cond.selects RX11 yX11_heavy yX11_heavy ∈ g_ws := g_wm (tb4 _ (List.mem_of_getElem? (i := 175) rfl)) rfl
theorem kC_X11_heavy : Cond.code yX11_heavy cX11_heavy 3 (some .int) ∈ g_ws := g_wm (tb4 _ (List.mem_of_getElem? (i := 176) rfl)) rfl
theorem kM_X11_291 : Cond.methodLink RX11 291 yX0_heaviest ∈ g_ws := g_wm (tb4 _ (List.mem_of_getElem? (i := 177) rfl)) rfl
theorem kI_X0_heaviest : Cond.instanceMethod yX0_heaviest ∈ g_ws := g_wm (tb4 _ (List.mem_of_getElem? (i := 178) rfl)) rfl
theorem kS_X0_heaviest : Cond.selects RX0 yX0_heaviest yX0_heaviest ∈ g_ws := g_wm (tb4 _ (List.mem_of_getElem? (i := 179) rfl)) rfl
theorem kC_X0_heaviest : Cond.code yX0_heaviest cX0_heaviest 5 (some .int) ∈ g_ws := g_wm (tb4 _ (List.mem_of_getElem? (i := 180) rfl)) rfl
theorem kM_X0_47 : Cond.methodLink RX0 47 yJ6_bitCount_0f7a4 ∈ g_ws := g_wm (tb4 _ (List.mem_of_getElem? (i := 181) rfl)) rfl
theorem kM_X11_294 : Cond.methodLink RX11 294 yX0_keysTogether ∈ g_ws := g_wm (tb4 _ (List.mem_of_getElem? (i := 182) rfl)) rfl
theorem kI_X0_keysTogether : Cond.instanceMethod yX0_keysTogether ∈ g_ws := g_wm (tb4 _ (List.mem_of_getElem? (i := 183) rfl)) rfl
theorem kS_X0_keysTogether : Cond.selects RX0 yX0_keysTogether yX0_keysTogether ∈ g_ws := g_wm (tb4 _ (List.mem_of_getElem? (i := 184) rfl)) rfl
theorem kC_X0_keysTogether : Cond.code yX0_keysTogether cX0_keysTogether 3 (some .int) ∈ g_ws := g_wm (tb4 _ (List.mem_of_getElem? (i := 185) rfl)) rfl
theorem kM_L_155 : Cond.methodLink RL 155 yX11_judge ∈ g_ws := g_wm (tb4 _ (List.mem_of_getElem? (i := 186) rfl)) rfl
theorem kI_X11_judge : Cond.instanceMethod yX11_judge ∈ g_ws := g_wm (tb4 _ (List.mem_of_getElem? (i := 187) rfl)) rfl
theorem kS_X11_judge : Cond.selects RX11 yX11_judge yX11_judge ∈ g_ws := g_wm (tb4 _ (List.mem_of_getElem? (i := 188) rfl)) rfl
theorem kC_X11_judge : Cond.code yX11_judge cX11_judge 4 (some .int) ∈ g_ws := g_wm (tb4 _ (List.mem_of_getElem? (i := 189) rfl)) rfl
theorem kM_X11_297 : Cond.methodLink RX11 297 yX11_isSheet ∈ g_ws := g_wm (tb4 _ (List.mem_of_getElem? (i := 190) rfl)) rfl
theorem kT_X11_isSheet : Cond.static yX11_isSheet ∈ g_ws := g_wm (tb4 _ (List.mem_of_getElem? (i := 191) rfl)) rfl
theorem kC_X11_isSheet : Cond.code yX11_isSheet cX11_isSheet 1 (some .boolean) ∈ g_ws := g_wm (tb4 _ (List.mem_of_getElem? (i := 192) rfl)) rfl
theorem kM_X11_300 : Cond.methodLink RX11 300 yX7_isMissing ∈ g_ws := g_wm (tb4 _ (List.mem_of_getElem? (i := 193) rfl)) rfl
theorem kI_X7_isMissing : Cond.instanceMethod yX7_isMissing ∈ g_ws := g_wm (tb4 _ (List.mem_of_getElem? (i := 194) rfl)) rfl
theorem kS_X7_isMissing : Cond.selects RX7 yX7_isMissing yX7_isMissing ∈ g_ws := g_wm (tb4 _ (List.mem_of_getElem? (i := 195) rfl)) rfl
theorem kC_X7_isMissing : Cond.code yX7_isMissing cX7_isMissing 1 (some .boolean) ∈ g_ws := g_wm (tb4 _ (List.mem_of_getElem? (i := 196) rfl)) rfl
theorem kK_X11_304 : Cond.constant RX11 304 (-1000000006) ∈ g_ws := g_wm (tb4 _ (List.mem_of_getElem? (i := 197) rfl)) rfl
theorem kM_X11_312 : Cond.methodLink RX11 312 yX7_rightOnes ∈ g_ws := g_wm (tb4 _ (List.mem_of_getElem? (i := 198) rfl)) rfl
theorem kI_X7_rightOnes : Cond.instanceMethod yX7_rightOnes ∈ g_ws := g_wm (tb4 _ (List.mem_of_getElem? (i := 199) rfl)) rfl
theorem kS_X7_rightOnes : Cond.selects RX7 yX7_rightOnes yX7_rightOnes ∈ g_ws := g_wm (tb4 _ (List.mem_of_getElem? (i := 200) rfl)) rfl
theorem kC_X7_rightOnes : Cond.code yX7_rightOnes cX7_rightOnes 3 (some .int) ∈ g_ws := g_wm (tb4 _ (List.mem_of_getElem? (i := 201) rfl)) rfl
theorem kM_L_159 : Cond.methodLink RL 159 yX11_sheet ∈ g_ws := g_wm (tb4 _ (List.mem_of_getElem? (i := 202) rfl)) rfl
theorem kI_X11_sheet : Cond.instanceMethod yX11_sheet ∈ g_ws := g_wm (tb4 _ (List.mem_of_getElem? (i := 203) rfl)) rfl
theorem kS_X11_sheet : Cond.selects RX11 yX11_sheet yX11_sheet ∈ g_ws := g_wm (tb4 _ (List.mem_of_getElem? (i := 204) rfl)) rfl
theorem kC_X11_sheet : Cond.code yX11_sheet cX11_sheet 4 (some .int) ∈ g_ws := g_wm (tb4 _ (List.mem_of_getElem? (i := 205) rfl)) rfl
theorem kM_X11_317 : Cond.methodLink RX11 317 yX7_clear ∈ g_ws := g_wm (tb4 _ (List.mem_of_getElem? (i := 206) rfl)) rfl
theorem kI_X7_clear : Cond.instanceMethod yX7_clear ∈ g_ws := g_wm (tb4 _ (List.mem_of_getElem? (i := 207) rfl)) rfl
theorem kS_X7_clear : Cond.selects RX7 yX7_clear yX7_clear ∈ g_ws := g_wm (tb4 _ (List.mem_of_getElem? (i := 208) rfl)) rfl
theorem kC_X7_clear : Cond.code yX7_clear cX7_clear 3 (some .int) ∈ g_ws := g_wm (tb4 _ (List.mem_of_getElem? (i := 209) rfl)) rfl
theorem kM_X7_22 : Cond.methodLink RX7 22 yJ7_fill_d0a16 ∈ g_ws := g_wm (tb4 _ (List.mem_of_getElem? (i := 210) rfl)) rfl
theorem kT_J7_fill_d0a16 : Cond.static yJ7_fill_d0a16 ∈ g_ws := g_wm (tb4 _ (List.mem_of_getElem? (i := 211) rfl)) rfl
theorem kC_J7_fill_d0a16 : Cond.code yJ7_fill_d0a16 cJ7_fill_d0a16 5 none ∈ g_ws := g_wm (tb4 _ (List.mem_of_getElem? (i := 212) rfl)) rfl
theorem kM_L_165 : Cond.methodLink RL 165 yX11_write ∈ g_ws := g_wm (tb4 _ (List.mem_of_getElem? (i := 213) rfl)) rfl
theorem kI_X11_write : Cond.instanceMethod yX11_write ∈ g_ws := g_wm (tb4 _ (List.mem_of_getElem? (i := 214) rfl)) rfl
theorem kS_X11_write : Cond.selects RX11 yX11_write yX11_write ∈ g_ws := g_wm (tb4 _ (List.mem_of_getElem? (i := 215) rfl)) rfl
theorem kC_X11_write : Cond.code yX11_write cX11_write 5 (some .long) ∈ g_ws := g_wm (tb4 _ (List.mem_of_getElem? (i := 216) rfl)) rfl
theorem kM_X11_319 : Cond.methodLink RX11 319 yX7_change ∈ g_ws := g_wm (tb4 _ (List.mem_of_getElem? (i := 217) rfl)) rfl
theorem kI_X7_change : Cond.instanceMethod yX7_change ∈ g_ws := g_wm (tb4 _ (List.mem_of_getElem? (i := 218) rfl)) rfl
theorem kS_X7_change : Cond.selects RX7 yX7_change yX7_change ∈ g_ws := g_wm (tb4 _ (List.mem_of_getElem? (i := 219) rfl)) rfl
theorem kC_X7_change : Cond.code yX7_change cX7_change 6 (some .long) ∈ g_ws := g_wm (tb4 _ (List.mem_of_getElem? (i := 220) rfl)) rfl
theorem kM_L_170 : Cond.methodLink RL 170 yX11_copy ∈ g_ws := g_wm (tb4 _ (List.mem_of_getElem? (i := 221) rfl)) rfl
theorem kI_X11_copy : Cond.instanceMethod yX11_copy ∈ g_ws := g_wm (tb4 _ (List.mem_of_getElem? (i := 222) rfl)) rfl
theorem kS_X11_copy : Cond.selects RX11 yX11_copy yX11_copy ∈ g_ws := g_wm (tb4 _ (List.mem_of_getElem? (i := 223) rfl)) rfl
theorem kC_X11_copy : Cond.code yX11_copy cX11_copy 6 (some .int) ∈ g_ws := g_wm (tb4 _ (List.mem_of_getElem? (i := 224) rfl)) rfl
theorem kM_X11_326 : Cond.methodLink RX11 326 yX7_hasFrom ∈ g_ws := g_wm (tb4 _ (List.mem_of_getElem? (i := 225) rfl)) rfl
theorem kI_X7_hasFrom : Cond.instanceMethod yX7_hasFrom ∈ g_ws := g_wm (tb4 _ (List.mem_of_getElem? (i := 226) rfl)) rfl
theorem kS_X7_hasFrom : Cond.selects RX7 yX7_hasFrom yX7_hasFrom ∈ g_ws := g_wm (tb4 _ (List.mem_of_getElem? (i := 227) rfl)) rfl
theorem kC_X7_hasFrom : Cond.code yX7_hasFrom cX7_hasFrom 3 (some .boolean) ∈ g_ws := g_wm (tb4 _ (List.mem_of_getElem? (i := 228) rfl)) rfl
theorem kM_L_175 : Cond.methodLink RL 175 yX11_image ∈ g_ws := g_wm (tb4 _ (List.mem_of_getElem? (i := 230) rfl)) rfl
theorem kI_X11_image : Cond.instanceMethod yX11_image ∈ g_ws := g_wm (tb4 _ (List.mem_of_getElem? (i := 231) rfl)) rfl
theorem kS_X11_image : Cond.selects RX11 yX11_image yX11_image ∈ g_ws := g_wm (tb4 _ (List.mem_of_getElem? (i := 232) rfl)) rfl
theorem kC_X11_image : Cond.code yX11_image cX11_image 1 (some .int) ∈ g_ws := g_wm (tb4 _ (List.mem_of_getElem? (i := 233) rfl)) rfl
theorem kM_X11_339 : Cond.methodLink RX11 339 yX0_takeFrom ∈ g_ws := g_wm (tb4 _ (List.mem_of_getElem? (i := 234) rfl)) rfl
theorem kI_X0_takeFrom : Cond.instanceMethod yX0_takeFrom ∈ g_ws := g_wm (tb4 _ (List.mem_of_getElem? (i := 235) rfl)) rfl
theorem kS_X0_takeFrom : Cond.selects RX0 yX0_takeFrom yX0_takeFrom ∈ g_ws := g_wm (tb4 _ (List.mem_of_getElem? (i := 236) rfl)) rfl
theorem kC_X0_takeFrom : Cond.code yX0_takeFrom cX0_takeFrom 2 none ∈ g_ws := g_wm (tb4 _ (List.mem_of_getElem? (i := 237) rfl)) rfl
theorem kM_L_179 : Cond.methodLink RL 179 yX11_undo ∈ g_ws := g_wm (tb4 _ (List.mem_of_getElem? (i := 239) rfl)) rfl
theorem kI_X11_undo : Cond.instanceMethod yX11_undo ∈ g_ws := g_wm (tb5 _ (List.mem_of_getElem? (i := 0) rfl)) rfl
theorem kS_X11_undo : Cond.selects RX11 yX11_undo yX11_undo ∈ g_ws := g_wm (tb5 _ (List.mem_of_getElem? (i := 1) rfl)) rfl
theorem kC_X11_undo : Cond.code yX11_undo cX11_undo 1 (some .int) ∈ g_ws := g_wm (tb5 _ (List.mem_of_getElem? (i := 2) rfl)) rfl
theorem kM_X11_357 : Cond.methodLink RX11 357 yX10_goBack ∈ g_ws := g_wm (tb5 _ (List.mem_of_getElem? (i := 3) rfl)) rfl
theorem kI_X10_goBack : Cond.instanceMethod yX10_goBack ∈ g_ws := g_wm (tb5 _ (List.mem_of_getElem? (i := 4) rfl)) rfl
theorem kS_X10_goBack : Cond.selects RX10 yX10_goBack yX10_goBack ∈ g_ws := g_wm (tb5 _ (List.mem_of_getElem? (i := 5) rfl)) rfl
theorem kC_X10_goBack : Cond.code yX10_goBack cX10_goBack 3 none ∈ g_ws := g_wm (tb5 _ (List.mem_of_getElem? (i := 6) rfl)) rfl
theorem kM_X11_361 : Cond.methodLink RX11 361 yX4_goBack ∈ g_ws := g_wm (tb5 _ (List.mem_of_getElem? (i := 7) rfl)) rfl
theorem kI_X4_goBack : Cond.instanceMethod yX4_goBack ∈ g_ws := g_wm (tb5 _ (List.mem_of_getElem? (i := 8) rfl)) rfl
theorem kS_X4_goBack : Cond.selects RX4 yX4_goBack yX4_goBack ∈ g_ws := g_wm (tb5 _ (List.mem_of_getElem? (i := 9) rfl)) rfl
theorem kC_X4_goBack : Cond.code yX4_goBack cX4_goBack 2 none ∈ g_ws := g_wm (tb5 _ (List.mem_of_getElem? (i := 10) rfl)) rfl
theorem kM_L_183 : Cond.methodLink RL 183 yX11_tear ∈ g_ws := g_wm (tb5 _ (List.mem_of_getElem? (i := 11) rfl)) rfl
theorem kI_X11_tear : Cond.instanceMethod yX11_tear ∈ g_ws := g_wm (tb5 _ (List.mem_of_getElem? (i := 12) rfl)) rfl
theorem kS_X11_tear : Cond.selects RX11 yX11_tear yX11_tear ∈ g_ws := g_wm (tb5 _ (List.mem_of_getElem? (i := 13) rfl)) rfl
theorem kC_X11_tear : Cond.code yX11_tear cX11_tear 2 (some .int) ∈ g_ws := g_wm (tb5 _ (List.mem_of_getElem? (i := 14) rfl)) rfl
theorem kM_L_187 : Cond.methodLink RL 187 yX11_look ∈ g_ws := g_wm (tb5 _ (List.mem_of_getElem? (i := 15) rfl)) rfl
theorem kI_X11_look : Cond.instanceMethod yX11_look ∈ g_ws := g_wm (tb5 _ (List.mem_of_getElem? (i := 16) rfl)) rfl
theorem kS_X11_look : Cond.selects RX11 yX11_look yX11_look ∈ g_ws := g_wm (tb5 _ (List.mem_of_getElem? (i := 17) rfl)) rfl
theorem kC_X11_look : Cond.code yX11_look cX11_look 2 (some .int) ∈ g_ws := g_wm (tb5 _ (List.mem_of_getElem? (i := 18) rfl)) rfl
theorem kM_L_191 : Cond.methodLink RL 191 yX11_status ∈ g_ws := g_wm (tb5 _ (List.mem_of_getElem? (i := 19) rfl)) rfl
theorem kI_X11_status : Cond.instanceMethod yX11_status ∈ g_ws := g_wm (tb5 _ (List.mem_of_getElem? (i := 20) rfl)) rfl
theorem kS_X11_status : Cond.selects RX11 yX11_status yX11_status ∈ g_ws := g_wm (tb5 _ (List.mem_of_getElem? (i := 21) rfl)) rfl
theorem kC_X11_status : Cond.code yX11_status cX11_status 2 (some .int) ∈ g_ws := g_wm (tb5 _ (List.mem_of_getElem? (i := 22) rfl)) rfl
theorem kM_L_12 : Cond.methodLink RL 12 yX12_init ∈ g_ws := g_wm (tb5 _ (List.mem_of_getElem? (i := 25) rfl)) rfl
theorem kI_X12_init : Cond.instanceMethod yX12_init ∈ g_ws := g_wm (tb5 _ (List.mem_of_getElem? (i := 26) rfl)) rfl
theorem kC_X12_init : Cond.code yX12_init cX12_init 1 none ∈ g_ws := g_wm (tb5 _ (List.mem_of_getElem? (i := 27) rfl)) rfl
theorem kF_X12_7 : Cond.fieldLink RX12 7 (TX12 0).1 (TX12 0).2.1 (TX12 0).2.2.1 ∈ g_ws := g_wm (tb5 _ (List.mem_of_getElem? (i := 29) rfl)) rfl
theorem kF_X12_13 : Cond.fieldLink RX12 13 (TX12 1).1 (TX12 1).2.1 (TX12 1).2.2.1 ∈ g_ws := g_wm (tb5 _ (List.mem_of_getElem? (i := 30) rfl)) rfl
theorem kF_X12_306 : Cond.fieldLink RX12 306 (TX12 2).1 (TX12 2).2.1 (TX12 2).2.2.1 ∈ g_ws := g_wm (tb5 _ (List.mem_of_getElem? (i := 31) rfl)) rfl
theorem kF_X12_16 : Cond.fieldLink RX12 16 (TX12 3).1 (TX12 3).2.1 (TX12 3).2.2.1 ∈ g_ws := g_wm (tb5 _ (List.mem_of_getElem? (i := 32) rfl)) rfl
theorem kF_X12_199 : Cond.fieldLink RX12 199 (TX12 4).1 (TX12 4).2.1 (TX12 4).2.2.1 ∈ g_ws := g_wm (tb5 _ (List.mem_of_getElem? (i := 33) rfl)) rfl
theorem kF_X12_19 : Cond.fieldLink RX12 19 (TX12 5).1 (TX12 5).2.1 (TX12 5).2.2.1 ∈ g_ws := g_wm (tb5 _ (List.mem_of_getElem? (i := 34) rfl)) rfl
theorem kF_X12_72 : Cond.fieldLink RX12 72 (TX12 6).1 (TX12 6).2.1 (TX12 6).2.2.1 ∈ g_ws := g_wm (tb5 _ (List.mem_of_getElem? (i := 35) rfl)) rfl
theorem kF_X12_68 : Cond.fieldLink RX12 68 (TX12 7).1 (TX12 7).2.1 (TX12 7).2.2.1 ∈ g_ws := g_wm (tb5 _ (List.mem_of_getElem? (i := 36) rfl)) rfl
theorem kF_X12_141 : Cond.fieldLink RX12 141 (TX12 8).1 (TX12 8).2.1 (TX12 8).2.2.1 ∈ g_ws := g_wm (tb5 _ (List.mem_of_getElem? (i := 37) rfl)) rfl
theorem kF_X12_156 : Cond.fieldLink RX12 156 (TX12 9).1 (TX12 9).2.1 (TX12 9).2.2.1 ∈ g_ws := g_wm (tb5 _ (List.mem_of_getElem? (i := 38) rfl)) rfl
theorem kF_X12_125 : Cond.fieldLink RX12 125 (TX12 10).1 (TX12 10).2.1 (TX12 10).2.2.1 ∈ g_ws := g_wm (tb5 _ (List.mem_of_getElem? (i := 39) rfl)) rfl
theorem kF_X12_85 : Cond.fieldLink RX12 85 (TX12 11).1 (TX12 11).2.1 (TX12 11).2.2.1 ∈ g_ws := g_wm (tb5 _ (List.mem_of_getElem? (i := 40) rfl)) rfl
theorem kF_X12_82 : Cond.fieldLink RX12 82 (TX12 12).1 (TX12 12).2.1 (TX12 12).2.2.1 ∈ g_ws := g_wm (tb5 _ (List.mem_of_getElem? (i := 41) rfl)) rfl
theorem kF_X12_75 : Cond.fieldLink RX12 75 (TX12 13).1 (TX12 13).2.1 (TX12 13).2.2.1 ∈ g_ws := g_wm (tb5 _ (List.mem_of_getElem? (i := 42) rfl)) rfl
theorem kF_X12_95 : Cond.fieldLink RX12 95 (TX12 14).1 (TX12 14).2.1 (TX12 14).2.2.1 ∈ g_ws := g_wm (tb5 _ (List.mem_of_getElem? (i := 43) rfl)) rfl
theorem kF_X12_134 : Cond.fieldLink RX12 134 (TX12 15).1 (TX12 15).2.1 (TX12 15).2.2.1 ∈ g_ws := g_wm (tb5 _ (List.mem_of_getElem? (i := 44) rfl)) rfl
theorem kF_X12_98 : Cond.fieldLink RX12 98 (TX12 16).1 (TX12 16).2.1 (TX12 16).2.2.1 ∈ g_ws := g_wm (tb5 _ (List.mem_of_getElem? (i := 45) rfl)) rfl
theorem kF_X12_22 : Cond.fieldLink RX12 22 (TX12 17).1 (TX12 17).2.1 (TX12 17).2.2.1 ∈ g_ws := g_wm (tb5 _ (List.mem_of_getElem? (i := 46) rfl)) rfl
theorem kF_X12_26 : Cond.fieldLink RX12 26 (TX12 18).1 (TX12 18).2.1 (TX12 18).2.2.1 ∈ g_ws := g_wm (tb5 _ (List.mem_of_getElem? (i := 47) rfl)) rfl
theorem kF_X12_29 : Cond.fieldLink RX12 29 (TX12 19).1 (TX12 19).2.1 (TX12 19).2.2.1 ∈ g_ws := g_wm (tb5 _ (List.mem_of_getElem? (i := 48) rfl)) rfl
theorem kF_X12_32 : Cond.fieldLink RX12 32 (TX12 20).1 (TX12 20).2.1 (TX12 20).2.2.1 ∈ g_ws := g_wm (tb5 _ (List.mem_of_getElem? (i := 49) rfl)) rfl
theorem kF_X12_35 : Cond.fieldLink RX12 35 (TX12 21).1 (TX12 21).2.1 (TX12 21).2.2.1 ∈ g_ws := g_wm (tb5 _ (List.mem_of_getElem? (i := 50) rfl)) rfl
theorem kF_X12_38 : Cond.fieldLink RX12 38 (TX12 22).1 (TX12 22).2.1 (TX12 22).2.2.1 ∈ g_ws := g_wm (tb5 _ (List.mem_of_getElem? (i := 51) rfl)) rfl
theorem kF_X12_41 : Cond.fieldLink RX12 41 (TX12 23).1 (TX12 23).2.1 (TX12 23).2.2.1 ∈ g_ws := g_wm (tb5 _ (List.mem_of_getElem? (i := 52) rfl)) rfl
theorem kF_X12_44 : Cond.fieldLink RX12 44 (TX12 24).1 (TX12 24).2.1 (TX12 24).2.2.1 ∈ g_ws := g_wm (tb5 _ (List.mem_of_getElem? (i := 53) rfl)) rfl
theorem kF_X12_47 : Cond.fieldLink RX12 47 (TX12 25).1 (TX12 25).2.1 (TX12 25).2.2.1 ∈ g_ws := g_wm (tb5 _ (List.mem_of_getElem? (i := 54) rfl)) rfl
theorem kF_X12_284 : Cond.fieldLink RX12 284 (TX12 26).1 (TX12 26).2.1 (TX12 26).2.2.1 ∈ g_ws := g_wm (tb5 _ (List.mem_of_getElem? (i := 55) rfl)) rfl
theorem kF_X12_50 : Cond.fieldLink RX12 50 (TX12 27).1 (TX12 27).2.1 (TX12 27).2.2.1 ∈ g_ws := g_wm (tb5 _ (List.mem_of_getElem? (i := 56) rfl)) rfl
theorem kF_X12_53 : Cond.fieldLink RX12 53 (TX12 28).1 (TX12 28).2.1 (TX12 28).2.2.1 ∈ g_ws := g_wm (tb5 _ (List.mem_of_getElem? (i := 57) rfl)) rfl
theorem kF_X12_56 : Cond.fieldLink RX12 56 (TX12 29).1 (TX12 29).2.1 (TX12 29).2.2.1 ∈ g_ws := g_wm (tb5 _ (List.mem_of_getElem? (i := 58) rfl)) rfl
theorem kF_X12_60 : Cond.fieldLink RX12 60 (TX12 30).1 (TX12 30).2.1 (TX12 30).2.2.1 ∈ g_ws := g_wm (tb5 _ (List.mem_of_getElem? (i := 59) rfl)) rfl
theorem kM_L_17 : Cond.methodLink RL 17 yX12_elder ∈ g_ws := g_wm (tb5 _ (List.mem_of_getElem? (i := 123) rfl)) rfl
theorem kI_X12_elder : Cond.instanceMethod yX12_elder ∈ g_ws := g_wm (tb5 _ (List.mem_of_getElem? (i := 124) rfl)) rfl
theorem kS_X12_elder : Cond.selects RX12 yX12_elder yX12_elder ∈ g_ws := g_wm (tb5 _ (List.mem_of_getElem? (i := 125) rfl)) rfl
theorem kC_X12_elder : Cond.code yX12_elder cX12_elder 3 (some .int) ∈ g_ws := g_wm (tb5 _ (List.mem_of_getElem? (i := 126) rfl)) rfl
theorem kM_X12_64 : Cond.methodLink RX12 64 yX12_in ∈ g_ws := g_wm (tb5 _ (List.mem_of_getElem? (i := 127) rfl)) rfl
theorem kT_X12_in : Cond.static yX12_in ∈ g_ws := g_wm (tb5 _ (List.mem_of_getElem? (i := 128) rfl)) rfl
theorem kC_X12_in : Cond.code yX12_in cX12_in 3 (some .boolean) ∈ g_ws := g_wm (tb5 _ (List.mem_of_getElem? (i := 129) rfl)) rfl
theorem kM_X12_190 : Cond.methodLink RX12 190 yX12_finding ∈ g_ws := g_wm (tb5 _ (List.mem_of_getElem? (i := 130) rfl)) rfl
theorem kI_X12_finding : Cond.instanceMethod yX12_finding ∈ g_ws := g_wm (tb5 _ (List.mem_of_getElem? (i := 132) rfl)) rfl
theorem kC_X12_finding : Cond.code yX12_finding cX12_finding 2 (some .int) ∈ g_ws := g_wm (tb5 _ (List.mem_of_getElem? (i := 133) rfl)) rfl
theorem kK_X12_63 : Cond.constant RX12 63 (-1000000001) ∈ g_ws := g_wm (tb5 _ (List.mem_of_getElem? (i := 134) rfl)) rfl
theorem kM_L_22 : Cond.methodLink RL 22 yX12_of ∈ g_ws := g_wm (tb5 _ (List.mem_of_getElem? (i := 135) rfl)) rfl
theorem kI_X12_of : Cond.instanceMethod yX12_of ∈ g_ws := g_wm (tb5 _ (List.mem_of_getElem? (i := 136) rfl)) rfl
theorem kS_X12_of : Cond.selects RX12 yX12_of yX12_of ∈ g_ws := g_wm (tb5 _ (List.mem_of_getElem? (i := 137) rfl)) rfl
theorem kC_X12_of : Cond.code yX12_of cX12_of 3 (some .int) ∈ g_ws := g_wm (tb5 _ (List.mem_of_getElem? (i := 138) rfl)) rfl
theorem kM_X12_193 : Cond.methodLink RX12 193 yX12_isElder ∈ g_ws := g_wm (tb5 _ (List.mem_of_getElem? (i := 139) rfl)) rfl
theorem kI_X12_isElder : Cond.instanceMethod yX12_isElder ∈ g_ws := g_wm (tb5 _ (List.mem_of_getElem? (i := 141) rfl)) rfl
theorem kC_X12_isElder : Cond.code yX12_isElder cX12_isElder 2 (some .boolean) ∈ g_ws := g_wm (tb5 _ (List.mem_of_getElem? (i := 142) rfl)) rfl
theorem kM_X12_147 : Cond.methodLink RX12 147 yX12_many ∈ g_ws := g_wm (tb5 _ (List.mem_of_getElem? (i := 143) rfl)) rfl
theorem kT_X12_many : Cond.static yX12_many ∈ g_ws := g_wm (tb5 _ (List.mem_of_getElem? (i := 144) rfl)) rfl
theorem kC_X12_many : Cond.code yX12_many cX12_many 3 (some .int) ∈ g_ws := g_wm (tb5 _ (List.mem_of_getElem? (i := 145) rfl)) rfl
theorem kM_X12_196 : Cond.methodLink RX12 196 yX12_lentTo ∈ g_ws := g_wm (tb5 _ (List.mem_of_getElem? (i := 146) rfl)) rfl
theorem kI_X12_lentTo : Cond.instanceMethod yX12_lentTo ∈ g_ws := g_wm (tb5 _ (List.mem_of_getElem? (i := 148) rfl)) rfl
theorem kC_X12_lentTo : Cond.code yX12_lentTo cX12_lentTo 4 (some .int) ∈ g_ws := g_wm (tb5 _ (List.mem_of_getElem? (i := 149) rfl)) rfl
theorem kM_L_27 : Cond.methodLink RL 27 yX12_gone ∈ g_ws := g_wm (tb5 _ (List.mem_of_getElem? (i := 150) rfl)) rfl
theorem kI_X12_gone : Cond.instanceMethod yX12_gone ∈ g_ws := g_wm (tb5 _ (List.mem_of_getElem? (i := 151) rfl)) rfl
theorem kS_X12_gone : Cond.selects RX12 yX12_gone yX12_gone ∈ g_ws := g_wm (tb5 _ (List.mem_of_getElem? (i := 152) rfl)) rfl
theorem kC_X12_gone : Cond.code yX12_gone cX12_gone 4 (some .int) ∈ g_ws := g_wm (tb5 _ (List.mem_of_getElem? (i := 153) rfl)) rfl
theorem kM_L_31 : Cond.methodLink RL 31 yX12_feed ∈ g_ws := g_wm (tb5 _ (List.mem_of_getElem? (i := 154) rfl)) rfl
theorem kI_X12_feed : Cond.instanceMethod yX12_feed ∈ g_ws := g_wm (tb5 _ (List.mem_of_getElem? (i := 155) rfl)) rfl
theorem kS_X12_feed : Cond.selects RX12 yX12_feed yX12_feed ∈ g_ws := g_wm (tb5 _ (List.mem_of_getElem? (i := 156) rfl)) rfl
theorem kC_X12_feed : Cond.code yX12_feed cX12_feed 4 (some .int) ∈ g_ws := g_wm (tb5 _ (List.mem_of_getElem? (i := 157) rfl)) rfl
theorem kM_L_36 : Cond.methodLink RL 36 yX12_wipe ∈ g_ws := g_wm (tb5 _ (List.mem_of_getElem? (i := 158) rfl)) rfl
theorem kI_X12_wipe : Cond.instanceMethod yX12_wipe ∈ g_ws := g_wm (tb5 _ (List.mem_of_getElem? (i := 159) rfl)) rfl
theorem kS_X12_wipe : Cond.selects RX12 yX12_wipe yX12_wipe ∈ g_ws := g_wm (tb5 _ (List.mem_of_getElem? (i := 160) rfl)) rfl
theorem kC_X12_wipe : Cond.code yX12_wipe cX12_wipe 2 (some .int) ∈ g_ws := g_wm (tb5 _ (List.mem_of_getElem? (i := 161) rfl)) rfl
theorem kM_L_40 : Cond.methodLink RL 40 yX12_text ∈ g_ws := g_wm (tb5 _ (List.mem_of_getElem? (i := 162) rfl)) rfl
theorem kI_X12_text : Cond.instanceMethod yX12_text ∈ g_ws := g_wm (tb5 _ (List.mem_of_getElem? (i := 163) rfl)) rfl
theorem kS_X12_text : Cond.selects RX12 yX12_text yX12_text ∈ g_ws := g_wm (tb5 _ (List.mem_of_getElem? (i := 164) rfl)) rfl
theorem kC_X12_text : Cond.code yX12_text cX12_text 4 (some .int) ∈ g_ws := g_wm (tb5 _ (List.mem_of_getElem? (i := 165) rfl)) rfl
theorem kM_X12_187 : Cond.methodLink RX12 187 yX12_reads ∈ g_ws := g_wm (tb5 _ (List.mem_of_getElem? (i := 166) rfl)) rfl
theorem kI_X12_reads : Cond.instanceMethod yX12_reads ∈ g_ws := g_wm (tb5 _ (List.mem_of_getElem? (i := 168) rfl)) rfl
theorem kC_X12_reads : Cond.code yX12_reads cX12_reads 6 (some .boolean) ∈ g_ws := g_wm (tb5 _ (List.mem_of_getElem? (i := 169) rfl)) rfl
theorem kM_X12_181 : Cond.methodLink RX12 181 yX12_all ∈ g_ws := g_wm (tb5 _ (List.mem_of_getElem? (i := 170) rfl)) rfl
theorem kI_X12_all : Cond.instanceMethod yX12_all ∈ g_ws := g_wm (tb5 _ (List.mem_of_getElem? (i := 172) rfl)) rfl
theorem kC_X12_all : Cond.code yX12_all cX12_all 3 (some .int) ∈ g_ws := g_wm (tb5 _ (List.mem_of_getElem? (i := 173) rfl)) rfl
theorem kM_X12_112 : Cond.methodLink RX12 112 yX12_next ∈ g_ws := g_wm (tb5 _ (List.mem_of_getElem? (i := 174) rfl)) rfl
theorem kI_X12_next : Cond.instanceMethod yX12_next ∈ g_ws := g_wm (tb5 _ (List.mem_of_getElem? (i := 176) rfl)) rfl
theorem kC_X12_next : Cond.code yX12_next cX12_next 2 none ∈ g_ws := g_wm (tb5 _ (List.mem_of_getElem? (i := 177) rfl)) rfl
theorem kM_X12_78 : Cond.methodLink RX12 78 yX12_byteAt ∈ g_ws := g_wm (tb5 _ (List.mem_of_getElem? (i := 178) rfl)) rfl
theorem kI_X12_byteAt : Cond.instanceMethod yX12_byteAt ∈ g_ws := g_wm (tb5 _ (List.mem_of_getElem? (i := 180) rfl)) rfl
theorem kC_X12_byteAt : Cond.code yX12_byteAt cX12_byteAt 2 (some .int) ∈ g_ws := g_wm (tb5 _ (List.mem_of_getElem? (i := 181) rfl)) rfl
theorem kM_X12_88 : Cond.methodLink RX12 88 yX12_isLetter ∈ g_ws := g_wm (tb5 _ (List.mem_of_getElem? (i := 182) rfl)) rfl
theorem kT_X12_isLetter : Cond.static yX12_isLetter ∈ g_ws := g_wm (tb5 _ (List.mem_of_getElem? (i := 183) rfl)) rfl
theorem kC_X12_isLetter : Cond.code yX12_isLetter cX12_isLetter 1 (some .boolean) ∈ g_ws := g_wm (tb5 _ (List.mem_of_getElem? (i := 184) rfl)) rfl
theorem kM_X12_92 : Cond.methodLink RX12 92 yX12_isDigit ∈ g_ws := g_wm (tb5 _ (List.mem_of_getElem? (i := 185) rfl)) rfl
theorem kT_X12_isDigit : Cond.static yX12_isDigit ∈ g_ws := g_wm (tb5 _ (List.mem_of_getElem? (i := 186) rfl)) rfl
theorem kC_X12_isDigit : Cond.code yX12_isDigit cX12_isDigit 1 (some .boolean) ∈ g_ws := g_wm (tb5 _ (List.mem_of_getElem? (i := 187) rfl)) rfl
theorem kM_X12_121 : Cond.methodLink RX12 121 yX12_isWord ∈ g_ws := g_wm (tb5 _ (List.mem_of_getElem? (i := 189) rfl)) rfl
theorem kI_X12_isWord : Cond.instanceMethod yX12_isWord ∈ g_ws := g_wm (tb5 _ (List.mem_of_getElem? (i := 191) rfl)) rfl
theorem kC_X12_isWord : Cond.code yX12_isWord cX12_isWord 4 (some .boolean) ∈ g_ws := g_wm (tb5 _ (List.mem_of_getElem? (i := 192) rfl)) rfl
theorem kM_X12_102 : Cond.methodLink RX12 102 yJ0_length_8abf5 ∈ g_ws := g_wm (tb5 _ (List.mem_of_getElem? (i := 193) rfl)) rfl
theorem kM_X12_108 : Cond.methodLink RX12 108 yJ0_charAt_5068e ∈ g_ws := g_wm (tb5 _ (List.mem_of_getElem? (i := 194) rfl)) rfl
theorem kM_X12_115 : Cond.methodLink RX12 115 yX12_need ∈ g_ws := g_wm (tb5 _ (List.mem_of_getElem? (i := 195) rfl)) rfl
theorem kI_X12_need : Cond.instanceMethod yX12_need ∈ g_ws := g_wm (tb5 _ (List.mem_of_getElem? (i := 197) rfl)) rfl
theorem kC_X12_need : Cond.code yX12_need cX12_need 2 (some .boolean) ∈ g_ws := g_wm (tb5 _ (List.mem_of_getElem? (i := 198) rfl)) rfl
theorem kM_X12_163 : Cond.methodLink RX12 163 yX12_either ∈ g_ws := g_wm (tb5 _ (List.mem_of_getElem? (i := 199) rfl)) rfl
theorem kI_X12_either : Cond.instanceMethod yX12_either ∈ g_ws := g_wm (tb5 _ (List.mem_of_getElem? (i := 201) rfl)) rfl
theorem kC_X12_either : Cond.code yX12_either cX12_either 3 (some .boolean) ∈ g_ws := g_wm (tb5 _ (List.mem_of_getElem? (i := 202) rfl)) rfl
theorem kM_X12_176 : Cond.methodLink RX12 176 yX12_both ∈ g_ws := g_wm (tb5 _ (List.mem_of_getElem? (i := 203) rfl)) rfl
theorem kI_X12_both : Cond.instanceMethod yX12_both ∈ g_ws := g_wm (tb5 _ (List.mem_of_getElem? (i := 205) rfl)) rfl
theorem kC_X12_both : Cond.code yX12_both cX12_both 3 (some .boolean) ∈ g_ws := g_wm (tb5 _ (List.mem_of_getElem? (i := 206) rfl)) rfl
theorem kM_X12_171 : Cond.methodLink RX12 171 yX12_turned ∈ g_ws := g_wm (tb5 _ (List.mem_of_getElem? (i := 207) rfl)) rfl
theorem kI_X12_turned : Cond.instanceMethod yX12_turned ∈ g_ws := g_wm (tb5 _ (List.mem_of_getElem? (i := 209) rfl)) rfl
theorem kC_X12_turned : Cond.code yX12_turned cX12_turned 2 (some .boolean) ∈ g_ws := g_wm (tb5 _ (List.mem_of_getElem? (i := 210) rfl)) rfl
theorem kM_X12_168 : Cond.methodLink RX12 168 yX12_one ∈ g_ws := g_wm (tb5 _ (List.mem_of_getElem? (i := 212) rfl)) rfl
theorem kI_X12_one : Cond.instanceMethod yX12_one ∈ g_ws := g_wm (tb5 _ (List.mem_of_getElem? (i := 214) rfl)) rfl
theorem kC_X12_one : Cond.code yX12_one cX12_one 2 (some .boolean) ∈ g_ws := g_wm (tb5 _ (List.mem_of_getElem? (i := 215) rfl)) rfl
theorem kM_X12_131 : Cond.methodLink RX12 131 yX12_number ∈ g_ws := g_wm (tb5 _ (List.mem_of_getElem? (i := 217) rfl)) rfl
theorem kI_X12_number : Cond.instanceMethod yX12_number ∈ g_ws := g_wm (tb5 _ (List.mem_of_getElem? (i := 219) rfl)) rfl
theorem kC_X12_number : Cond.code yX12_number cX12_number 3 (some .int) ∈ g_ws := g_wm (tb5 _ (List.mem_of_getElem? (i := 220) rfl)) rfl
theorem kM_X12_144 : Cond.methodLink RX12 144 yX12_part ∈ g_ws := g_wm (tb5 _ (List.mem_of_getElem? (i := 222) rfl)) rfl
theorem kI_X12_part : Cond.instanceMethod yX12_part ∈ g_ws := g_wm (tb5 _ (List.mem_of_getElem? (i := 224) rfl)) rfl
theorem kC_X12_part : Cond.code yX12_part cX12_part 2 (some .int) ∈ g_ws := g_wm (tb5 _ (List.mem_of_getElem? (i := 225) rfl)) rfl
theorem kM_X12_128 : Cond.methodLink RX12 128 yX12_isSign ∈ g_ws := g_wm (tb5 _ (List.mem_of_getElem? (i := 227) rfl)) rfl
theorem kI_X12_isSign : Cond.instanceMethod yX12_isSign ∈ g_ws := g_wm (tb5 _ (List.mem_of_getElem? (i := 229) rfl)) rfl
theorem kC_X12_isSign : Cond.code yX12_isSign cX12_isSign 2 (some .boolean) ∈ g_ws := g_wm (tb5 _ (List.mem_of_getElem? (i := 230) rfl)) rfl
theorem kM_X12_159 : Cond.methodLink RX12 159 yX12_opens ∈ g_ws := g_wm (tb5 _ (List.mem_of_getElem? (i := 234) rfl)) rfl
theorem kI_X12_opens : Cond.instanceMethod yX12_opens ∈ g_ws := g_wm (tb5 _ (List.mem_of_getElem? (i := 236) rfl)) rfl
theorem kC_X12_opens : Cond.code yX12_opens cX12_opens 1 (some .boolean) ∈ g_ws := g_wm (tb5 _ (List.mem_of_getElem? (i := 237) rfl)) rfl
theorem kM_L_44 : Cond.methodLink RL 44 yX12_use ∈ g_ws := g_wm (tb6 _ (List.mem_of_getElem? (i := 1) rfl)) rfl
theorem kI_X12_use : Cond.instanceMethod yX12_use ∈ g_ws := g_wm (tb6 _ (List.mem_of_getElem? (i := 2) rfl)) rfl
theorem kS_X12_use : Cond.selects RX12 yX12_use yX12_use ∈ g_ws := g_wm (tb6 _ (List.mem_of_getElem? (i := 3) rfl)) rfl
theorem kC_X12_use : Cond.code yX12_use cX12_use 3 (some .int) ∈ g_ws := g_wm (tb6 _ (List.mem_of_getElem? (i := 4) rfl)) rfl
theorem kM_L_48 : Cond.methodLink RL 48 yX12_may ∈ g_ws := g_wm (tb6 _ (List.mem_of_getElem? (i := 5) rfl)) rfl
theorem kI_X12_may : Cond.instanceMethod yX12_may ∈ g_ws := g_wm (tb6 _ (List.mem_of_getElem? (i := 6) rfl)) rfl
theorem kS_X12_may : Cond.selects RX12 yX12_may yX12_may ∈ g_ws := g_wm (tb6 _ (List.mem_of_getElem? (i := 7) rfl)) rfl
theorem kC_X12_may : Cond.code yX12_may cX12_may 3 (some .int) ∈ g_ws := g_wm (tb6 _ (List.mem_of_getElem? (i := 8) rfl)) rfl
theorem kM_X12_202 : Cond.methodLink RX12 202 yX12_isSet ∈ g_ws := g_wm (tb6 _ (List.mem_of_getElem? (i := 9) rfl)) rfl
theorem kI_X12_isSet : Cond.instanceMethod yX12_isSet ∈ g_ws := g_wm (tb6 _ (List.mem_of_getElem? (i := 11) rfl)) rfl
theorem kC_X12_isSet : Cond.code yX12_isSet cX12_isSet 2 (some .boolean) ∈ g_ws := g_wm (tb6 _ (List.mem_of_getElem? (i := 12) rfl)) rfl
theorem kM_X12_205 : Cond.methodLink RX12 205 yX12_mayBy ∈ g_ws := g_wm (tb6 _ (List.mem_of_getElem? (i := 13) rfl)) rfl
theorem kI_X12_mayBy : Cond.instanceMethod yX12_mayBy ∈ g_ws := g_wm (tb6 _ (List.mem_of_getElem? (i := 15) rfl)) rfl
theorem kC_X12_mayBy : Cond.code yX12_mayBy cX12_mayBy 3 (some .boolean) ∈ g_ws := g_wm (tb6 _ (List.mem_of_getElem? (i := 16) rfl)) rfl
theorem kM_L_52 : Cond.methodLink RL 52 yX12_more ∈ g_ws := g_wm (tb6 _ (List.mem_of_getElem? (i := 17) rfl)) rfl
theorem kI_X12_more : Cond.instanceMethod yX12_more ∈ g_ws := g_wm (tb6 _ (List.mem_of_getElem? (i := 18) rfl)) rfl
theorem kS_X12_more : Cond.selects RX12 yX12_more yX12_more ∈ g_ws := g_wm (tb6 _ (List.mem_of_getElem? (i := 19) rfl)) rfl
theorem kC_X12_more : Cond.code yX12_more cX12_more 2 (some .int) ∈ g_ws := g_wm (tb6 _ (List.mem_of_getElem? (i := 20) rfl)) rfl
theorem kM_X12_213 : Cond.methodLink RX12 213 yX12_findMay ∈ g_ws := g_wm (tb6 _ (List.mem_of_getElem? (i := 21) rfl)) rfl
theorem kI_X12_findMay : Cond.instanceMethod yX12_findMay ∈ g_ws := g_wm (tb6 _ (List.mem_of_getElem? (i := 23) rfl)) rfl
theorem kC_X12_findMay : Cond.code yX12_findMay cX12_findMay 3 none ∈ g_ws := g_wm (tb6 _ (List.mem_of_getElem? (i := 24) rfl)) rfl
theorem kM_X12_216 : Cond.methodLink RX12 216 yX12_firstThatLoses ∈ g_ws := g_wm (tb6 _ (List.mem_of_getElem? (i := 25) rfl)) rfl
theorem kI_X12_firstThatLoses : Cond.instanceMethod yX12_firstThatLoses ∈ g_ws := g_wm (tb6 _ (List.mem_of_getElem? (i := 27) rfl)) rfl
theorem kC_X12_firstThatLoses : Cond.code yX12_firstThatLoses cX12_firstThatLoses 3 (some .int) ∈ g_ws := g_wm (tb6 _ (List.mem_of_getElem? (i := 28) rfl)) rfl
theorem kM_X12_209 : Cond.methodLink RX12 209 yX12_loses ∈ g_ws := g_wm (tb6 _ (List.mem_of_getElem? (i := 29) rfl)) rfl
theorem kI_X12_loses : Cond.instanceMethod yX12_loses ∈ g_ws := g_wm (tb6 _ (List.mem_of_getElem? (i := 31) rfl)) rfl
theorem kC_X12_loses : Cond.code yX12_loses cX12_loses 4 (some .int) ∈ g_ws := g_wm (tb6 _ (List.mem_of_getElem? (i := 32) rfl)) rfl
theorem kM_L_56 : Cond.methodLink RL 56 yX12_least ∈ g_ws := g_wm (tb6 _ (List.mem_of_getElem? (i := 33) rfl)) rfl
theorem kI_X12_least : Cond.instanceMethod yX12_least ∈ g_ws := g_wm (tb6 _ (List.mem_of_getElem? (i := 34) rfl)) rfl
theorem kS_X12_least : Cond.selects RX12 yX12_least yX12_least ∈ g_ws := g_wm (tb6 _ (List.mem_of_getElem? (i := 35) rfl)) rfl
theorem kC_X12_least : Cond.code yX12_least cX12_least 2 (some .int) ∈ g_ws := g_wm (tb6 _ (List.mem_of_getElem? (i := 36) rfl)) rfl
theorem kM_X12_232 : Cond.methodLink RX12 232 yX12_byText ∈ g_ws := g_wm (tb6 _ (List.mem_of_getElem? (i := 37) rfl)) rfl
theorem kI_X12_byText : Cond.instanceMethod yX12_byText ∈ g_ws := g_wm (tb6 _ (List.mem_of_getElem? (i := 39) rfl)) rfl
theorem kC_X12_byText : Cond.code yX12_byText cX12_byText 3 (some .int) ∈ g_ws := g_wm (tb6 _ (List.mem_of_getElem? (i := 40) rfl)) rfl
theorem kM_X12_229 : Cond.methodLink RX12 229 yX12_told ∈ g_ws := g_wm (tb6 _ (List.mem_of_getElem? (i := 41) rfl)) rfl
theorem kI_X12_told : Cond.instanceMethod yX12_told ∈ g_ws := g_wm (tb6 _ (List.mem_of_getElem? (i := 43) rfl)) rfl
theorem kC_X12_told : Cond.code yX12_told cX12_told 4 (some .int) ∈ g_ws := g_wm (tb6 _ (List.mem_of_getElem? (i := 44) rfl)) rfl
theorem kM_X12_225 : Cond.methodLink RX12 225 yX12_find ∈ g_ws := g_wm (tb6 _ (List.mem_of_getElem? (i := 45) rfl)) rfl
theorem kI_X12_find : Cond.instanceMethod yX12_find ∈ g_ws := g_wm (tb6 _ (List.mem_of_getElem? (i := 47) rfl)) rfl
theorem kC_X12_find : Cond.code yX12_find cX12_find 6 (some .int) ∈ g_ws := g_wm (tb6 _ (List.mem_of_getElem? (i := 48) rfl)) rfl
theorem kM_X12_219 : Cond.methodLink RX12 219 yX12_isMost ∈ g_ws := g_wm (tb6 _ (List.mem_of_getElem? (i := 49) rfl)) rfl
theorem kI_X12_isMost : Cond.instanceMethod yX12_isMost ∈ g_ws := g_wm (tb6 _ (List.mem_of_getElem? (i := 51) rfl)) rfl
theorem kC_X12_isMost : Cond.code yX12_isMost cX12_isMost 6 (some .boolean) ∈ g_ws := g_wm (tb6 _ (List.mem_of_getElem? (i := 52) rfl)) rfl
theorem kM_X12_222 : Cond.methodLink RX12 222 yX12_isLeast ∈ g_ws := g_wm (tb6 _ (List.mem_of_getElem? (i := 53) rfl)) rfl
theorem kI_X12_isLeast : Cond.instanceMethod yX12_isLeast ∈ g_ws := g_wm (tb6 _ (List.mem_of_getElem? (i := 55) rfl)) rfl
theorem kC_X12_isLeast : Cond.code yX12_isLeast cX12_isLeast 4 (some .boolean) ∈ g_ws := g_wm (tb6 _ (List.mem_of_getElem? (i := 56) rfl)) rfl
theorem kM_L_60 : Cond.methodLink RL 60 yX12_most ∈ g_ws := g_wm (tb6 _ (List.mem_of_getElem? (i := 57) rfl)) rfl
theorem kI_X12_most : Cond.instanceMethod yX12_most ∈ g_ws := g_wm (tb6 _ (List.mem_of_getElem? (i := 58) rfl)) rfl
theorem kS_X12_most : Cond.selects RX12 yX12_most yX12_most ∈ g_ws := g_wm (tb6 _ (List.mem_of_getElem? (i := 59) rfl)) rfl
theorem kC_X12_most : Cond.code yX12_most cX12_most 2 (some .int) ∈ g_ws := g_wm (tb6 _ (List.mem_of_getElem? (i := 60) rfl)) rfl
theorem kM_L_64 : Cond.methodLink RL 64 yX12_lock ∈ g_ws := g_wm (tb6 _ (List.mem_of_getElem? (i := 61) rfl)) rfl
theorem kI_X12_lock : Cond.instanceMethod yX12_lock ∈ g_ws := g_wm (tb6 _ (List.mem_of_getElem? (i := 62) rfl)) rfl
theorem kS_X12_lock : Cond.selects RX12 yX12_lock yX12_lock ∈ g_ws := g_wm (tb6 _ (List.mem_of_getElem? (i := 63) rfl)) rfl
theorem kC_X12_lock : Cond.code yX12_lock cX12_lock 3 (some .int) ∈ g_ws := g_wm (tb6 _ (List.mem_of_getElem? (i := 64) rfl)) rfl
theorem kM_X12_235 : Cond.methodLink RX12 235 yX12_isKey ∈ g_ws := g_wm (tb6 _ (List.mem_of_getElem? (i := 65) rfl)) rfl
theorem kT_X12_isKey : Cond.static yX12_isKey ∈ g_ws := g_wm (tb6 _ (List.mem_of_getElem? (i := 66) rfl)) rfl
theorem kC_X12_isKey : Cond.code yX12_isKey cX12_isKey 1 (some .boolean) ∈ g_ws := g_wm (tb6 _ (List.mem_of_getElem? (i := 67) rfl)) rfl
theorem kM_X12_238 : Cond.methodLink RX12 238 yX12_hangs ∈ g_ws := g_wm (tb6 _ (List.mem_of_getElem? (i := 68) rfl)) rfl
theorem kI_X12_hangs : Cond.instanceMethod yX12_hangs ∈ g_ws := g_wm (tb6 _ (List.mem_of_getElem? (i := 70) rfl)) rfl
theorem kC_X12_hangs : Cond.code yX12_hangs cX12_hangs 6 (some .int) ∈ g_ws := g_wm (tb6 _ (List.mem_of_getElem? (i := 71) rfl)) rfl
theorem kM_L_69 : Cond.methodLink RL 69 yX12_chain ∈ g_ws := g_wm (tb6 _ (List.mem_of_getElem? (i := 72) rfl)) rfl
theorem kI_X12_chain : Cond.instanceMethod yX12_chain ∈ g_ws := g_wm (tb6 _ (List.mem_of_getElem? (i := 73) rfl)) rfl
theorem kS_X12_chain : Cond.selects RX12 yX12_chain yX12_chain ∈ g_ws := g_wm (tb6 _ (List.mem_of_getElem? (i := 74) rfl)) rfl
theorem kC_X12_chain : Cond.code yX12_chain cX12_chain 4 (some .int) ∈ g_ws := g_wm (tb6 _ (List.mem_of_getElem? (i := 75) rfl)) rfl
theorem kM_X12_242 : Cond.methodLink RX12 242 yX12_isHanging ∈ g_ws := g_wm (tb6 _ (List.mem_of_getElem? (i := 76) rfl)) rfl
theorem kI_X12_isHanging : Cond.instanceMethod yX12_isHanging ∈ g_ws := g_wm (tb6 _ (List.mem_of_getElem? (i := 78) rfl)) rfl
theorem kC_X12_isHanging : Cond.code yX12_isHanging cX12_isHanging 2 (some .boolean) ∈ g_ws := g_wm (tb6 _ (List.mem_of_getElem? (i := 79) rfl)) rfl
theorem kM_L_73 : Cond.methodLink RL 73 yX12_box ∈ g_ws := g_wm (tb6 _ (List.mem_of_getElem? (i := 80) rfl)) rfl
theorem kI_X12_box : Cond.instanceMethod yX12_box ∈ g_ws := g_wm (tb6 _ (List.mem_of_getElem? (i := 81) rfl)) rfl
theorem kS_X12_box : Cond.selects RX12 yX12_box yX12_box ∈ g_ws := g_wm (tb6 _ (List.mem_of_getElem? (i := 82) rfl)) rfl
theorem kC_X12_box : Cond.code yX12_box cX12_box 3 (some .int) ∈ g_ws := g_wm (tb6 _ (List.mem_of_getElem? (i := 83) rfl)) rfl
theorem kM_L_77 : Cond.methodLink RL 77 yX12_hanging ∈ g_ws := g_wm (tb6 _ (List.mem_of_getElem? (i := 84) rfl)) rfl
theorem kI_X12_hanging : Cond.instanceMethod yX12_hanging ∈ g_ws := g_wm (tb6 _ (List.mem_of_getElem? (i := 85) rfl)) rfl
theorem kS_X12_hanging : Cond.selects RX12 yX12_hanging yX12_hanging ∈ g_ws := g_wm (tb6 _ (List.mem_of_getElem? (i := 86) rfl)) rfl
theorem kC_X12_hanging : Cond.code yX12_hanging cX12_hanging 3 (some .int) ∈ g_ws := g_wm (tb6 _ (List.mem_of_getElem? (i := 87) rfl)) rfl
theorem kM_X12_248 : Cond.methodLink RX12 248 yX12_counts ∈ g_ws := g_wm (tb6 _ (List.mem_of_getElem? (i := 88) rfl)) rfl
theorem kI_X12_counts : Cond.instanceMethod yX12_counts ∈ g_ws := g_wm (tb6 _ (List.mem_of_getElem? (i := 90) rfl)) rfl
theorem kC_X12_counts : Cond.code yX12_counts cX12_counts 4 none ∈ g_ws := g_wm (tb6 _ (List.mem_of_getElem? (i := 91) rfl)) rfl
theorem kM_X12_245 : Cond.methodLink RX12 245 yX12_hang ∈ g_ws := g_wm (tb6 _ (List.mem_of_getElem? (i := 92) rfl)) rfl
theorem kI_X12_hang : Cond.instanceMethod yX12_hang ∈ g_ws := g_wm (tb6 _ (List.mem_of_getElem? (i := 94) rfl)) rfl
theorem kC_X12_hang : Cond.code yX12_hang cX12_hang 3 (some .int) ∈ g_ws := g_wm (tb6 _ (List.mem_of_getElem? (i := 95) rfl)) rfl
theorem kM_L_81 : Cond.methodLink RL 81 yX12_as ∈ g_ws := g_wm (tb6 _ (List.mem_of_getElem? (i := 96) rfl)) rfl
theorem kI_X12_as : Cond.instanceMethod yX12_as ∈ g_ws := g_wm (tb6 _ (List.mem_of_getElem? (i := 97) rfl)) rfl
theorem kS_X12_as : Cond.selects RX12 yX12_as yX12_as ∈ g_ws := g_wm (tb6 _ (List.mem_of_getElem? (i := 98) rfl)) rfl
theorem kC_X12_as : Cond.code yX12_as cX12_as 5 (some .int) ∈ g_ws := g_wm (tb6 _ (List.mem_of_getElem? (i := 99) rfl)) rfl
theorem kM_L_85 : Cond.methodLink RL 85 yX12_key ∈ g_ws := g_wm (tb6 _ (List.mem_of_getElem? (i := 100) rfl)) rfl
theorem kI_X12_key : Cond.instanceMethod yX12_key ∈ g_ws := g_wm (tb6 _ (List.mem_of_getElem? (i := 101) rfl)) rfl
theorem kS_X12_key : Cond.selects RX12 yX12_key yX12_key ∈ g_ws := g_wm (tb6 _ (List.mem_of_getElem? (i := 102) rfl)) rfl
theorem kC_X12_key : Cond.code yX12_key cX12_key 5 (some .int) ∈ g_ws := g_wm (tb6 _ (List.mem_of_getElem? (i := 103) rfl)) rfl
theorem kM_L_90 : Cond.methodLink RL 90 yX12_lend ∈ g_ws := g_wm (tb6 _ (List.mem_of_getElem? (i := 104) rfl)) rfl
theorem kI_X12_lend : Cond.instanceMethod yX12_lend ∈ g_ws := g_wm (tb6 _ (List.mem_of_getElem? (i := 105) rfl)) rfl
theorem kS_X12_lend : Cond.selects RX12 yX12_lend yX12_lend ∈ g_ws := g_wm (tb6 _ (List.mem_of_getElem? (i := 106) rfl)) rfl
theorem kC_X12_lend : Cond.code yX12_lend cX12_lend 4 (some .int) ∈ g_ws := g_wm (tb6 _ (List.mem_of_getElem? (i := 107) rfl)) rfl
theorem kM_L_94 : Cond.methodLink RL 94 yX12_opens_ ∈ g_ws := g_wm (tb6 _ (List.mem_of_getElem? (i := 108) rfl)) rfl
theorem kI_X12_opens_ : Cond.instanceMethod yX12_opens_ ∈ g_ws := g_wm (tb6 _ (List.mem_of_getElem? (i := 109) rfl)) rfl
theorem kS_X12_opens_ : Cond.selects RX12 yX12_opens_ yX12_opens_ ∈ g_ws := g_wm (tb6 _ (List.mem_of_getElem? (i := 110) rfl)) rfl
theorem kC_X12_opens_ : Cond.code yX12_opens_ cX12_opens_ 3 (some .int) ∈ g_ws := g_wm (tb6 _ (List.mem_of_getElem? (i := 111) rfl)) rfl
theorem kM_X12_258 : Cond.methodLink RX12 258 yX12_keysOf ∈ g_ws := g_wm (tb6 _ (List.mem_of_getElem? (i := 112) rfl)) rfl
theorem kI_X12_keysOf : Cond.instanceMethod yX12_keysOf ∈ g_ws := g_wm (tb6 _ (List.mem_of_getElem? (i := 114) rfl)) rfl
theorem kC_X12_keysOf : Cond.code yX12_keysOf cX12_keysOf 4 (some .int) ∈ g_ws := g_wm (tb6 _ (List.mem_of_getElem? (i := 115) rfl)) rfl
theorem kM_X12_261 : Cond.methodLink RX12 261 yX12_opensBy ∈ g_ws := g_wm (tb6 _ (List.mem_of_getElem? (i := 116) rfl)) rfl
theorem kI_X12_opensBy : Cond.instanceMethod yX12_opensBy ∈ g_ws := g_wm (tb6 _ (List.mem_of_getElem? (i := 118) rfl)) rfl
theorem kC_X12_opensBy : Cond.code yX12_opensBy cX12_opensBy 4 (some .boolean) ∈ g_ws := g_wm (tb6 _ (List.mem_of_getElem? (i := 119) rfl)) rfl
theorem kM_X12_255 : Cond.methodLink RX12 255 yX12_comesOf ∈ g_ws := g_wm (tb6 _ (List.mem_of_getElem? (i := 120) rfl)) rfl
theorem kI_X12_comesOf : Cond.instanceMethod yX12_comesOf ∈ g_ws := g_wm (tb6 _ (List.mem_of_getElem? (i := 122) rfl)) rfl
theorem kC_X12_comesOf : Cond.code yX12_comesOf cX12_comesOf 6 (some .int) ∈ g_ws := g_wm (tb6 _ (List.mem_of_getElem? (i := 123) rfl)) rfl
theorem kM_X12_251 : Cond.methodLink RX12 251 yX12_opensWith ∈ g_ws := g_wm (tb6 _ (List.mem_of_getElem? (i := 124) rfl)) rfl
theorem kI_X12_opensWith : Cond.instanceMethod yX12_opensWith ∈ g_ws := g_wm (tb6 _ (List.mem_of_getElem? (i := 126) rfl)) rfl
theorem kC_X12_opensWith : Cond.code yX12_opensWith cX12_opensWith 4 none ∈ g_ws := g_wm (tb6 _ (List.mem_of_getElem? (i := 127) rfl)) rfl
theorem kM_L_98 : Cond.methodLink RL 98 yX12_had ∈ g_ws := g_wm (tb6 _ (List.mem_of_getElem? (i := 128) rfl)) rfl
theorem kI_X12_had : Cond.instanceMethod yX12_had ∈ g_ws := g_wm (tb6 _ (List.mem_of_getElem? (i := 129) rfl)) rfl
theorem kS_X12_had : Cond.selects RX12 yX12_had yX12_had ∈ g_ws := g_wm (tb6 _ (List.mem_of_getElem? (i := 130) rfl)) rfl
theorem kC_X12_had : Cond.code yX12_had cX12_had 2 (some .int) ∈ g_ws := g_wm (tb6 _ (List.mem_of_getElem? (i := 131) rfl)) rfl
theorem kM_L_102 : Cond.methodLink RL 102 yX12_round ∈ g_ws := g_wm (tb6 _ (List.mem_of_getElem? (i := 132) rfl)) rfl
theorem kI_X12_round : Cond.instanceMethod yX12_round ∈ g_ws := g_wm (tb6 _ (List.mem_of_getElem? (i := 133) rfl)) rfl
theorem kS_X12_round : Cond.selects RX12 yX12_round yX12_round ∈ g_ws := g_wm (tb6 _ (List.mem_of_getElem? (i := 134) rfl)) rfl
theorem kC_X12_round : Cond.code yX12_round cX12_round 4 (some .int) ∈ g_ws := g_wm (tb6 _ (List.mem_of_getElem? (i := 135) rfl)) rfl
theorem kM_L_106 : Cond.methodLink RL 106 yX12_lets ∈ g_ws := g_wm (tb6 _ (List.mem_of_getElem? (i := 136) rfl)) rfl
theorem kI_X12_lets : Cond.instanceMethod yX12_lets ∈ g_ws := g_wm (tb6 _ (List.mem_of_getElem? (i := 137) rfl)) rfl
theorem kS_X12_lets : Cond.selects RX12 yX12_lets yX12_lets ∈ g_ws := g_wm (tb6 _ (List.mem_of_getElem? (i := 138) rfl)) rfl
theorem kC_X12_lets : Cond.code yX12_lets cX12_lets 3 (some .int) ∈ g_ws := g_wm (tb6 _ (List.mem_of_getElem? (i := 139) rfl)) rfl
theorem kM_X12_267 : Cond.methodLink RX12 267 yX12_byHanging ∈ g_ws := g_wm (tb6 _ (List.mem_of_getElem? (i := 140) rfl)) rfl
theorem kI_X12_byHanging : Cond.instanceMethod yX12_byHanging ∈ g_ws := g_wm (tb6 _ (List.mem_of_getElem? (i := 142) rfl)) rfl
theorem kC_X12_byHanging : Cond.code yX12_byHanging cX12_byHanging 4 (some .int) ∈ g_ws := g_wm (tb6 _ (List.mem_of_getElem? (i := 143) rfl)) rfl
theorem kM_X12_264 : Cond.methodLink RX12 264 yX12_findOpens ∈ g_ws := g_wm (tb6 _ (List.mem_of_getElem? (i := 144) rfl)) rfl
theorem kI_X12_findOpens : Cond.instanceMethod yX12_findOpens ∈ g_ws := g_wm (tb6 _ (List.mem_of_getElem? (i := 146) rfl)) rfl
theorem kC_X12_findOpens : Cond.code yX12_findOpens cX12_findOpens 4 none ∈ g_ws := g_wm (tb6 _ (List.mem_of_getElem? (i := 147) rfl)) rfl
theorem kM_L_110 : Cond.methodLink RL 110 yX12_shut ∈ g_ws := g_wm (tb6 _ (List.mem_of_getElem? (i := 148) rfl)) rfl
theorem kI_X12_shut : Cond.instanceMethod yX12_shut ∈ g_ws := g_wm (tb6 _ (List.mem_of_getElem? (i := 149) rfl)) rfl
theorem kS_X12_shut : Cond.selects RX12 yX12_shut yX12_shut ∈ g_ws := g_wm (tb6 _ (List.mem_of_getElem? (i := 150) rfl)) rfl
theorem kC_X12_shut : Cond.code yX12_shut cX12_shut 3 (some .int) ∈ g_ws := g_wm (tb6 _ (List.mem_of_getElem? (i := 151) rfl)) rfl
theorem kM_L_114 : Cond.methodLink RL 114 yX12_wrongly ∈ g_ws := g_wm (tb6 _ (List.mem_of_getElem? (i := 152) rfl)) rfl
theorem kI_X12_wrongly : Cond.instanceMethod yX12_wrongly ∈ g_ws := g_wm (tb6 _ (List.mem_of_getElem? (i := 153) rfl)) rfl
theorem kS_X12_wrongly : Cond.selects RX12 yX12_wrongly yX12_wrongly ∈ g_ws := g_wm (tb6 _ (List.mem_of_getElem? (i := 154) rfl)) rfl
theorem kC_X12_wrongly : Cond.code yX12_wrongly cX12_wrongly 2 (some .int) ∈ g_ws := g_wm (tb6 _ (List.mem_of_getElem? (i := 155) rfl)) rfl
theorem kM_X12_274 : Cond.methodLink RX12 274 yX12_unlike ∈ g_ws := g_wm (tb6 _ (List.mem_of_getElem? (i := 156) rfl)) rfl
theorem kI_X12_unlike : Cond.instanceMethod yX12_unlike ∈ g_ws := g_wm (tb6 _ (List.mem_of_getElem? (i := 158) rfl)) rfl
theorem kC_X12_unlike : Cond.code yX12_unlike cX12_unlike 4 (some .int) ∈ g_ws := g_wm (tb6 _ (List.mem_of_getElem? (i := 159) rfl)) rfl
theorem kM_X12_271 : Cond.methodLink RX12 271 yX12_isPart ∈ g_ws := g_wm (tb6 _ (List.mem_of_getElem? (i := 160) rfl)) rfl
theorem kI_X12_isPart : Cond.instanceMethod yX12_isPart ∈ g_ws := g_wm (tb6 _ (List.mem_of_getElem? (i := 162) rfl)) rfl
theorem kC_X12_isPart : Cond.code yX12_isPart cX12_isPart 2 (some .boolean) ∈ g_ws := g_wm (tb6 _ (List.mem_of_getElem? (i := 163) rfl)) rfl
theorem kM_L_118 : Cond.methodLink RL 118 yX12_lacks ∈ g_ws := g_wm (tb6 _ (List.mem_of_getElem? (i := 164) rfl)) rfl
theorem kI_X12_lacks : Cond.instanceMethod yX12_lacks ∈ g_ws := g_wm (tb6 _ (List.mem_of_getElem? (i := 165) rfl)) rfl
theorem kS_X12_lacks : Cond.selects RX12 yX12_lacks yX12_lacks ∈ g_ws := g_wm (tb6 _ (List.mem_of_getElem? (i := 166) rfl)) rfl
theorem kC_X12_lacks : Cond.code yX12_lacks cX12_lacks 2 (some .int) ∈ g_ws := g_wm (tb6 _ (List.mem_of_getElem? (i := 167) rfl)) rfl
theorem kM_L_122 : Cond.methodLink RL 122 yX12_same ∈ g_ws := g_wm (tb6 _ (List.mem_of_getElem? (i := 168) rfl)) rfl
theorem kI_X12_same : Cond.instanceMethod yX12_same ∈ g_ws := g_wm (tb6 _ (List.mem_of_getElem? (i := 169) rfl)) rfl
theorem kS_X12_same : Cond.selects RX12 yX12_same yX12_same ∈ g_ws := g_wm (tb6 _ (List.mem_of_getElem? (i := 170) rfl)) rfl
theorem kC_X12_same : Cond.code yX12_same cX12_same 3 (some .int) ∈ g_ws := g_wm (tb6 _ (List.mem_of_getElem? (i := 171) rfl)) rfl
theorem kM_X12_278 : Cond.methodLink RX12 278 yX12_keepOther ∈ g_ws := g_wm (tb6 _ (List.mem_of_getElem? (i := 172) rfl)) rfl
theorem kI_X12_keepOther : Cond.instanceMethod yX12_keepOther ∈ g_ws := g_wm (tb6 _ (List.mem_of_getElem? (i := 174) rfl)) rfl
theorem kC_X12_keepOther : Cond.code yX12_keepOther cX12_keepOther 2 none ∈ g_ws := g_wm (tb6 _ (List.mem_of_getElem? (i := 175) rfl)) rfl
theorem kM_X12_281 : Cond.methodLink RX12 281 yX12_isAsOther ∈ g_ws := g_wm (tb6 _ (List.mem_of_getElem? (i := 176) rfl)) rfl
theorem kI_X12_isAsOther : Cond.instanceMethod yX12_isAsOther ∈ g_ws := g_wm (tb6 _ (List.mem_of_getElem? (i := 178) rfl)) rfl
theorem kC_X12_isAsOther : Cond.code yX12_isAsOther cX12_isAsOther 3 (some .boolean) ∈ g_ws := g_wm (tb6 _ (List.mem_of_getElem? (i := 179) rfl)) rfl
theorem kM_L_126 : Cond.methodLink RL 126 yX12_bears ∈ g_ws := g_wm (tb6 _ (List.mem_of_getElem? (i := 180) rfl)) rfl
theorem kI_X12_bears : Cond.instanceMethod yX12_bears ∈ g_ws := g_wm (tb6 _ (List.mem_of_getElem? (i := 181) rfl)) rfl
theorem kS_X12_bears : Cond.selects RX12 yX12_bears yX12_bears ∈ g_ws := g_wm (tb6 _ (List.mem_of_getElem? (i := 182) rfl)) rfl
theorem kC_X12_bears : Cond.code yX12_bears cX12_bears 7 (some .int) ∈ g_ws := g_wm (tb6 _ (List.mem_of_getElem? (i := 183) rfl)) rfl
theorem kM_L_130 : Cond.methodLink RL 130 yX12_need_ ∈ g_ws := g_wm (tb6 _ (List.mem_of_getElem? (i := 184) rfl)) rfl
theorem kI_X12_need_ : Cond.instanceMethod yX12_need_ ∈ g_ws := g_wm (tb6 _ (List.mem_of_getElem? (i := 185) rfl)) rfl
theorem kS_X12_need_ : Cond.selects RX12 yX12_need_ yX12_need_ ∈ g_ws := g_wm (tb6 _ (List.mem_of_getElem? (i := 186) rfl)) rfl
theorem kC_X12_need_ : Cond.code yX12_need_ cX12_need_ 10 (some .int) ∈ g_ws := g_wm (tb6 _ (List.mem_of_getElem? (i := 187) rfl)) rfl
theorem kM_L_134 : Cond.methodLink RL 134 yX12_could ∈ g_ws := g_wm (tb6 _ (List.mem_of_getElem? (i := 188) rfl)) rfl
theorem kI_X12_could : Cond.instanceMethod yX12_could ∈ g_ws := g_wm (tb6 _ (List.mem_of_getElem? (i := 189) rfl)) rfl
theorem kS_X12_could : Cond.selects RX12 yX12_could yX12_could ∈ g_ws := g_wm (tb6 _ (List.mem_of_getElem? (i := 190) rfl)) rfl
theorem kC_X12_could : Cond.code yX12_could cX12_could 6 (some .int) ∈ g_ws := g_wm (tb6 _ (List.mem_of_getElem? (i := 191) rfl)) rfl
theorem kM_L_138 : Cond.methodLink RL 138 yX12_build ∈ g_ws := g_wm (tb6 _ (List.mem_of_getElem? (i := 192) rfl)) rfl
theorem kI_X12_build : Cond.instanceMethod yX12_build ∈ g_ws := g_wm (tb6 _ (List.mem_of_getElem? (i := 193) rfl)) rfl
theorem kS_X12_build : Cond.selects RX12 yX12_build yX12_build ∈ g_ws := g_wm (tb6 _ (List.mem_of_getElem? (i := 194) rfl)) rfl
theorem kC_X12_build : Cond.code yX12_build cX12_build 7 (some .int) ∈ g_ws := g_wm (tb6 _ (List.mem_of_getElem? (i := 195) rfl)) rfl
theorem kM_L_142 : Cond.methodLink RL 142 yX12_fewest ∈ g_ws := g_wm (tb6 _ (List.mem_of_getElem? (i := 196) rfl)) rfl
theorem kI_X12_fewest : Cond.instanceMethod yX12_fewest ∈ g_ws := g_wm (tb6 _ (List.mem_of_getElem? (i := 197) rfl)) rfl
theorem kS_X12_fewest : Cond.selects RX12 yX12_fewest yX12_fewest ∈ g_ws := g_wm (tb6 _ (List.mem_of_getElem? (i := 198) rfl)) rfl
theorem kC_X12_fewest : Cond.code yX12_fewest cX12_fewest 9 (some .int) ∈ g_ws := g_wm (tb6 _ (List.mem_of_getElem? (i := 199) rfl)) rfl
theorem kM_X12_287 : Cond.methodLink RX12 287 yX12_spread ∈ g_ws := g_wm (tb6 _ (List.mem_of_getElem? (i := 200) rfl)) rfl
theorem kT_X12_spread : Cond.static yX12_spread ∈ g_ws := g_wm (tb6 _ (List.mem_of_getElem? (i := 201) rfl)) rfl
theorem kC_X12_spread : Cond.code yX12_spread cX12_spread 5 (some .int) ∈ g_ws := g_wm (tb6 _ (List.mem_of_getElem? (i := 202) rfl)) rfl
theorem kM_X12_290 : Cond.methodLink RX12 290 yX12_adds ∈ g_ws := g_wm (tb6 _ (List.mem_of_getElem? (i := 203) rfl)) rfl
theorem kI_X12_adds : Cond.instanceMethod yX12_adds ∈ g_ws := g_wm (tb6 _ (List.mem_of_getElem? (i := 205) rfl)) rfl
theorem kC_X12_adds : Cond.code yX12_adds cX12_adds 4 none ∈ g_ws := g_wm (tb6 _ (List.mem_of_getElem? (i := 206) rfl)) rfl
theorem kM_X12_294 : Cond.methodLink RX12 294 yX12_sizeOf ∈ g_ws := g_wm (tb6 _ (List.mem_of_getElem? (i := 207) rfl)) rfl
theorem kI_X12_sizeOf : Cond.instanceMethod yX12_sizeOf ∈ g_ws := g_wm (tb6 _ (List.mem_of_getElem? (i := 209) rfl)) rfl
theorem kC_X12_sizeOf : Cond.code yX12_sizeOf cX12_sizeOf 3 (some .int) ∈ g_ws := g_wm (tb6 _ (List.mem_of_getElem? (i := 210) rfl)) rfl
theorem kM_L_146 : Cond.methodLink RL 146 yX12_spare ∈ g_ws := g_wm (tb6 _ (List.mem_of_getElem? (i := 211) rfl)) rfl
theorem kI_X12_spare : Cond.instanceMethod yX12_spare ∈ g_ws := g_wm (tb6 _ (List.mem_of_getElem? (i := 212) rfl)) rfl
theorem kS_X12_spare : Cond.selects RX12 yX12_spare yX12_spare ∈ g_ws := g_wm (tb6 _ (List.mem_of_getElem? (i := 213) rfl)) rfl
theorem kC_X12_spare : Cond.code yX12_spare cX12_spare 4 (some .int) ∈ g_ws := g_wm (tb6 _ (List.mem_of_getElem? (i := 214) rfl)) rfl
theorem kM_X12_297 : Cond.methodLink RX12 297 yX12_isSpare ∈ g_ws := g_wm (tb6 _ (List.mem_of_getElem? (i := 215) rfl)) rfl
theorem kI_X12_isSpare : Cond.instanceMethod yX12_isSpare ∈ g_ws := g_wm (tb6 _ (List.mem_of_getElem? (i := 217) rfl)) rfl
theorem kC_X12_isSpare : Cond.code yX12_isSpare cX12_isSpare 5 (some .boolean) ∈ g_ws := g_wm (tb6 _ (List.mem_of_getElem? (i := 218) rfl)) rfl
theorem kM_L_150 : Cond.methodLink RL 150 yX12_thin ∈ g_ws := g_wm (tb6 _ (List.mem_of_getElem? (i := 219) rfl)) rfl
theorem kI_X12_thin : Cond.instanceMethod yX12_thin ∈ g_ws := g_wm (tb6 _ (List.mem_of_getElem? (i := 220) rfl)) rfl
theorem kS_X12_thin : Cond.selects RX12 yX12_thin yX12_thin ∈ g_ws := g_wm (tb6 _ (List.mem_of_getElem? (i := 221) rfl)) rfl
theorem kC_X12_thin : Cond.code yX12_thin cX12_thin 5 (some .int) ∈ g_ws := g_wm (tb6 _ (List.mem_of_getElem? (i := 222) rfl)) rfl
theorem kM_L_154 : Cond.methodLink RL 154 yX12_heavy ∈ g_ws := g_wm (tb6 _ (List.mem_of_getElem? (i := 223) rfl)) rfl
theorem kI_X12_heavy : Cond.instanceMethod yX12_heavy ∈ g_ws := g_wm (tb6 _ (List.mem_of_getElem? (i := 224) rfl)) rfl
theorem kS_X12_heavy : Cond.selects RX12 yX12_heavy yX12_heavy ∈ g_ws := g_wm (tb6 _ (List.mem_of_getElem? (i := 225) rfl)) rfl
theorem kC_X12_heavy : Cond.code yX12_heavy cX12_heavy 5 (some .int) ∈ g_ws := g_wm (tb6 _ (List.mem_of_getElem? (i := 226) rfl)) rfl
theorem kM_L_158 : Cond.methodLink RL 158 yX12_judge ∈ g_ws := g_wm (tb6 _ (List.mem_of_getElem? (i := 227) rfl)) rfl
theorem kI_X12_judge : Cond.instanceMethod yX12_judge ∈ g_ws := g_wm (tb6 _ (List.mem_of_getElem? (i := 228) rfl)) rfl
theorem kS_X12_judge : Cond.selects RX12 yX12_judge yX12_judge ∈ g_ws := g_wm (tb6 _ (List.mem_of_getElem? (i := 229) rfl)) rfl
theorem kC_X12_judge : Cond.code yX12_judge cX12_judge 5 (some .int) ∈ g_ws := g_wm (tb6 _ (List.mem_of_getElem? (i := 230) rfl)) rfl
theorem kM_X12_300 : Cond.methodLink RX12 300 yX12_isSheet ∈ g_ws := g_wm (tb6 _ (List.mem_of_getElem? (i := 231) rfl)) rfl
theorem kT_X12_isSheet : Cond.static yX12_isSheet ∈ g_ws := g_wm (tb6 _ (List.mem_of_getElem? (i := 232) rfl)) rfl
theorem kC_X12_isSheet : Cond.code yX12_isSheet cX12_isSheet 1 (some .boolean) ∈ g_ws := g_wm (tb6 _ (List.mem_of_getElem? (i := 233) rfl)) rfl
theorem kM_L_162 : Cond.methodLink RL 162 yX12_sheet ∈ g_ws := g_wm (tb6 _ (List.mem_of_getElem? (i := 234) rfl)) rfl
theorem kI_X12_sheet : Cond.instanceMethod yX12_sheet ∈ g_ws := g_wm (tb6 _ (List.mem_of_getElem? (i := 235) rfl)) rfl
theorem kS_X12_sheet : Cond.selects RX12 yX12_sheet yX12_sheet ∈ g_ws := g_wm (tb6 _ (List.mem_of_getElem? (i := 236) rfl)) rfl
theorem kC_X12_sheet : Cond.code yX12_sheet cX12_sheet 5 (some .int) ∈ g_ws := g_wm (tb6 _ (List.mem_of_getElem? (i := 237) rfl)) rfl
theorem kM_L_169 : Cond.methodLink RL 169 yX12_write ∈ g_ws := g_wm (tb6 _ (List.mem_of_getElem? (i := 238) rfl)) rfl
theorem kI_X12_write : Cond.instanceMethod yX12_write ∈ g_ws := g_wm (tb6 _ (List.mem_of_getElem? (i := 239) rfl)) rfl
theorem kS_X12_write : Cond.selects RX12 yX12_write yX12_write ∈ g_ws := g_wm (tb7 _ (List.mem_of_getElem? (i := 0) rfl)) rfl
theorem kC_X12_write : Cond.code yX12_write cX12_write 7 (some .long) ∈ g_ws := g_wm (tb7 _ (List.mem_of_getElem? (i := 1) rfl)) rfl
theorem kM_L_174 : Cond.methodLink RL 174 yX12_copy ∈ g_ws := g_wm (tb7 _ (List.mem_of_getElem? (i := 2) rfl)) rfl
theorem kI_X12_copy : Cond.instanceMethod yX12_copy ∈ g_ws := g_wm (tb7 _ (List.mem_of_getElem? (i := 3) rfl)) rfl
theorem kS_X12_copy : Cond.selects RX12 yX12_copy yX12_copy ∈ g_ws := g_wm (tb7 _ (List.mem_of_getElem? (i := 4) rfl)) rfl
theorem kC_X12_copy : Cond.code yX12_copy cX12_copy 7 (some .int) ∈ g_ws := g_wm (tb7 _ (List.mem_of_getElem? (i := 5) rfl)) rfl
theorem kM_X12_303 : Cond.methodLink RX12 303 yX12_has ∈ g_ws := g_wm (tb7 _ (List.mem_of_getElem? (i := 6) rfl)) rfl
theorem kI_X12_has : Cond.instanceMethod yX12_has ∈ g_ws := g_wm (tb7 _ (List.mem_of_getElem? (i := 8) rfl)) rfl
theorem kC_X12_has : Cond.code yX12_has cX12_has 4 (some .boolean) ∈ g_ws := g_wm (tb7 _ (List.mem_of_getElem? (i := 9) rfl)) rfl
theorem kM_L_178 : Cond.methodLink RL 178 yX12_image ∈ g_ws := g_wm (tb7 _ (List.mem_of_getElem? (i := 10) rfl)) rfl
theorem kI_X12_image : Cond.instanceMethod yX12_image ∈ g_ws := g_wm (tb7 _ (List.mem_of_getElem? (i := 11) rfl)) rfl
theorem kS_X12_image : Cond.selects RX12 yX12_image yX12_image ∈ g_ws := g_wm (tb7 _ (List.mem_of_getElem? (i := 12) rfl)) rfl
theorem kC_X12_image : Cond.code yX12_image cX12_image 2 (some .int) ∈ g_ws := g_wm (tb7 _ (List.mem_of_getElem? (i := 13) rfl)) rfl
theorem kM_L_182 : Cond.methodLink RL 182 yX12_undo ∈ g_ws := g_wm (tb7 _ (List.mem_of_getElem? (i := 14) rfl)) rfl
theorem kI_X12_undo : Cond.instanceMethod yX12_undo ∈ g_ws := g_wm (tb7 _ (List.mem_of_getElem? (i := 15) rfl)) rfl
theorem kS_X12_undo : Cond.selects RX12 yX12_undo yX12_undo ∈ g_ws := g_wm (tb7 _ (List.mem_of_getElem? (i := 16) rfl)) rfl
theorem kC_X12_undo : Cond.code yX12_undo cX12_undo 2 (some .int) ∈ g_ws := g_wm (tb7 _ (List.mem_of_getElem? (i := 17) rfl)) rfl
theorem kM_L_186 : Cond.methodLink RL 186 yX12_tear ∈ g_ws := g_wm (tb7 _ (List.mem_of_getElem? (i := 18) rfl)) rfl
theorem kI_X12_tear : Cond.instanceMethod yX12_tear ∈ g_ws := g_wm (tb7 _ (List.mem_of_getElem? (i := 19) rfl)) rfl
theorem kS_X12_tear : Cond.selects RX12 yX12_tear yX12_tear ∈ g_ws := g_wm (tb7 _ (List.mem_of_getElem? (i := 20) rfl)) rfl
theorem kC_X12_tear : Cond.code yX12_tear cX12_tear 2 (some .int) ∈ g_ws := g_wm (tb7 _ (List.mem_of_getElem? (i := 21) rfl)) rfl
theorem kM_L_190 : Cond.methodLink RL 190 yX12_look ∈ g_ws := g_wm (tb7 _ (List.mem_of_getElem? (i := 22) rfl)) rfl
theorem kI_X12_look : Cond.instanceMethod yX12_look ∈ g_ws := g_wm (tb7 _ (List.mem_of_getElem? (i := 23) rfl)) rfl
theorem kS_X12_look : Cond.selects RX12 yX12_look yX12_look ∈ g_ws := g_wm (tb7 _ (List.mem_of_getElem? (i := 24) rfl)) rfl
theorem kC_X12_look : Cond.code yX12_look cX12_look 2 (some .int) ∈ g_ws := g_wm (tb7 _ (List.mem_of_getElem? (i := 25) rfl)) rfl
theorem kM_L_194 : Cond.methodLink RL 194 yX12_status ∈ g_ws := g_wm (tb7 _ (List.mem_of_getElem? (i := 26) rfl)) rfl
theorem kI_X12_status : Cond.instanceMethod yX12_status ∈ g_ws := g_wm (tb7 _ (List.mem_of_getElem? (i := 27) rfl)) rfl
theorem kS_X12_status : Cond.selects RX12 yX12_status yX12_status ∈ g_ws := g_wm (tb7 _ (List.mem_of_getElem? (i := 28) rfl)) rfl
theorem kC_X12_status : Cond.code yX12_status cX12_status 4 (some .int) ∈ g_ws := g_wm (tb7 _ (List.mem_of_getElem? (i := 29) rfl)) rfl
theorem kL_L_163 : Cond.constantLong RL 163 (4294967295) ∈ g_ws := g_wm (tb7 _ (List.mem_of_getElem? (i := 30) rfl)) rfl
theorem kF_J0_9 : Cond.fieldLink RJ0 9 "java/lang/String" "value" "[B" ∈ g_ws := g_wm (tb7 _ (List.mem_of_getElem? (i := 31) rfl)) rfl
theorem kF_J0_15 : Cond.fieldLink RJ0 15 "java/lang/String" "coder" "B" ∈ g_ws := g_wm (tb7 _ (List.mem_of_getElem? (i := 32) rfl)) rfl
theorem kS_X11_allowedSets : Cond.selects RX11 yX11_allowedSets yX11_allowedSets ∈ g_ws := g_wm (List.mem_append_left _ (List.mem_of_getElem? (i := 0) rfl)) rfl
theorem kS_X11_listedByText : Cond.selects RX11 yX11_listedByText yX11_listedByText ∈ g_ws := g_wm (List.mem_append_left _ (List.mem_of_getElem? (i := 1) rfl)) rfl
theorem kS_X11_listed : Cond.selects RX11 yX11_listed yX11_listed ∈ g_ws := g_wm (List.mem_append_left _ (List.mem_of_getElem? (i := 2) rfl)) rfl
theorem kS_X11_listedByHanging : Cond.selects RX11 yX11_listedByHanging yX11_listedByHanging ∈ g_ws := g_wm (List.mem_append_left _ (List.mem_of_getElem? (i := 3) rfl)) rfl
theorem kS_X11_openingSets : Cond.selects RX11 yX11_openingSets yX11_openingSets ∈ g_ws := g_wm (List.mem_append_left _ (List.mem_of_getElem? (i := 4) rfl)) rfl
theorem kS_X11_firstApart : Cond.selects RX11 yX11_firstApart yX11_firstApart ∈ g_ws := g_wm (List.mem_append_left _ (List.mem_of_getElem? (i := 5) rfl)) rfl
theorem kS_X11_leastBesides : Cond.selects RX11 yX11_leastBesides yX11_leastBesides ∈ g_ws := g_wm (List.mem_append_left _ (List.mem_of_getElem? (i := 6) rfl)) rfl
theorem kS_X11_hangSideBySide : Cond.selects RX11 yX11_hangSideBySide yX11_hangSideBySide ∈ g_ws := g_wm (List.mem_append_left _ (List.mem_of_getElem? (i := 7) rfl)) rfl
theorem kS_X11_isSpare : Cond.selects RX11 yX11_isSpare yX11_isSpare ∈ g_ws := g_wm (List.mem_append_left _ (List.mem_of_getElem? (i := 8) rfl)) rfl
theorem kS_X11_thinRing : Cond.selects RX11 yX11_thinRing yX11_thinRing ∈ g_ws := g_wm (List.mem_append_left _ (List.mem_of_getElem? (i := 9) rfl)) rfl
theorem kS_X12_finding : Cond.selects RX12 yX12_finding yX12_finding ∈ g_ws := g_wm (List.mem_append_left _ (List.mem_of_getElem? (i := 10) rfl)) rfl
theorem kS_X12_isElder : Cond.selects RX12 yX12_isElder yX12_isElder ∈ g_ws := g_wm (List.mem_append_left _ (List.mem_of_getElem? (i := 11) rfl)) rfl
theorem kS_X12_lentTo : Cond.selects RX12 yX12_lentTo yX12_lentTo ∈ g_ws := g_wm (List.mem_append_left _ (List.mem_of_getElem? (i := 12) rfl)) rfl
theorem kS_X12_reads : Cond.selects RX12 yX12_reads yX12_reads ∈ g_ws := g_wm (List.mem_append_left _ (List.mem_of_getElem? (i := 13) rfl)) rfl
theorem kS_X12_all : Cond.selects RX12 yX12_all yX12_all ∈ g_ws := g_wm (List.mem_append_left _ (List.mem_of_getElem? (i := 14) rfl)) rfl
theorem kS_X12_next : Cond.selects RX12 yX12_next yX12_next ∈ g_ws := g_wm (List.mem_append_left _ (List.mem_of_getElem? (i := 15) rfl)) rfl
theorem kS_X12_byteAt : Cond.selects RX12 yX12_byteAt yX12_byteAt ∈ g_ws := g_wm (List.mem_append_left _ (List.mem_of_getElem? (i := 16) rfl)) rfl
theorem kS_X12_isWord : Cond.selects RX12 yX12_isWord yX12_isWord ∈ g_ws := g_wm (List.mem_append_left _ (List.mem_of_getElem? (i := 17) rfl)) rfl
theorem kS_X12_need : Cond.selects RX12 yX12_need yX12_need ∈ g_ws := g_wm (List.mem_append_left _ (List.mem_of_getElem? (i := 18) rfl)) rfl
theorem kS_X12_either : Cond.selects RX12 yX12_either yX12_either ∈ g_ws := g_wm (List.mem_append_left _ (List.mem_of_getElem? (i := 19) rfl)) rfl
theorem kS_X12_both : Cond.selects RX12 yX12_both yX12_both ∈ g_ws := g_wm (List.mem_append_left _ (List.mem_of_getElem? (i := 20) rfl)) rfl
theorem kS_X12_turned : Cond.selects RX12 yX12_turned yX12_turned ∈ g_ws := g_wm (List.mem_append_left _ (List.mem_of_getElem? (i := 21) rfl)) rfl
theorem kS_X12_one : Cond.selects RX12 yX12_one yX12_one ∈ g_ws := g_wm (List.mem_append_left _ (List.mem_of_getElem? (i := 22) rfl)) rfl
theorem kS_X12_number : Cond.selects RX12 yX12_number yX12_number ∈ g_ws := g_wm (List.mem_append_left _ (List.mem_of_getElem? (i := 23) rfl)) rfl
theorem kS_X12_part : Cond.selects RX12 yX12_part yX12_part ∈ g_ws := g_wm (List.mem_append_left _ (List.mem_of_getElem? (i := 24) rfl)) rfl
theorem kS_X12_isSign : Cond.selects RX12 yX12_isSign yX12_isSign ∈ g_ws := g_wm (List.mem_append_left _ (List.mem_of_getElem? (i := 25) rfl)) rfl
theorem kS_X12_opens : Cond.selects RX12 yX12_opens yX12_opens ∈ g_ws := g_wm (List.mem_append_left _ (List.mem_of_getElem? (i := 26) rfl)) rfl
theorem kS_X12_isSet : Cond.selects RX12 yX12_isSet yX12_isSet ∈ g_ws := g_wm (List.mem_append_left _ (List.mem_of_getElem? (i := 27) rfl)) rfl
theorem kS_X12_mayBy : Cond.selects RX12 yX12_mayBy yX12_mayBy ∈ g_ws := g_wm (List.mem_append_left _ (List.mem_of_getElem? (i := 28) rfl)) rfl
theorem kS_X12_findMay : Cond.selects RX12 yX12_findMay yX12_findMay ∈ g_ws := g_wm (List.mem_append_left _ (List.mem_of_getElem? (i := 29) rfl)) rfl
theorem kS_X12_firstThatLoses : Cond.selects RX12 yX12_firstThatLoses yX12_firstThatLoses ∈ g_ws := g_wm (List.mem_append_left _ (List.mem_of_getElem? (i := 30) rfl)) rfl
theorem kS_X12_loses : Cond.selects RX12 yX12_loses yX12_loses ∈ g_ws := g_wm (List.mem_append_left _ (List.mem_of_getElem? (i := 31) rfl)) rfl
theorem kS_X12_byText : Cond.selects RX12 yX12_byText yX12_byText ∈ g_ws := g_wm (List.mem_append_left _ (List.mem_of_getElem? (i := 32) rfl)) rfl
theorem kS_X12_told : Cond.selects RX12 yX12_told yX12_told ∈ g_ws := g_wm (List.mem_append_left _ (List.mem_of_getElem? (i := 33) rfl)) rfl
theorem kS_X12_find : Cond.selects RX12 yX12_find yX12_find ∈ g_ws := g_wm (List.mem_append_left _ (List.mem_of_getElem? (i := 34) rfl)) rfl
theorem kS_X12_isMost : Cond.selects RX12 yX12_isMost yX12_isMost ∈ g_ws := g_wm (List.mem_append_left _ (List.mem_of_getElem? (i := 35) rfl)) rfl
theorem kS_X12_isLeast : Cond.selects RX12 yX12_isLeast yX12_isLeast ∈ g_ws := g_wm (List.mem_append_left _ (List.mem_of_getElem? (i := 36) rfl)) rfl
theorem kS_X12_hangs : Cond.selects RX12 yX12_hangs yX12_hangs ∈ g_ws := g_wm (List.mem_append_left _ (List.mem_of_getElem? (i := 37) rfl)) rfl
theorem kS_X12_isHanging : Cond.selects RX12 yX12_isHanging yX12_isHanging ∈ g_ws := g_wm (List.mem_append_left _ (List.mem_of_getElem? (i := 38) rfl)) rfl
theorem kS_X12_counts : Cond.selects RX12 yX12_counts yX12_counts ∈ g_ws := g_wm (List.mem_append_left _ (List.mem_of_getElem? (i := 39) rfl)) rfl
theorem kS_X12_hang : Cond.selects RX12 yX12_hang yX12_hang ∈ g_ws := g_wm (List.mem_append_left _ (List.mem_of_getElem? (i := 40) rfl)) rfl
theorem kS_X12_keysOf : Cond.selects RX12 yX12_keysOf yX12_keysOf ∈ g_ws := g_wm (List.mem_append_left _ (List.mem_of_getElem? (i := 41) rfl)) rfl
theorem kS_X12_opensBy : Cond.selects RX12 yX12_opensBy yX12_opensBy ∈ g_ws := g_wm (List.mem_append_left _ (List.mem_of_getElem? (i := 42) rfl)) rfl
theorem kS_X12_comesOf : Cond.selects RX12 yX12_comesOf yX12_comesOf ∈ g_ws := g_wm (List.mem_append_left _ (List.mem_of_getElem? (i := 43) rfl)) rfl
theorem kS_X12_opensWith : Cond.selects RX12 yX12_opensWith yX12_opensWith ∈ g_ws := g_wm (List.mem_append_left _ (List.mem_of_getElem? (i := 44) rfl)) rfl
theorem kS_X12_byHanging : Cond.selects RX12 yX12_byHanging yX12_byHanging ∈ g_ws := g_wm (List.mem_append_left _ (List.mem_of_getElem? (i := 45) rfl)) rfl
theorem kS_X12_findOpens : Cond.selects RX12 yX12_findOpens yX12_findOpens ∈ g_ws := g_wm (List.mem_append_left _ (List.mem_of_getElem? (i := 46) rfl)) rfl
theorem kS_X12_unlike : Cond.selects RX12 yX12_unlike yX12_unlike ∈ g_ws := g_wm (List.mem_append_left _ (List.mem_of_getElem? (i := 47) rfl)) rfl
theorem kS_X12_isPart : Cond.selects RX12 yX12_isPart yX12_isPart ∈ g_ws := g_wm (List.mem_append_left _ (List.mem_of_getElem? (i := 48) rfl)) rfl
theorem kS_X12_keepOther : Cond.selects RX12 yX12_keepOther yX12_keepOther ∈ g_ws := g_wm (List.mem_append_left _ (List.mem_of_getElem? (i := 49) rfl)) rfl
theorem kS_X12_isAsOther : Cond.selects RX12 yX12_isAsOther yX12_isAsOther ∈ g_ws := g_wm (List.mem_append_left _ (List.mem_of_getElem? (i := 50) rfl)) rfl
theorem kS_X12_adds : Cond.selects RX12 yX12_adds yX12_adds ∈ g_ws := g_wm (List.mem_append_left _ (List.mem_of_getElem? (i := 51) rfl)) rfl
theorem kS_X12_sizeOf : Cond.selects RX12 yX12_sizeOf yX12_sizeOf ∈ g_ws := g_wm (List.mem_append_left _ (List.mem_of_getElem? (i := 52) rfl)) rfl
theorem kS_X12_isSpare : Cond.selects RX12 yX12_isSpare yX12_isSpare ∈ g_ws := g_wm (List.mem_append_left _ (List.mem_of_getElem? (i := 53) rfl)) rfl
theorem kS_X12_has : Cond.selects RX12 yX12_has yX12_has ∈ g_ws := g_wm (List.mem_append_left _ (List.mem_of_getElem? (i := 54) rfl)) rfl
theorem kX_X10_27 : Cond.methodLink RX10 27 arraycopyName ∈ g_ws := g_wm (tb3 _ (List.mem_of_getElem? (i := 71) rfl)) rfl
theorem kX_X11_333 : Cond.methodLink RX11 333 arraycopyName ∈ g_ws := g_wm (tb4 _ (List.mem_of_getElem? (i := 229) rfl)) rfl
theorem kX_X0_53 : Cond.methodLink RX0 53 arraycopyName ∈ g_ws := g_wm (tb4 _ (List.mem_of_getElem? (i := 238) rfl)) rfl
theorem kX_nat : Cond.native arraycopyName ∈ g_ws := g_wm (tb3 _ (List.mem_of_getElem? (i := 73) rfl)) rfl
theorem kX_stat : Cond.static arraycopyName ∈ g_ws := g_wm (tb3 _ (List.mem_of_getElem? (i := 72) rfl)) rfl
theorem kX_ini : Cond.initialized "java/lang/System" ∈ g_ws := g_wm (tb1 _ (List.mem_of_getElem? (i := 20) rfl)) rfl
theorem kP_X0 : plainName RX0 = true := by decide +kernel
theorem kP_X1 : plainName RX1 = true := by decide +kernel
theorem kP_X2 : plainName RX2 = true := by decide +kernel
theorem kP_X3 : plainName RX3 = true := by decide +kernel
theorem kP_X4 : plainName RX4 = true := by decide +kernel
theorem kP_X5 : plainName RX5 = true := by decide +kernel
theorem kP_X6 : plainName RX6 = true := by decide +kernel
theorem kP_X7 : plainName RX7 = true := by decide +kernel
theorem kP_X8 : plainName RX8 = true := by decide +kernel
theorem kP_X9 : plainName RX9 = true := by decide +kernel
theorem kP_X10 : plainName RX10 = true := by decide +kernel
theorem kP_X11 : plainName RX11 = true := by decide +kernel
theorem kP_X12 : plainName RX12 = true := by decide +kernel
theorem kP_J6 : plainName RJ6 = true := by decide +kernel
theorem kP_J0 : plainName RJ0 = true := by decide +kernel
theorem kP_J1 : plainName RJ1 = true := by decide +kernel
theorem kP_J2 : plainName RJ2 = true := by decide +kernel
theorem kP_J10 : plainName RJ10 = true := by decide +kernel
theorem kP_J7 : plainName RJ7 = true := by decide +kernel
theorem kP_J3 : plainName RJ3 = true := by decide +kernel
theorem kD_X0_init : yX0_init.cls ≠ "java/lang/invoke/MethodHandle" ∧ yX0_init.cls ≠ "java/lang/invoke/VarHandle" ∧ (parseMethodDescriptor yX0_init.desc).map (fun d => d.parameters.length) = some 0 := by decide +kernel
theorem kD_X0_has : yX0_has.cls ≠ "java/lang/invoke/MethodHandle" ∧ yX0_has.cls ≠ "java/lang/invoke/VarHandle" ∧ (parseMethodDescriptor yX0_has.desc).map (fun d => d.parameters.length) = some 1 := by decide +kernel
theorem kD_X0_hasSet : yX0_hasSet.cls ≠ "java/lang/invoke/MethodHandle" ∧ yX0_hasSet.cls ≠ "java/lang/invoke/VarHandle" ∧ (parseMethodDescriptor yX0_hasSet.desc).map (fun d => d.parameters.length) = some 1 := by decide +kernel
theorem kD_X0_hasKey : yX0_hasKey.cls ≠ "java/lang/invoke/MethodHandle" ∧ yX0_hasKey.cls ≠ "java/lang/invoke/VarHandle" ∧ (parseMethodDescriptor yX0_hasKey.desc).map (fun d => d.parameters.length) = some 2 := by decide +kernel
theorem kD_X0_present : yX0_present.cls ≠ "java/lang/invoke/MethodHandle" ∧ yX0_present.cls ≠ "java/lang/invoke/VarHandle" ∧ (parseMethodDescriptor yX0_present.desc).map (fun d => d.parameters.length) = some 0 := by decide +kernel
theorem kD_X0_add : yX0_add.cls ≠ "java/lang/invoke/MethodHandle" ∧ yX0_add.cls ≠ "java/lang/invoke/VarHandle" ∧ (parseMethodDescriptor yX0_add.desc).map (fun d => d.parameters.length) = some 1 := by decide +kernel
theorem kD_X0_setGone : yX0_setGone.cls ≠ "java/lang/invoke/MethodHandle" ∧ yX0_setGone.cls ≠ "java/lang/invoke/VarHandle" ∧ (parseMethodDescriptor yX0_setGone.desc).map (fun d => d.parameters.length) = some 2 := by decide +kernel
theorem kD_X0_setKey : yX0_setKey.cls ≠ "java/lang/invoke/MethodHandle" ∧ yX0_setKey.cls ≠ "java/lang/invoke/VarHandle" ∧ (parseMethodDescriptor yX0_setKey.desc).map (fun d => d.parameters.length) = some 3 := by decide +kernel
theorem kD_X0_giveKey : yX0_giveKey.cls ≠ "java/lang/invoke/MethodHandle" ∧ yX0_giveKey.cls ≠ "java/lang/invoke/VarHandle" ∧ (parseMethodDescriptor yX0_giveKey.desc).map (fun d => d.parameters.length) = some 2 := by decide +kernel
theorem kD_X0_emptyRings : yX0_emptyRings.cls ≠ "java/lang/invoke/MethodHandle" ∧ yX0_emptyRings.cls ≠ "java/lang/invoke/VarHandle" ∧ (parseMethodDescriptor yX0_emptyRings.desc).map (fun d => d.parameters.length) = some 0 := by decide +kernel
theorem kD_X0_addLend : yX0_addLend.cls ≠ "java/lang/invoke/MethodHandle" ∧ yX0_addLend.cls ≠ "java/lang/invoke/VarHandle" ∧ (parseMethodDescriptor yX0_addLend.desc).map (fun d => d.parameters.length) = some 2 := by decide +kernel
theorem kD_X0_weightOf : yX0_weightOf.cls ≠ "java/lang/invoke/MethodHandle" ∧ yX0_weightOf.cls ≠ "java/lang/invoke/VarHandle" ∧ (parseMethodDescriptor yX0_weightOf.desc).map (fun d => d.parameters.length) = some 1 := by decide +kernel
theorem kD_X0_keysOf : yX0_keysOf.cls ≠ "java/lang/invoke/MethodHandle" ∧ yX0_keysOf.cls ≠ "java/lang/invoke/VarHandle" ∧ (parseMethodDescriptor yX0_keysOf.desc).map (fun d => d.parameters.length) = some 1 := by decide +kernel
theorem kD_X0_heaviest : yX0_heaviest.cls ≠ "java/lang/invoke/MethodHandle" ∧ yX0_heaviest.cls ≠ "java/lang/invoke/VarHandle" ∧ (parseMethodDescriptor yX0_heaviest.desc).map (fun d => d.parameters.length) = some 0 := by decide +kernel
theorem kD_X0_keysTogether : yX0_keysTogether.cls ≠ "java/lang/invoke/MethodHandle" ∧ yX0_keysTogether.cls ≠ "java/lang/invoke/VarHandle" ∧ (parseMethodDescriptor yX0_keysTogether.desc).map (fun d => d.parameters.length) = some 0 := by decide +kernel
theorem kD_X0_takeFrom : yX0_takeFrom.cls ≠ "java/lang/invoke/MethodHandle" ∧ yX0_takeFrom.cls ≠ "java/lang/invoke/VarHandle" ∧ (parseMethodDescriptor yX0_takeFrom.desc).map (fun d => d.parameters.length) = some 1 := by decide +kernel
theorem kD_X1_init : yX1_init.cls ≠ "java/lang/invoke/MethodHandle" ∧ yX1_init.cls ≠ "java/lang/invoke/VarHandle" ∧ (parseMethodDescriptor yX1_init.desc).map (fun d => d.parameters.length) = some 0 := by decide +kernel
theorem kD_X1_firstFall : yX1_firstFall.cls ≠ "java/lang/invoke/MethodHandle" ∧ yX1_firstFall.cls ≠ "java/lang/invoke/VarHandle" ∧ (parseMethodDescriptor yX1_firstFall.desc).map (fun d => d.parameters.length) = some 0 := by decide +kernel
theorem kD_X1_truth : yX1_truth.cls ≠ "java/lang/invoke/MethodHandle" ∧ yX1_truth.cls ≠ "java/lang/invoke/VarHandle" ∧ (parseMethodDescriptor yX1_truth.desc).map (fun d => d.parameters.length) = some 0 := by decide +kernel
theorem kD_X2_init : yX2_init.cls ≠ "java/lang/invoke/MethodHandle" ∧ yX2_init.cls ≠ "java/lang/invoke/VarHandle" ∧ (parseMethodDescriptor yX2_init.desc).map (fun d => d.parameters.length) = some 0 := by decide +kernel
theorem kD_X2_tell : yX2_tell.cls ≠ "java/lang/invoke/MethodHandle" ∧ yX2_tell.cls ≠ "java/lang/invoke/VarHandle" ∧ (parseMethodDescriptor yX2_tell.desc).map (fun d => d.parameters.length) = some 1 := by decide +kernel
theorem kD_X3_init : yX3_init.cls ≠ "java/lang/invoke/MethodHandle" ∧ yX3_init.cls ≠ "java/lang/invoke/VarHandle" ∧ (parseMethodDescriptor yX3_init.desc).map (fun d => d.parameters.length) = some 0 := by decide +kernel
theorem kD_X3_locksFor : yX3_locksFor.cls ≠ "java/lang/invoke/MethodHandle" ∧ yX3_locksFor.cls ≠ "java/lang/invoke/VarHandle" ∧ (parseMethodDescriptor yX3_locksFor.desc).map (fun d => d.parameters.length) = some 1 := by decide +kernel
theorem kD_X3_hangAll : yX3_hangAll.cls ≠ "java/lang/invoke/MethodHandle" ∧ yX3_hangAll.cls ≠ "java/lang/invoke/VarHandle" ∧ (parseMethodDescriptor yX3_hangAll.desc).map (fun d => d.parameters.length) = some 1 := by decide +kernel
theorem kD_X3_joinAll : yX3_joinAll.cls ≠ "java/lang/invoke/MethodHandle" ∧ yX3_joinAll.cls ≠ "java/lang/invoke/VarHandle" ∧ (parseMethodDescriptor yX3_joinAll.desc).map (fun d => d.parameters.length) = some 2 := by decide +kernel
theorem kD_X3_addTruth : yX3_addTruth.cls ≠ "java/lang/invoke/MethodHandle" ∧ yX3_addTruth.cls ≠ "java/lang/invoke/VarHandle" ∧ (parseMethodDescriptor yX3_addTruth.desc).map (fun d => d.parameters.length) = some 1 := by decide +kernel
theorem kD_X4_init : yX4_init.cls ≠ "java/lang/invoke/MethodHandle" ∧ yX4_init.cls ≠ "java/lang/invoke/VarHandle" ∧ (parseMethodDescriptor yX4_init.desc).map (fun d => d.parameters.length) = some 0 := by decide +kernel
theorem kD_X4_has : yX4_has.cls ≠ "java/lang/invoke/MethodHandle" ∧ yX4_has.cls ≠ "java/lang/invoke/VarHandle" ∧ (parseMethodDescriptor yX4_has.desc).map (fun d => d.parameters.length) = some 1 := by decide +kernel
theorem kD_X4_hasRoomFor : yX4_hasRoomFor.cls ≠ "java/lang/invoke/MethodHandle" ∧ yX4_hasRoomFor.cls ≠ "java/lang/invoke/VarHandle" ∧ (parseMethodDescriptor yX4_hasRoomFor.desc).map (fun d => d.parameters.length) = some 1 := by decide +kernel
theorem kD_X4_isOf : yX4_isOf.cls ≠ "java/lang/invoke/MethodHandle" ∧ yX4_isOf.cls ≠ "java/lang/invoke/VarHandle" ∧ (parseMethodDescriptor yX4_isOf.desc).map (fun d => d.parameters.length) = some 2 := by decide +kernel
theorem kD_X4_addLock : yX4_addLock.cls ≠ "java/lang/invoke/MethodHandle" ∧ yX4_addLock.cls ≠ "java/lang/invoke/VarHandle" ∧ (parseMethodDescriptor yX4_addLock.desc).map (fun d => d.parameters.length) = some 2 := by decide +kernel
theorem kD_X4_addChain : yX4_addChain.cls ≠ "java/lang/invoke/MethodHandle" ∧ yX4_addChain.cls ≠ "java/lang/invoke/VarHandle" ∧ (parseMethodDescriptor yX4_addChain.desc).map (fun d => d.parameters.length) = some 3 := by decide +kernel
theorem kD_X4_addBox : yX4_addBox.cls ≠ "java/lang/invoke/MethodHandle" ∧ yX4_addBox.cls ≠ "java/lang/invoke/VarHandle" ∧ (parseMethodDescriptor yX4_addBox.desc).map (fun d => d.parameters.length) = some 2 := by decide +kernel
theorem kD_X4_add : yX4_add.cls ≠ "java/lang/invoke/MethodHandle" ∧ yX4_add.cls ≠ "java/lang/invoke/VarHandle" ∧ (parseMethodDescriptor yX4_add.desc).map (fun d => d.parameters.length) = some 6 := by decide +kernel
theorem kD_X4_openersOf : yX4_openersOf.cls ≠ "java/lang/invoke/MethodHandle" ∧ yX4_openersOf.cls ≠ "java/lang/invoke/VarHandle" ∧ (parseMethodDescriptor yX4_openersOf.desc).map (fun d => d.parameters.length) = some 2 := by decide +kernel
theorem kD_X4_keysOfLocks : yX4_keysOfLocks.cls ≠ "java/lang/invoke/MethodHandle" ∧ yX4_keysOfLocks.cls ≠ "java/lang/invoke/VarHandle" ∧ (parseMethodDescriptor yX4_keysOfLocks.desc).map (fun d => d.parameters.length) = some 0 := by decide +kernel
theorem kD_X4_openWith : yX4_openWith.cls ≠ "java/lang/invoke/MethodHandle" ∧ yX4_openWith.cls ≠ "java/lang/invoke/VarHandle" ∧ (parseMethodDescriptor yX4_openWith.desc).map (fun d => d.parameters.length) = some 1 := by decide +kernel
theorem kD_X4_opensWith : yX4_opensWith.cls ≠ "java/lang/invoke/MethodHandle" ∧ yX4_opensWith.cls ≠ "java/lang/invoke/VarHandle" ∧ (parseMethodDescriptor yX4_opensWith.desc).map (fun d => d.parameters.length) = some 3 := by decide +kernel
theorem kD_X4_keysInBoxes : yX4_keysInBoxes.cls ≠ "java/lang/invoke/MethodHandle" ∧ yX4_keysInBoxes.cls ≠ "java/lang/invoke/VarHandle" ∧ (parseMethodDescriptor yX4_keysInBoxes.desc).map (fun d => d.parameters.length) = some 1 := by decide +kernel
theorem kD_X4_openInTheEnd : yX4_openInTheEnd.cls ≠ "java/lang/invoke/MethodHandle" ∧ yX4_openInTheEnd.cls ≠ "java/lang/invoke/VarHandle" ∧ (parseMethodDescriptor yX4_openInTheEnd.desc).map (fun d => d.parameters.length) = some 1 := by decide +kernel
theorem kD_X4_isOpenInTheEnd : yX4_isOpenInTheEnd.cls ≠ "java/lang/invoke/MethodHandle" ∧ yX4_isOpenInTheEnd.cls ≠ "java/lang/invoke/VarHandle" ∧ (parseMethodDescriptor yX4_isOpenInTheEnd.desc).map (fun d => d.parameters.length) = some 2 := by decide +kernel
theorem kD_X4_keysInTheEnd : yX4_keysInTheEnd.cls ≠ "java/lang/invoke/MethodHandle" ∧ yX4_keysInTheEnd.cls ≠ "java/lang/invoke/VarHandle" ∧ (parseMethodDescriptor yX4_keysInTheEnd.desc).map (fun d => d.parameters.length) = some 1 := by decide +kernel
theorem kD_X4_roundOf : yX4_roundOf.cls ≠ "java/lang/invoke/MethodHandle" ∧ yX4_roundOf.cls ≠ "java/lang/invoke/VarHandle" ∧ (parseMethodDescriptor yX4_roundOf.desc).map (fun d => d.parameters.length) = some 2 := by decide +kernel
theorem kD_X4_goBack : yX4_goBack.cls ≠ "java/lang/invoke/MethodHandle" ∧ yX4_goBack.cls ≠ "java/lang/invoke/VarHandle" ∧ (parseMethodDescriptor yX4_goBack.desc).map (fun d => d.parameters.length) = some 1 := by decide +kernel
theorem kD_X5_init : yX5_init.cls ≠ "java/lang/invoke/MethodHandle" ∧ yX5_init.cls ≠ "java/lang/invoke/VarHandle" ∧ (parseMethodDescriptor yX5_init.desc).map (fun d => d.parameters.length) = some 0 := by decide +kernel
theorem kD_X5_refresh : yX5_refresh.cls ≠ "java/lang/invoke/MethodHandle" ∧ yX5_refresh.cls ≠ "java/lang/invoke/VarHandle" ∧ (parseMethodDescriptor yX5_refresh.desc).map (fun d => d.parameters.length) = some 2 := by decide +kernel
theorem kD_X5_fill : yX5_fill.cls ≠ "java/lang/invoke/MethodHandle" ∧ yX5_fill.cls ≠ "java/lang/invoke/VarHandle" ∧ (parseMethodDescriptor yX5_fill.desc).map (fun d => d.parameters.length) = some 3 := by decide +kernel
theorem kD_X5_isOpen : yX5_isOpen.cls ≠ "java/lang/invoke/MethodHandle" ∧ yX5_isOpen.cls ≠ "java/lang/invoke/VarHandle" ∧ (parseMethodDescriptor yX5_isOpen.desc).map (fun d => d.parameters.length) = some 2 := by decide +kernel
theorem kD_X6_init : yX6_init.cls ≠ "java/lang/invoke/MethodHandle" ∧ yX6_init.cls ≠ "java/lang/invoke/VarHandle" ∧ (parseMethodDescriptor yX6_init.desc).map (fun d => d.parameters.length) = some 0 := by decide +kernel
theorem kD_X6_findLeast : yX6_findLeast.cls ≠ "java/lang/invoke/MethodHandle" ∧ yX6_findLeast.cls ≠ "java/lang/invoke/VarHandle" ∧ (parseMethodDescriptor yX6_findLeast.desc).map (fun d => d.parameters.length) = some 1 := by decide +kernel
theorem kD_X6_findMost : yX6_findMost.cls ≠ "java/lang/invoke/MethodHandle" ∧ yX6_findMost.cls ≠ "java/lang/invoke/VarHandle" ∧ (parseMethodDescriptor yX6_findMost.desc).map (fun d => d.parameters.length) = some 1 := by decide +kernel
theorem kD_X6_add : yX6_add.cls ≠ "java/lang/invoke/MethodHandle" ∧ yX6_add.cls ≠ "java/lang/invoke/VarHandle" ∧ (parseMethodDescriptor yX6_add.desc).map (fun d => d.parameters.length) = some 1 := by decide +kernel
theorem kD_X6_turn : yX6_turn.cls ≠ "java/lang/invoke/MethodHandle" ∧ yX6_turn.cls ≠ "java/lang/invoke/VarHandle" ∧ (parseMethodDescriptor yX6_turn.desc).map (fun d => d.parameters.length) = some 0 := by decide +kernel
theorem kD_X7_init : yX7_init.cls ≠ "java/lang/invoke/MethodHandle" ∧ yX7_init.cls ≠ "java/lang/invoke/VarHandle" ∧ (parseMethodDescriptor yX7_init.desc).map (fun d => d.parameters.length) = some 0 := by decide +kernel
theorem kD_X7_isMissing : yX7_isMissing.cls ≠ "java/lang/invoke/MethodHandle" ∧ yX7_isMissing.cls ≠ "java/lang/invoke/VarHandle" ∧ (parseMethodDescriptor yX7_isMissing.desc).map (fun d => d.parameters.length) = some 0 := by decide +kernel
theorem kD_X7_clear : yX7_clear.cls ≠ "java/lang/invoke/MethodHandle" ∧ yX7_clear.cls ≠ "java/lang/invoke/VarHandle" ∧ (parseMethodDescriptor yX7_clear.desc).map (fun d => d.parameters.length) = some 2 := by decide +kernel
theorem kD_X7_change : yX7_change.cls ≠ "java/lang/invoke/MethodHandle" ∧ yX7_change.cls ≠ "java/lang/invoke/VarHandle" ∧ (parseMethodDescriptor yX7_change.desc).map (fun d => d.parameters.length) = some 2 := by decide +kernel
theorem kD_X7_hasFrom : yX7_hasFrom.cls ≠ "java/lang/invoke/MethodHandle" ∧ yX7_hasFrom.cls ≠ "java/lang/invoke/VarHandle" ∧ (parseMethodDescriptor yX7_hasFrom.desc).map (fun d => d.parameters.length) = some 2 := by decide +kernel
theorem kD_X7_rightOnes : yX7_rightOnes.cls ≠ "java/lang/invoke/MethodHandle" ∧ yX7_rightOnes.cls ≠ "java/lang/invoke/VarHandle" ∧ (parseMethodDescriptor yX7_rightOnes.desc).map (fun d => d.parameters.length) = some 1 := by decide +kernel
theorem kD_X8_init : yX8_init.cls ≠ "java/lang/invoke/MethodHandle" ∧ yX8_init.cls ≠ "java/lang/invoke/VarHandle" ∧ (parseMethodDescriptor yX8_init.desc).map (fun d => d.parameters.length) = some 0 := by decide +kernel
theorem kD_X8_add : yX8_add.cls ≠ "java/lang/invoke/MethodHandle" ∧ yX8_add.cls ≠ "java/lang/invoke/VarHandle" ∧ (parseMethodDescriptor yX8_add.desc).map (fun d => d.parameters.length) = some 2 := by decide +kernel
theorem kD_X8_clear : yX8_clear.cls ≠ "java/lang/invoke/MethodHandle" ∧ yX8_clear.cls ≠ "java/lang/invoke/VarHandle" ∧ (parseMethodDescriptor yX8_clear.desc).map (fun d => d.parameters.length) = some 0 := by decide +kernel
theorem kD_X9_init : yX9_init.cls ≠ "java/lang/invoke/MethodHandle" ∧ yX9_init.cls ≠ "java/lang/invoke/VarHandle" ∧ (parseMethodDescriptor yX9_init.desc).map (fun d => d.parameters.length) = some 0 := by decide +kernel
theorem kD_X9_readTape : yX9_readTape.cls ≠ "java/lang/invoke/MethodHandle" ∧ yX9_readTape.cls ≠ "java/lang/invoke/VarHandle" ∧ (parseMethodDescriptor yX9_readTape.desc).map (fun d => d.parameters.length) = some 0 := by decide +kernel
theorem kD_X9_readEither : yX9_readEither.cls ≠ "java/lang/invoke/MethodHandle" ∧ yX9_readEither.cls ≠ "java/lang/invoke/VarHandle" ∧ (parseMethodDescriptor yX9_readEither.desc).map (fun d => d.parameters.length) = some 1 := by decide +kernel
theorem kD_X9_readBoth : yX9_readBoth.cls ≠ "java/lang/invoke/MethodHandle" ∧ yX9_readBoth.cls ≠ "java/lang/invoke/VarHandle" ∧ (parseMethodDescriptor yX9_readBoth.desc).map (fun d => d.parameters.length) = some 1 := by decide +kernel
theorem kD_X9_readNot : yX9_readNot.cls ≠ "java/lang/invoke/MethodHandle" ∧ yX9_readNot.cls ≠ "java/lang/invoke/VarHandle" ∧ (parseMethodDescriptor yX9_readNot.desc).map (fun d => d.parameters.length) = some 1 := by decide +kernel
theorem kD_X9_readOne : yX9_readOne.cls ≠ "java/lang/invoke/MethodHandle" ∧ yX9_readOne.cls ≠ "java/lang/invoke/VarHandle" ∧ (parseMethodDescriptor yX9_readOne.desc).map (fun d => d.parameters.length) = some 1 := by decide +kernel
theorem kD_X9_readPart : yX9_readPart.cls ≠ "java/lang/invoke/MethodHandle" ∧ yX9_readPart.cls ≠ "java/lang/invoke/VarHandle" ∧ (parseMethodDescriptor yX9_readPart.desc).map (fun d => d.parameters.length) = some 0 := by decide +kernel
theorem kD_X9_pass : yX9_pass.cls ≠ "java/lang/invoke/MethodHandle" ∧ yX9_pass.cls ≠ "java/lang/invoke/VarHandle" ∧ (parseMethodDescriptor yX9_pass.desc).map (fun d => d.parameters.length) = some 1 := by decide +kernel
theorem kD_X9_emit : yX9_emit.cls ≠ "java/lang/invoke/MethodHandle" ∧ yX9_emit.cls ≠ "java/lang/invoke/VarHandle" ∧ (parseMethodDescriptor yX9_emit.desc).map (fun d => d.parameters.length) = some 3 := by decide +kernel
theorem kD_X9_findTokens : yX9_findTokens.cls ≠ "java/lang/invoke/MethodHandle" ∧ yX9_findTokens.cls ≠ "java/lang/invoke/VarHandle" ∧ (parseMethodDescriptor yX9_findTokens.desc).map (fun d => d.parameters.length) = some 0 := by decide +kernel
theorem kD_X9_endOf : yX9_endOf.cls ≠ "java/lang/invoke/MethodHandle" ∧ yX9_endOf.cls ≠ "java/lang/invoke/VarHandle" ∧ (parseMethodDescriptor yX9_endOf.desc).map (fun d => d.parameters.length) = some 1 := by decide +kernel
theorem kD_X9_tokenOf : yX9_tokenOf.cls ≠ "java/lang/invoke/MethodHandle" ∧ yX9_tokenOf.cls ≠ "java/lang/invoke/VarHandle" ∧ (parseMethodDescriptor yX9_tokenOf.desc).map (fun d => d.parameters.length) = some 2 := by decide +kernel
theorem kD_X9_isLetter : yX9_isLetter.cls ≠ "java/lang/invoke/MethodHandle" ∧ yX9_isLetter.cls ≠ "java/lang/invoke/VarHandle" ∧ (parseMethodDescriptor yX9_isLetter.desc).map (fun d => d.parameters.length) = some 1 := by decide +kernel
theorem kD_X9_isDigit : yX9_isDigit.cls ≠ "java/lang/invoke/MethodHandle" ∧ yX9_isDigit.cls ≠ "java/lang/invoke/VarHandle" ∧ (parseMethodDescriptor yX9_isDigit.desc).map (fun d => d.parameters.length) = some 1 := by decide +kernel
theorem kD_X9_numberOf : yX9_numberOf.cls ≠ "java/lang/invoke/MethodHandle" ∧ yX9_numberOf.cls ≠ "java/lang/invoke/VarHandle" ∧ (parseMethodDescriptor yX9_numberOf.desc).map (fun d => d.parameters.length) = some 2 := by decide +kernel
theorem kD_X9_signToken : yX9_signToken.cls ≠ "java/lang/invoke/MethodHandle" ∧ yX9_signToken.cls ≠ "java/lang/invoke/VarHandle" ∧ (parseMethodDescriptor yX9_signToken.desc).map (fun d => d.parameters.length) = some 1 := by decide +kernel
theorem kD_X9_wordToken : yX9_wordToken.cls ≠ "java/lang/invoke/MethodHandle" ∧ yX9_wordToken.cls ≠ "java/lang/invoke/VarHandle" ∧ (parseMethodDescriptor yX9_wordToken.desc).map (fun d => d.parameters.length) = some 2 := by decide +kernel
theorem kD_X9_spells : yX9_spells.cls ≠ "java/lang/invoke/MethodHandle" ∧ yX9_spells.cls ≠ "java/lang/invoke/VarHandle" ∧ (parseMethodDescriptor yX9_spells.desc).map (fun d => d.parameters.length) = some 3 := by decide +kernel
theorem kD_X10_init : yX10_init.cls ≠ "java/lang/invoke/MethodHandle" ∧ yX10_init.cls ≠ "java/lang/invoke/VarHandle" ∧ (parseMethodDescriptor yX10_init.desc).map (fun d => d.parameters.length) = some 0 := by decide +kernel
theorem kD_X10_step : yX10_step.cls ≠ "java/lang/invoke/MethodHandle" ∧ yX10_step.cls ≠ "java/lang/invoke/VarHandle" ∧ (parseMethodDescriptor yX10_step.desc).map (fun d => d.parameters.length) = some 3 := by decide +kernel
theorem kD_X10_has : yX10_has.cls ≠ "java/lang/invoke/MethodHandle" ∧ yX10_has.cls ≠ "java/lang/invoke/VarHandle" ∧ (parseMethodDescriptor yX10_has.desc).map (fun d => d.parameters.length) = some 1 := by decide +kernel
theorem kD_X10_add : yX10_add.cls ≠ "java/lang/invoke/MethodHandle" ∧ yX10_add.cls ≠ "java/lang/invoke/VarHandle" ∧ (parseMethodDescriptor yX10_add.desc).map (fun d => d.parameters.length) = some 2 := by decide +kernel
theorem kD_X10_setUsed : yX10_setUsed.cls ≠ "java/lang/invoke/MethodHandle" ∧ yX10_setUsed.cls ≠ "java/lang/invoke/VarHandle" ∧ (parseMethodDescriptor yX10_setUsed.desc).map (fun d => d.parameters.length) = some 1 := by decide +kernel
theorem kD_X10_allow : yX10_allow.cls ≠ "java/lang/invoke/MethodHandle" ∧ yX10_allow.cls ≠ "java/lang/invoke/VarHandle" ∧ (parseMethodDescriptor yX10_allow.desc).map (fun d => d.parameters.length) = some 3 := by decide +kernel
theorem kD_X10_partHolds : yX10_partHolds.cls ≠ "java/lang/invoke/MethodHandle" ∧ yX10_partHolds.cls ≠ "java/lang/invoke/VarHandle" ∧ (parseMethodDescriptor yX10_partHolds.desc).map (fun d => d.parameters.length) = some 4 := by decide +kernel
theorem kD_X10_goBack : yX10_goBack.cls ≠ "java/lang/invoke/MethodHandle" ∧ yX10_goBack.cls ≠ "java/lang/invoke/VarHandle" ∧ (parseMethodDescriptor yX10_goBack.desc).map (fun d => d.parameters.length) = some 2 := by decide +kernel
theorem kD_X11_init : yX11_init.cls ≠ "java/lang/invoke/MethodHandle" ∧ yX11_init.cls ≠ "java/lang/invoke/VarHandle" ∧ (parseMethodDescriptor yX11_init.desc).map (fun d => d.parameters.length) = some 0 := by decide +kernel
theorem kD_X11_elder : yX11_elder.cls ≠ "java/lang/invoke/MethodHandle" ∧ yX11_elder.cls ≠ "java/lang/invoke/VarHandle" ∧ (parseMethodDescriptor yX11_elder.desc).map (fun d => d.parameters.length) = some 1 := by decide +kernel
theorem kD_X11_of : yX11_of.cls ≠ "java/lang/invoke/MethodHandle" ∧ yX11_of.cls ≠ "java/lang/invoke/VarHandle" ∧ (parseMethodDescriptor yX11_of.desc).map (fun d => d.parameters.length) = some 2 := by decide +kernel
theorem kD_X11_gone : yX11_gone.cls ≠ "java/lang/invoke/MethodHandle" ∧ yX11_gone.cls ≠ "java/lang/invoke/VarHandle" ∧ (parseMethodDescriptor yX11_gone.desc).map (fun d => d.parameters.length) = some 2 := by decide +kernel
theorem kD_X11_feed : yX11_feed.cls ≠ "java/lang/invoke/MethodHandle" ∧ yX11_feed.cls ≠ "java/lang/invoke/VarHandle" ∧ (parseMethodDescriptor yX11_feed.desc).map (fun d => d.parameters.length) = some 2 := by decide +kernel
theorem kD_X11_wipe : yX11_wipe.cls ≠ "java/lang/invoke/MethodHandle" ∧ yX11_wipe.cls ≠ "java/lang/invoke/VarHandle" ∧ (parseMethodDescriptor yX11_wipe.desc).map (fun d => d.parameters.length) = some 0 := by decide +kernel
theorem kD_X11_text : yX11_text.cls ≠ "java/lang/invoke/MethodHandle" ∧ yX11_text.cls ≠ "java/lang/invoke/VarHandle" ∧ (parseMethodDescriptor yX11_text.desc).map (fun d => d.parameters.length) = some 0 := by decide +kernel
theorem kD_X11_use : yX11_use.cls ≠ "java/lang/invoke/MethodHandle" ∧ yX11_use.cls ≠ "java/lang/invoke/VarHandle" ∧ (parseMethodDescriptor yX11_use.desc).map (fun d => d.parameters.length) = some 1 := by decide +kernel
theorem kD_X11_may : yX11_may.cls ≠ "java/lang/invoke/MethodHandle" ∧ yX11_may.cls ≠ "java/lang/invoke/VarHandle" ∧ (parseMethodDescriptor yX11_may.desc).map (fun d => d.parameters.length) = some 2 := by decide +kernel
theorem kD_X11_more : yX11_more.cls ≠ "java/lang/invoke/MethodHandle" ∧ yX11_more.cls ≠ "java/lang/invoke/VarHandle" ∧ (parseMethodDescriptor yX11_more.desc).map (fun d => d.parameters.length) = some 0 := by decide +kernel
theorem kD_X11_least : yX11_least.cls ≠ "java/lang/invoke/MethodHandle" ∧ yX11_least.cls ≠ "java/lang/invoke/VarHandle" ∧ (parseMethodDescriptor yX11_least.desc).map (fun d => d.parameters.length) = some 1 := by decide +kernel
theorem kD_X11_most : yX11_most.cls ≠ "java/lang/invoke/MethodHandle" ∧ yX11_most.cls ≠ "java/lang/invoke/VarHandle" ∧ (parseMethodDescriptor yX11_most.desc).map (fun d => d.parameters.length) = some 1 := by decide +kernel
theorem kD_X11_lock : yX11_lock.cls ≠ "java/lang/invoke/MethodHandle" ∧ yX11_lock.cls ≠ "java/lang/invoke/VarHandle" ∧ (parseMethodDescriptor yX11_lock.desc).map (fun d => d.parameters.length) = some 2 := by decide +kernel
theorem kD_X11_chain : yX11_chain.cls ≠ "java/lang/invoke/MethodHandle" ∧ yX11_chain.cls ≠ "java/lang/invoke/VarHandle" ∧ (parseMethodDescriptor yX11_chain.desc).map (fun d => d.parameters.length) = some 3 := by decide +kernel
theorem kD_X11_box : yX11_box.cls ≠ "java/lang/invoke/MethodHandle" ∧ yX11_box.cls ≠ "java/lang/invoke/VarHandle" ∧ (parseMethodDescriptor yX11_box.desc).map (fun d => d.parameters.length) = some 2 := by decide +kernel
theorem kD_X11_hanging : yX11_hanging.cls ≠ "java/lang/invoke/MethodHandle" ∧ yX11_hanging.cls ≠ "java/lang/invoke/VarHandle" ∧ (parseMethodDescriptor yX11_hanging.desc).map (fun d => d.parameters.length) = some 2 := by decide +kernel
theorem kD_X11_as : yX11_as.cls ≠ "java/lang/invoke/MethodHandle" ∧ yX11_as.cls ≠ "java/lang/invoke/VarHandle" ∧ (parseMethodDescriptor yX11_as.desc).map (fun d => d.parameters.length) = some 2 := by decide +kernel
theorem kD_X11_key : yX11_key.cls ≠ "java/lang/invoke/MethodHandle" ∧ yX11_key.cls ≠ "java/lang/invoke/VarHandle" ∧ (parseMethodDescriptor yX11_key.desc).map (fun d => d.parameters.length) = some 3 := by decide +kernel
theorem kD_X11_lend : yX11_lend.cls ≠ "java/lang/invoke/MethodHandle" ∧ yX11_lend.cls ≠ "java/lang/invoke/VarHandle" ∧ (parseMethodDescriptor yX11_lend.desc).map (fun d => d.parameters.length) = some 3 := by decide +kernel
theorem kD_X11_opens : yX11_opens.cls ≠ "java/lang/invoke/MethodHandle" ∧ yX11_opens.cls ≠ "java/lang/invoke/VarHandle" ∧ (parseMethodDescriptor yX11_opens.desc).map (fun d => d.parameters.length) = some 2 := by decide +kernel
theorem kD_X11_had : yX11_had.cls ≠ "java/lang/invoke/MethodHandle" ∧ yX11_had.cls ≠ "java/lang/invoke/VarHandle" ∧ (parseMethodDescriptor yX11_had.desc).map (fun d => d.parameters.length) = some 1 := by decide +kernel
theorem kD_X11_round : yX11_round.cls ≠ "java/lang/invoke/MethodHandle" ∧ yX11_round.cls ≠ "java/lang/invoke/VarHandle" ∧ (parseMethodDescriptor yX11_round.desc).map (fun d => d.parameters.length) = some 2 := by decide +kernel
theorem kD_X11_lets : yX11_lets.cls ≠ "java/lang/invoke/MethodHandle" ∧ yX11_lets.cls ≠ "java/lang/invoke/VarHandle" ∧ (parseMethodDescriptor yX11_lets.desc).map (fun d => d.parameters.length) = some 2 := by decide +kernel
theorem kD_X11_shut : yX11_shut.cls ≠ "java/lang/invoke/MethodHandle" ∧ yX11_shut.cls ≠ "java/lang/invoke/VarHandle" ∧ (parseMethodDescriptor yX11_shut.desc).map (fun d => d.parameters.length) = some 2 := by decide +kernel
theorem kD_X11_wrongly : yX11_wrongly.cls ≠ "java/lang/invoke/MethodHandle" ∧ yX11_wrongly.cls ≠ "java/lang/invoke/VarHandle" ∧ (parseMethodDescriptor yX11_wrongly.desc).map (fun d => d.parameters.length) = some 1 := by decide +kernel
theorem kD_X11_lacks : yX11_lacks.cls ≠ "java/lang/invoke/MethodHandle" ∧ yX11_lacks.cls ≠ "java/lang/invoke/VarHandle" ∧ (parseMethodDescriptor yX11_lacks.desc).map (fun d => d.parameters.length) = some 1 := by decide +kernel
theorem kD_X11_same : yX11_same.cls ≠ "java/lang/invoke/MethodHandle" ∧ yX11_same.cls ≠ "java/lang/invoke/VarHandle" ∧ (parseMethodDescriptor yX11_same.desc).map (fun d => d.parameters.length) = some 2 := by decide +kernel
theorem kD_X11_bears : yX11_bears.cls ≠ "java/lang/invoke/MethodHandle" ∧ yX11_bears.cls ≠ "java/lang/invoke/VarHandle" ∧ (parseMethodDescriptor yX11_bears.desc).map (fun d => d.parameters.length) = some 2 := by decide +kernel
theorem kD_X11_need : yX11_need.cls ≠ "java/lang/invoke/MethodHandle" ∧ yX11_need.cls ≠ "java/lang/invoke/VarHandle" ∧ (parseMethodDescriptor yX11_need.desc).map (fun d => d.parameters.length) = some 2 := by decide +kernel
theorem kD_X11_could : yX11_could.cls ≠ "java/lang/invoke/MethodHandle" ∧ yX11_could.cls ≠ "java/lang/invoke/VarHandle" ∧ (parseMethodDescriptor yX11_could.desc).map (fun d => d.parameters.length) = some 1 := by decide +kernel
theorem kD_X11_build : yX11_build.cls ≠ "java/lang/invoke/MethodHandle" ∧ yX11_build.cls ≠ "java/lang/invoke/VarHandle" ∧ (parseMethodDescriptor yX11_build.desc).map (fun d => d.parameters.length) = some 0 := by decide +kernel
theorem kD_X11_fewest : yX11_fewest.cls ≠ "java/lang/invoke/MethodHandle" ∧ yX11_fewest.cls ≠ "java/lang/invoke/VarHandle" ∧ (parseMethodDescriptor yX11_fewest.desc).map (fun d => d.parameters.length) = some 0 := by decide +kernel
theorem kD_X11_spare : yX11_spare.cls ≠ "java/lang/invoke/MethodHandle" ∧ yX11_spare.cls ≠ "java/lang/invoke/VarHandle" ∧ (parseMethodDescriptor yX11_spare.desc).map (fun d => d.parameters.length) = some 3 := by decide +kernel
theorem kD_X11_thin : yX11_thin.cls ≠ "java/lang/invoke/MethodHandle" ∧ yX11_thin.cls ≠ "java/lang/invoke/VarHandle" ∧ (parseMethodDescriptor yX11_thin.desc).map (fun d => d.parameters.length) = some 1 := by decide +kernel
theorem kD_X11_heavy : yX11_heavy.cls ≠ "java/lang/invoke/MethodHandle" ∧ yX11_heavy.cls ≠ "java/lang/invoke/VarHandle" ∧ (parseMethodDescriptor yX11_heavy.desc).map (fun d => d.parameters.length) = some 1 := by decide +kernel
theorem kD_X11_judge : yX11_judge.cls ≠ "java/lang/invoke/MethodHandle" ∧ yX11_judge.cls ≠ "java/lang/invoke/VarHandle" ∧ (parseMethodDescriptor yX11_judge.desc).map (fun d => d.parameters.length) = some 2 := by decide +kernel
theorem kD_X11_sheet : yX11_sheet.cls ≠ "java/lang/invoke/MethodHandle" ∧ yX11_sheet.cls ≠ "java/lang/invoke/VarHandle" ∧ (parseMethodDescriptor yX11_sheet.desc).map (fun d => d.parameters.length) = some 3 := by decide +kernel
theorem kD_X11_write : yX11_write.cls ≠ "java/lang/invoke/MethodHandle" ∧ yX11_write.cls ≠ "java/lang/invoke/VarHandle" ∧ (parseMethodDescriptor yX11_write.desc).map (fun d => d.parameters.length) = some 3 := by decide +kernel
theorem kD_X11_copy : yX11_copy.cls ≠ "java/lang/invoke/MethodHandle" ∧ yX11_copy.cls ≠ "java/lang/invoke/VarHandle" ∧ (parseMethodDescriptor yX11_copy.desc).map (fun d => d.parameters.length) = some 5 := by decide +kernel
theorem kD_X11_image : yX11_image.cls ≠ "java/lang/invoke/MethodHandle" ∧ yX11_image.cls ≠ "java/lang/invoke/VarHandle" ∧ (parseMethodDescriptor yX11_image.desc).map (fun d => d.parameters.length) = some 0 := by decide +kernel
theorem kD_X11_undo : yX11_undo.cls ≠ "java/lang/invoke/MethodHandle" ∧ yX11_undo.cls ≠ "java/lang/invoke/VarHandle" ∧ (parseMethodDescriptor yX11_undo.desc).map (fun d => d.parameters.length) = some 0 := by decide +kernel
theorem kD_X11_tear : yX11_tear.cls ≠ "java/lang/invoke/MethodHandle" ∧ yX11_tear.cls ≠ "java/lang/invoke/VarHandle" ∧ (parseMethodDescriptor yX11_tear.desc).map (fun d => d.parameters.length) = some 0 := by decide +kernel
theorem kD_X11_look : yX11_look.cls ≠ "java/lang/invoke/MethodHandle" ∧ yX11_look.cls ≠ "java/lang/invoke/VarHandle" ∧ (parseMethodDescriptor yX11_look.desc).map (fun d => d.parameters.length) = some 1 := by decide +kernel
theorem kD_X11_status : yX11_status.cls ≠ "java/lang/invoke/MethodHandle" ∧ yX11_status.cls ≠ "java/lang/invoke/VarHandle" ∧ (parseMethodDescriptor yX11_status.desc).map (fun d => d.parameters.length) = some 1 := by decide +kernel
theorem kD_X11_isKey : yX11_isKey.cls ≠ "java/lang/invoke/MethodHandle" ∧ yX11_isKey.cls ≠ "java/lang/invoke/VarHandle" ∧ (parseMethodDescriptor yX11_isKey.desc).map (fun d => d.parameters.length) = some 1 := by decide +kernel
theorem kD_X11_isSheet : yX11_isSheet.cls ≠ "java/lang/invoke/MethodHandle" ∧ yX11_isSheet.cls ≠ "java/lang/invoke/VarHandle" ∧ (parseMethodDescriptor yX11_isSheet.desc).map (fun d => d.parameters.length) = some 1 := by decide +kernel
theorem kD_X11_allowedSets : yX11_allowedSets.cls ≠ "java/lang/invoke/MethodHandle" ∧ yX11_allowedSets.cls ≠ "java/lang/invoke/VarHandle" ∧ (parseMethodDescriptor yX11_allowedSets.desc).map (fun d => d.parameters.length) = some 0 := by decide +kernel
theorem kD_X11_openingSets : yX11_openingSets.cls ≠ "java/lang/invoke/MethodHandle" ∧ yX11_openingSets.cls ≠ "java/lang/invoke/VarHandle" ∧ (parseMethodDescriptor yX11_openingSets.desc).map (fun d => d.parameters.length) = some 1 := by decide +kernel
theorem kD_X11_listedByText : yX11_listedByText.cls ≠ "java/lang/invoke/MethodHandle" ∧ yX11_listedByText.cls ≠ "java/lang/invoke/VarHandle" ∧ (parseMethodDescriptor yX11_listedByText.desc).map (fun d => d.parameters.length) = some 2 := by decide +kernel
theorem kD_X11_listedByHanging : yX11_listedByHanging.cls ≠ "java/lang/invoke/MethodHandle" ∧ yX11_listedByHanging.cls ≠ "java/lang/invoke/VarHandle" ∧ (parseMethodDescriptor yX11_listedByHanging.desc).map (fun d => d.parameters.length) = some 3 := by decide +kernel
theorem kD_X11_listed : yX11_listed.cls ≠ "java/lang/invoke/MethodHandle" ∧ yX11_listed.cls ≠ "java/lang/invoke/VarHandle" ∧ (parseMethodDescriptor yX11_listed.desc).map (fun d => d.parameters.length) = some 3 := by decide +kernel
theorem kD_X11_firstApart : yX11_firstApart.cls ≠ "java/lang/invoke/MethodHandle" ∧ yX11_firstApart.cls ≠ "java/lang/invoke/VarHandle" ∧ (parseMethodDescriptor yX11_firstApart.desc).map (fun d => d.parameters.length) = some 2 := by decide +kernel
theorem kD_X11_leastBesides : yX11_leastBesides.cls ≠ "java/lang/invoke/MethodHandle" ∧ yX11_leastBesides.cls ≠ "java/lang/invoke/VarHandle" ∧ (parseMethodDescriptor yX11_leastBesides.desc).map (fun d => d.parameters.length) = some 4 := by decide +kernel
theorem kD_X11_hangSideBySide : yX11_hangSideBySide.cls ≠ "java/lang/invoke/MethodHandle" ∧ yX11_hangSideBySide.cls ≠ "java/lang/invoke/VarHandle" ∧ (parseMethodDescriptor yX11_hangSideBySide.desc).map (fun d => d.parameters.length) = some 0 := by decide +kernel
theorem kD_X11_thinRing : yX11_thinRing.cls ≠ "java/lang/invoke/MethodHandle" ∧ yX11_thinRing.cls ≠ "java/lang/invoke/VarHandle" ∧ (parseMethodDescriptor yX11_thinRing.desc).map (fun d => d.parameters.length) = some 2 := by decide +kernel
theorem kD_X11_isSpare : yX11_isSpare.cls ≠ "java/lang/invoke/MethodHandle" ∧ yX11_isSpare.cls ≠ "java/lang/invoke/VarHandle" ∧ (parseMethodDescriptor yX11_isSpare.desc).map (fun d => d.parameters.length) = some 3 := by decide +kernel
theorem kD_X12_init : yX12_init.cls ≠ "java/lang/invoke/MethodHandle" ∧ yX12_init.cls ≠ "java/lang/invoke/VarHandle" ∧ (parseMethodDescriptor yX12_init.desc).map (fun d => d.parameters.length) = some 0 := by decide +kernel
theorem kD_X12_finding : yX12_finding.cls ≠ "java/lang/invoke/MethodHandle" ∧ yX12_finding.cls ≠ "java/lang/invoke/VarHandle" ∧ (parseMethodDescriptor yX12_finding.desc).map (fun d => d.parameters.length) = some 1 := by decide +kernel
theorem kD_X12_in : yX12_in.cls ≠ "java/lang/invoke/MethodHandle" ∧ yX12_in.cls ≠ "java/lang/invoke/VarHandle" ∧ (parseMethodDescriptor yX12_in.desc).map (fun d => d.parameters.length) = some 3 := by decide +kernel
theorem kD_X12_many : yX12_many.cls ≠ "java/lang/invoke/MethodHandle" ∧ yX12_many.cls ≠ "java/lang/invoke/VarHandle" ∧ (parseMethodDescriptor yX12_many.desc).map (fun d => d.parameters.length) = some 1 := by decide +kernel
theorem kD_X12_isElder : yX12_isElder.cls ≠ "java/lang/invoke/MethodHandle" ∧ yX12_isElder.cls ≠ "java/lang/invoke/VarHandle" ∧ (parseMethodDescriptor yX12_isElder.desc).map (fun d => d.parameters.length) = some 1 := by decide +kernel
theorem kD_X12_isHanging : yX12_isHanging.cls ≠ "java/lang/invoke/MethodHandle" ∧ yX12_isHanging.cls ≠ "java/lang/invoke/VarHandle" ∧ (parseMethodDescriptor yX12_isHanging.desc).map (fun d => d.parameters.length) = some 1 := by decide +kernel
theorem kD_X12_isSet : yX12_isSet.cls ≠ "java/lang/invoke/MethodHandle" ∧ yX12_isSet.cls ≠ "java/lang/invoke/VarHandle" ∧ (parseMethodDescriptor yX12_isSet.desc).map (fun d => d.parameters.length) = some 1 := by decide +kernel
theorem kD_X12_isKey : yX12_isKey.cls ≠ "java/lang/invoke/MethodHandle" ∧ yX12_isKey.cls ≠ "java/lang/invoke/VarHandle" ∧ (parseMethodDescriptor yX12_isKey.desc).map (fun d => d.parameters.length) = some 1 := by decide +kernel
theorem kD_X12_hang : yX12_hang.cls ≠ "java/lang/invoke/MethodHandle" ∧ yX12_hang.cls ≠ "java/lang/invoke/VarHandle" ∧ (parseMethodDescriptor yX12_hang.desc).map (fun d => d.parameters.length) = some 2 := by decide +kernel
theorem kD_X12_all : yX12_all.cls ≠ "java/lang/invoke/MethodHandle" ∧ yX12_all.cls ≠ "java/lang/invoke/VarHandle" ∧ (parseMethodDescriptor yX12_all.desc).map (fun d => d.parameters.length) = some 0 := by decide +kernel
theorem kD_X12_byteAt : yX12_byteAt.cls ≠ "java/lang/invoke/MethodHandle" ∧ yX12_byteAt.cls ≠ "java/lang/invoke/VarHandle" ∧ (parseMethodDescriptor yX12_byteAt.desc).map (fun d => d.parameters.length) = some 1 := by decide +kernel
theorem kD_X12_isLetter : yX12_isLetter.cls ≠ "java/lang/invoke/MethodHandle" ∧ yX12_isLetter.cls ≠ "java/lang/invoke/VarHandle" ∧ (parseMethodDescriptor yX12_isLetter.desc).map (fun d => d.parameters.length) = some 1 := by decide +kernel
theorem kD_X12_isDigit : yX12_isDigit.cls ≠ "java/lang/invoke/MethodHandle" ∧ yX12_isDigit.cls ≠ "java/lang/invoke/VarHandle" ∧ (parseMethodDescriptor yX12_isDigit.desc).map (fun d => d.parameters.length) = some 1 := by decide +kernel
theorem kD_X12_next : yX12_next.cls ≠ "java/lang/invoke/MethodHandle" ∧ yX12_next.cls ≠ "java/lang/invoke/VarHandle" ∧ (parseMethodDescriptor yX12_next.desc).map (fun d => d.parameters.length) = some 0 := by decide +kernel
theorem kD_X12_isWord : yX12_isWord.cls ≠ "java/lang/invoke/MethodHandle" ∧ yX12_isWord.cls ≠ "java/lang/invoke/VarHandle" ∧ (parseMethodDescriptor yX12_isWord.desc).map (fun d => d.parameters.length) = some 1 := by decide +kernel
theorem kD_X12_isSign : yX12_isSign.cls ≠ "java/lang/invoke/MethodHandle" ∧ yX12_isSign.cls ≠ "java/lang/invoke/VarHandle" ∧ (parseMethodDescriptor yX12_isSign.desc).map (fun d => d.parameters.length) = some 1 := by decide +kernel
theorem kD_X12_need : yX12_need.cls ≠ "java/lang/invoke/MethodHandle" ∧ yX12_need.cls ≠ "java/lang/invoke/VarHandle" ∧ (parseMethodDescriptor yX12_need.desc).map (fun d => d.parameters.length) = some 1 := by decide +kernel
theorem kD_X12_number : yX12_number.cls ≠ "java/lang/invoke/MethodHandle" ∧ yX12_number.cls ≠ "java/lang/invoke/VarHandle" ∧ (parseMethodDescriptor yX12_number.desc).map (fun d => d.parameters.length) = some 1 := by decide +kernel
theorem kD_X12_part : yX12_part.cls ≠ "java/lang/invoke/MethodHandle" ∧ yX12_part.cls ≠ "java/lang/invoke/VarHandle" ∧ (parseMethodDescriptor yX12_part.desc).map (fun d => d.parameters.length) = some 0 := by decide +kernel
theorem kD_X12_opens : yX12_opens.cls ≠ "java/lang/invoke/MethodHandle" ∧ yX12_opens.cls ≠ "java/lang/invoke/VarHandle" ∧ (parseMethodDescriptor yX12_opens.desc).map (fun d => d.parameters.length) = some 0 := by decide +kernel
theorem kD_X12_one : yX12_one.cls ≠ "java/lang/invoke/MethodHandle" ∧ yX12_one.cls ≠ "java/lang/invoke/VarHandle" ∧ (parseMethodDescriptor yX12_one.desc).map (fun d => d.parameters.length) = some 0 := by decide +kernel
theorem kD_X12_turned : yX12_turned.cls ≠ "java/lang/invoke/MethodHandle" ∧ yX12_turned.cls ≠ "java/lang/invoke/VarHandle" ∧ (parseMethodDescriptor yX12_turned.desc).map (fun d => d.parameters.length) = some 0 := by decide +kernel
theorem kD_X12_both : yX12_both.cls ≠ "java/lang/invoke/MethodHandle" ∧ yX12_both.cls ≠ "java/lang/invoke/VarHandle" ∧ (parseMethodDescriptor yX12_both.desc).map (fun d => d.parameters.length) = some 0 := by decide +kernel
theorem kD_X12_either : yX12_either.cls ≠ "java/lang/invoke/MethodHandle" ∧ yX12_either.cls ≠ "java/lang/invoke/VarHandle" ∧ (parseMethodDescriptor yX12_either.desc).map (fun d => d.parameters.length) = some 0 := by decide +kernel
theorem kD_X12_reads : yX12_reads.cls ≠ "java/lang/invoke/MethodHandle" ∧ yX12_reads.cls ≠ "java/lang/invoke/VarHandle" ∧ (parseMethodDescriptor yX12_reads.desc).map (fun d => d.parameters.length) = some 3 := by decide +kernel
theorem kD_X12_mayBy : yX12_mayBy.cls ≠ "java/lang/invoke/MethodHandle" ∧ yX12_mayBy.cls ≠ "java/lang/invoke/VarHandle" ∧ (parseMethodDescriptor yX12_mayBy.desc).map (fun d => d.parameters.length) = some 2 := by decide +kernel
theorem kD_X12_elder : yX12_elder.cls ≠ "java/lang/invoke/MethodHandle" ∧ yX12_elder.cls ≠ "java/lang/invoke/VarHandle" ∧ (parseMethodDescriptor yX12_elder.desc).map (fun d => d.parameters.length) = some 1 := by decide +kernel
theorem kD_X12_lentTo : yX12_lentTo.cls ≠ "java/lang/invoke/MethodHandle" ∧ yX12_lentTo.cls ≠ "java/lang/invoke/VarHandle" ∧ (parseMethodDescriptor yX12_lentTo.desc).map (fun d => d.parameters.length) = some 1 := by decide +kernel
theorem kD_X12_of : yX12_of.cls ≠ "java/lang/invoke/MethodHandle" ∧ yX12_of.cls ≠ "java/lang/invoke/VarHandle" ∧ (parseMethodDescriptor yX12_of.desc).map (fun d => d.parameters.length) = some 2 := by decide +kernel
theorem kD_X12_gone : yX12_gone.cls ≠ "java/lang/invoke/MethodHandle" ∧ yX12_gone.cls ≠ "java/lang/invoke/VarHandle" ∧ (parseMethodDescriptor yX12_gone.desc).map (fun d => d.parameters.length) = some 2 := by decide +kernel
theorem kD_X12_feed : yX12_feed.cls ≠ "java/lang/invoke/MethodHandle" ∧ yX12_feed.cls ≠ "java/lang/invoke/VarHandle" ∧ (parseMethodDescriptor yX12_feed.desc).map (fun d => d.parameters.length) = some 2 := by decide +kernel
theorem kD_X12_wipe : yX12_wipe.cls ≠ "java/lang/invoke/MethodHandle" ∧ yX12_wipe.cls ≠ "java/lang/invoke/VarHandle" ∧ (parseMethodDescriptor yX12_wipe.desc).map (fun d => d.parameters.length) = some 0 := by decide +kernel
theorem kD_X12_text : yX12_text.cls ≠ "java/lang/invoke/MethodHandle" ∧ yX12_text.cls ≠ "java/lang/invoke/VarHandle" ∧ (parseMethodDescriptor yX12_text.desc).map (fun d => d.parameters.length) = some 0 := by decide +kernel
theorem kD_X12_use : yX12_use.cls ≠ "java/lang/invoke/MethodHandle" ∧ yX12_use.cls ≠ "java/lang/invoke/VarHandle" ∧ (parseMethodDescriptor yX12_use.desc).map (fun d => d.parameters.length) = some 1 := by decide +kernel
theorem kD_X12_may : yX12_may.cls ≠ "java/lang/invoke/MethodHandle" ∧ yX12_may.cls ≠ "java/lang/invoke/VarHandle" ∧ (parseMethodDescriptor yX12_may.desc).map (fun d => d.parameters.length) = some 2 := by decide +kernel
theorem kD_X12_isPart : yX12_isPart.cls ≠ "java/lang/invoke/MethodHandle" ∧ yX12_isPart.cls ≠ "java/lang/invoke/VarHandle" ∧ (parseMethodDescriptor yX12_isPart.desc).map (fun d => d.parameters.length) = some 1 := by decide +kernel
theorem kD_X12_findMay : yX12_findMay.cls ≠ "java/lang/invoke/MethodHandle" ∧ yX12_findMay.cls ≠ "java/lang/invoke/VarHandle" ∧ (parseMethodDescriptor yX12_findMay.desc).map (fun d => d.parameters.length) = some 0 := by decide +kernel
theorem kD_X12_loses : yX12_loses.cls ≠ "java/lang/invoke/MethodHandle" ∧ yX12_loses.cls ≠ "java/lang/invoke/VarHandle" ∧ (parseMethodDescriptor yX12_loses.desc).map (fun d => d.parameters.length) = some 2 := by decide +kernel
theorem kD_X12_firstThatLoses : yX12_firstThatLoses.cls ≠ "java/lang/invoke/MethodHandle" ∧ yX12_firstThatLoses.cls ≠ "java/lang/invoke/VarHandle" ∧ (parseMethodDescriptor yX12_firstThatLoses.desc).map (fun d => d.parameters.length) = some 0 := by decide +kernel
theorem kD_X12_more : yX12_more.cls ≠ "java/lang/invoke/MethodHandle" ∧ yX12_more.cls ≠ "java/lang/invoke/VarHandle" ∧ (parseMethodDescriptor yX12_more.desc).map (fun d => d.parameters.length) = some 0 := by decide +kernel
theorem kD_X12_isLeast : yX12_isLeast.cls ≠ "java/lang/invoke/MethodHandle" ∧ yX12_isLeast.cls ≠ "java/lang/invoke/VarHandle" ∧ (parseMethodDescriptor yX12_isLeast.desc).map (fun d => d.parameters.length) = some 1 := by decide +kernel
theorem kD_X12_isMost : yX12_isMost.cls ≠ "java/lang/invoke/MethodHandle" ∧ yX12_isMost.cls ≠ "java/lang/invoke/VarHandle" ∧ (parseMethodDescriptor yX12_isMost.desc).map (fun d => d.parameters.length) = some 2 := by decide +kernel
theorem kD_X12_find : yX12_find.cls ≠ "java/lang/invoke/MethodHandle" ∧ yX12_find.cls ≠ "java/lang/invoke/VarHandle" ∧ (parseMethodDescriptor yX12_find.desc).map (fun d => d.parameters.length) = some 2 := by decide +kernel
theorem kD_X12_told : yX12_told.cls ≠ "java/lang/invoke/MethodHandle" ∧ yX12_told.cls ≠ "java/lang/invoke/VarHandle" ∧ (parseMethodDescriptor yX12_told.desc).map (fun d => d.parameters.length) = some 2 := by decide +kernel
theorem kD_X12_byText : yX12_byText.cls ≠ "java/lang/invoke/MethodHandle" ∧ yX12_byText.cls ≠ "java/lang/invoke/VarHandle" ∧ (parseMethodDescriptor yX12_byText.desc).map (fun d => d.parameters.length) = some 2 := by decide +kernel
theorem kD_X12_least : yX12_least.cls ≠ "java/lang/invoke/MethodHandle" ∧ yX12_least.cls ≠ "java/lang/invoke/VarHandle" ∧ (parseMethodDescriptor yX12_least.desc).map (fun d => d.parameters.length) = some 1 := by decide +kernel
theorem kD_X12_most : yX12_most.cls ≠ "java/lang/invoke/MethodHandle" ∧ yX12_most.cls ≠ "java/lang/invoke/VarHandle" ∧ (parseMethodDescriptor yX12_most.desc).map (fun d => d.parameters.length) = some 1 := by decide +kernel
theorem kD_X12_hangs : yX12_hangs.cls ≠ "java/lang/invoke/MethodHandle" ∧ yX12_hangs.cls ≠ "java/lang/invoke/VarHandle" ∧ (parseMethodDescriptor yX12_hangs.desc).map (fun d => d.parameters.length) = some 4 := by decide +kernel
theorem kD_X12_lock : yX12_lock.cls ≠ "java/lang/invoke/MethodHandle" ∧ yX12_lock.cls ≠ "java/lang/invoke/VarHandle" ∧ (parseMethodDescriptor yX12_lock.desc).map (fun d => d.parameters.length) = some 2 := by decide +kernel
theorem kD_X12_chain : yX12_chain.cls ≠ "java/lang/invoke/MethodHandle" ∧ yX12_chain.cls ≠ "java/lang/invoke/VarHandle" ∧ (parseMethodDescriptor yX12_chain.desc).map (fun d => d.parameters.length) = some 3 := by decide +kernel
theorem kD_X12_box : yX12_box.cls ≠ "java/lang/invoke/MethodHandle" ∧ yX12_box.cls ≠ "java/lang/invoke/VarHandle" ∧ (parseMethodDescriptor yX12_box.desc).map (fun d => d.parameters.length) = some 2 := by decide +kernel
theorem kD_X12_counts : yX12_counts.cls ≠ "java/lang/invoke/MethodHandle" ∧ yX12_counts.cls ≠ "java/lang/invoke/VarHandle" ∧ (parseMethodDescriptor yX12_counts.desc).map (fun d => d.parameters.length) = some 0 := by decide +kernel
theorem kD_X12_hanging : yX12_hanging.cls ≠ "java/lang/invoke/MethodHandle" ∧ yX12_hanging.cls ≠ "java/lang/invoke/VarHandle" ∧ (parseMethodDescriptor yX12_hanging.desc).map (fun d => d.parameters.length) = some 2 := by decide +kernel
theorem kD_X12_as : yX12_as.cls ≠ "java/lang/invoke/MethodHandle" ∧ yX12_as.cls ≠ "java/lang/invoke/VarHandle" ∧ (parseMethodDescriptor yX12_as.desc).map (fun d => d.parameters.length) = some 2 := by decide +kernel
theorem kD_X12_key : yX12_key.cls ≠ "java/lang/invoke/MethodHandle" ∧ yX12_key.cls ≠ "java/lang/invoke/VarHandle" ∧ (parseMethodDescriptor yX12_key.desc).map (fun d => d.parameters.length) = some 3 := by decide +kernel
theorem kD_X12_lend : yX12_lend.cls ≠ "java/lang/invoke/MethodHandle" ∧ yX12_lend.cls ≠ "java/lang/invoke/VarHandle" ∧ (parseMethodDescriptor yX12_lend.desc).map (fun d => d.parameters.length) = some 3 := by decide +kernel
theorem kD_X12_opensWith : yX12_opensWith.cls ≠ "java/lang/invoke/MethodHandle" ∧ yX12_opensWith.cls ≠ "java/lang/invoke/VarHandle" ∧ (parseMethodDescriptor yX12_opensWith.desc).map (fun d => d.parameters.length) = some 1 := by decide +kernel
theorem kD_X12_comesOf : yX12_comesOf.cls ≠ "java/lang/invoke/MethodHandle" ∧ yX12_comesOf.cls ≠ "java/lang/invoke/VarHandle" ∧ (parseMethodDescriptor yX12_comesOf.desc).map (fun d => d.parameters.length) = some 1 := by decide +kernel
theorem kD_X12_keysOf : yX12_keysOf.cls ≠ "java/lang/invoke/MethodHandle" ∧ yX12_keysOf.cls ≠ "java/lang/invoke/VarHandle" ∧ (parseMethodDescriptor yX12_keysOf.desc).map (fun d => d.parameters.length) = some 1 := by decide +kernel
theorem kD_X12_opensBy : yX12_opensBy.cls ≠ "java/lang/invoke/MethodHandle" ∧ yX12_opensBy.cls ≠ "java/lang/invoke/VarHandle" ∧ (parseMethodDescriptor yX12_opensBy.desc).map (fun d => d.parameters.length) = some 2 := by decide +kernel
theorem kD_X12_opens_ : yX12_opens_.cls ≠ "java/lang/invoke/MethodHandle" ∧ yX12_opens_.cls ≠ "java/lang/invoke/VarHandle" ∧ (parseMethodDescriptor yX12_opens_.desc).map (fun d => d.parameters.length) = some 2 := by decide +kernel
theorem kD_X12_had : yX12_had.cls ≠ "java/lang/invoke/MethodHandle" ∧ yX12_had.cls ≠ "java/lang/invoke/VarHandle" ∧ (parseMethodDescriptor yX12_had.desc).map (fun d => d.parameters.length) = some 1 := by decide +kernel
theorem kD_X12_round : yX12_round.cls ≠ "java/lang/invoke/MethodHandle" ∧ yX12_round.cls ≠ "java/lang/invoke/VarHandle" ∧ (parseMethodDescriptor yX12_round.desc).map (fun d => d.parameters.length) = some 2 := by decide +kernel
theorem kD_X12_findOpens : yX12_findOpens.cls ≠ "java/lang/invoke/MethodHandle" ∧ yX12_findOpens.cls ≠ "java/lang/invoke/VarHandle" ∧ (parseMethodDescriptor yX12_findOpens.desc).map (fun d => d.parameters.length) = some 1 := by decide +kernel
theorem kD_X12_byHanging : yX12_byHanging.cls ≠ "java/lang/invoke/MethodHandle" ∧ yX12_byHanging.cls ≠ "java/lang/invoke/VarHandle" ∧ (parseMethodDescriptor yX12_byHanging.desc).map (fun d => d.parameters.length) = some 3 := by decide +kernel
theorem kD_X12_lets : yX12_lets.cls ≠ "java/lang/invoke/MethodHandle" ∧ yX12_lets.cls ≠ "java/lang/invoke/VarHandle" ∧ (parseMethodDescriptor yX12_lets.desc).map (fun d => d.parameters.length) = some 2 := by decide +kernel
theorem kD_X12_shut : yX12_shut.cls ≠ "java/lang/invoke/MethodHandle" ∧ yX12_shut.cls ≠ "java/lang/invoke/VarHandle" ∧ (parseMethodDescriptor yX12_shut.desc).map (fun d => d.parameters.length) = some 2 := by decide +kernel
theorem kD_X12_unlike : yX12_unlike.cls ≠ "java/lang/invoke/MethodHandle" ∧ yX12_unlike.cls ≠ "java/lang/invoke/VarHandle" ∧ (parseMethodDescriptor yX12_unlike.desc).map (fun d => d.parameters.length) = some 2 := by decide +kernel
theorem kD_X12_wrongly : yX12_wrongly.cls ≠ "java/lang/invoke/MethodHandle" ∧ yX12_wrongly.cls ≠ "java/lang/invoke/VarHandle" ∧ (parseMethodDescriptor yX12_wrongly.desc).map (fun d => d.parameters.length) = some 1 := by decide +kernel
theorem kD_X12_lacks : yX12_lacks.cls ≠ "java/lang/invoke/MethodHandle" ∧ yX12_lacks.cls ≠ "java/lang/invoke/VarHandle" ∧ (parseMethodDescriptor yX12_lacks.desc).map (fun d => d.parameters.length) = some 1 := by decide +kernel
theorem kD_X12_keepOther : yX12_keepOther.cls ≠ "java/lang/invoke/MethodHandle" ∧ yX12_keepOther.cls ≠ "java/lang/invoke/VarHandle" ∧ (parseMethodDescriptor yX12_keepOther.desc).map (fun d => d.parameters.length) = some 0 := by decide +kernel
theorem kD_X12_isAsOther : yX12_isAsOther.cls ≠ "java/lang/invoke/MethodHandle" ∧ yX12_isAsOther.cls ≠ "java/lang/invoke/VarHandle" ∧ (parseMethodDescriptor yX12_isAsOther.desc).map (fun d => d.parameters.length) = some 0 := by decide +kernel
theorem kD_X12_same : yX12_same.cls ≠ "java/lang/invoke/MethodHandle" ∧ yX12_same.cls ≠ "java/lang/invoke/VarHandle" ∧ (parseMethodDescriptor yX12_same.desc).map (fun d => d.parameters.length) = some 2 := by decide +kernel
theorem kD_X12_bears : yX12_bears.cls ≠ "java/lang/invoke/MethodHandle" ∧ yX12_bears.cls ≠ "java/lang/invoke/VarHandle" ∧ (parseMethodDescriptor yX12_bears.desc).map (fun d => d.parameters.length) = some 2 := by decide +kernel
theorem kD_X12_need_ : yX12_need_.cls ≠ "java/lang/invoke/MethodHandle" ∧ yX12_need_.cls ≠ "java/lang/invoke/VarHandle" ∧ (parseMethodDescriptor yX12_need_.desc).map (fun d => d.parameters.length) = some 2 := by decide +kernel
theorem kD_X12_could : yX12_could.cls ≠ "java/lang/invoke/MethodHandle" ∧ yX12_could.cls ≠ "java/lang/invoke/VarHandle" ∧ (parseMethodDescriptor yX12_could.desc).map (fun d => d.parameters.length) = some 1 := by decide +kernel
theorem kD_X12_build : yX12_build.cls ≠ "java/lang/invoke/MethodHandle" ∧ yX12_build.cls ≠ "java/lang/invoke/VarHandle" ∧ (parseMethodDescriptor yX12_build.desc).map (fun d => d.parameters.length) = some 0 := by decide +kernel
theorem kD_X12_adds : yX12_adds.cls ≠ "java/lang/invoke/MethodHandle" ∧ yX12_adds.cls ≠ "java/lang/invoke/VarHandle" ∧ (parseMethodDescriptor yX12_adds.desc).map (fun d => d.parameters.length) = some 2 := by decide +kernel
theorem kD_X12_sizeOf : yX12_sizeOf.cls ≠ "java/lang/invoke/MethodHandle" ∧ yX12_sizeOf.cls ≠ "java/lang/invoke/VarHandle" ∧ (parseMethodDescriptor yX12_sizeOf.desc).map (fun d => d.parameters.length) = some 1 := by decide +kernel
theorem kD_X12_spread : yX12_spread.cls ≠ "java/lang/invoke/MethodHandle" ∧ yX12_spread.cls ≠ "java/lang/invoke/VarHandle" ∧ (parseMethodDescriptor yX12_spread.desc).map (fun d => d.parameters.length) = some 2 := by decide +kernel
theorem kD_X12_fewest : yX12_fewest.cls ≠ "java/lang/invoke/MethodHandle" ∧ yX12_fewest.cls ≠ "java/lang/invoke/VarHandle" ∧ (parseMethodDescriptor yX12_fewest.desc).map (fun d => d.parameters.length) = some 0 := by decide +kernel
theorem kD_X12_isSpare : yX12_isSpare.cls ≠ "java/lang/invoke/MethodHandle" ∧ yX12_isSpare.cls ≠ "java/lang/invoke/VarHandle" ∧ (parseMethodDescriptor yX12_isSpare.desc).map (fun d => d.parameters.length) = some 3 := by decide +kernel
theorem kD_X12_spare : yX12_spare.cls ≠ "java/lang/invoke/MethodHandle" ∧ yX12_spare.cls ≠ "java/lang/invoke/VarHandle" ∧ (parseMethodDescriptor yX12_spare.desc).map (fun d => d.parameters.length) = some 3 := by decide +kernel
theorem kD_X12_thin : yX12_thin.cls ≠ "java/lang/invoke/MethodHandle" ∧ yX12_thin.cls ≠ "java/lang/invoke/VarHandle" ∧ (parseMethodDescriptor yX12_thin.desc).map (fun d => d.parameters.length) = some 1 := by decide +kernel
theorem kD_X12_heavy : yX12_heavy.cls ≠ "java/lang/invoke/MethodHandle" ∧ yX12_heavy.cls ≠ "java/lang/invoke/VarHandle" ∧ (parseMethodDescriptor yX12_heavy.desc).map (fun d => d.parameters.length) = some 1 := by decide +kernel
theorem kD_X12_isSheet : yX12_isSheet.cls ≠ "java/lang/invoke/MethodHandle" ∧ yX12_isSheet.cls ≠ "java/lang/invoke/VarHandle" ∧ (parseMethodDescriptor yX12_isSheet.desc).map (fun d => d.parameters.length) = some 1 := by decide +kernel
theorem kD_X12_judge : yX12_judge.cls ≠ "java/lang/invoke/MethodHandle" ∧ yX12_judge.cls ≠ "java/lang/invoke/VarHandle" ∧ (parseMethodDescriptor yX12_judge.desc).map (fun d => d.parameters.length) = some 2 := by decide +kernel
theorem kD_X12_sheet : yX12_sheet.cls ≠ "java/lang/invoke/MethodHandle" ∧ yX12_sheet.cls ≠ "java/lang/invoke/VarHandle" ∧ (parseMethodDescriptor yX12_sheet.desc).map (fun d => d.parameters.length) = some 3 := by decide +kernel
theorem kD_X12_write : yX12_write.cls ≠ "java/lang/invoke/MethodHandle" ∧ yX12_write.cls ≠ "java/lang/invoke/VarHandle" ∧ (parseMethodDescriptor yX12_write.desc).map (fun d => d.parameters.length) = some 3 := by decide +kernel
theorem kD_X12_has : yX12_has.cls ≠ "java/lang/invoke/MethodHandle" ∧ yX12_has.cls ≠ "java/lang/invoke/VarHandle" ∧ (parseMethodDescriptor yX12_has.desc).map (fun d => d.parameters.length) = some 3 := by decide +kernel
theorem kD_X12_copy : yX12_copy.cls ≠ "java/lang/invoke/MethodHandle" ∧ yX12_copy.cls ≠ "java/lang/invoke/VarHandle" ∧ (parseMethodDescriptor yX12_copy.desc).map (fun d => d.parameters.length) = some 5 := by decide +kernel
theorem kD_X12_image : yX12_image.cls ≠ "java/lang/invoke/MethodHandle" ∧ yX12_image.cls ≠ "java/lang/invoke/VarHandle" ∧ (parseMethodDescriptor yX12_image.desc).map (fun d => d.parameters.length) = some 0 := by decide +kernel
theorem kD_X12_undo : yX12_undo.cls ≠ "java/lang/invoke/MethodHandle" ∧ yX12_undo.cls ≠ "java/lang/invoke/VarHandle" ∧ (parseMethodDescriptor yX12_undo.desc).map (fun d => d.parameters.length) = some 0 := by decide +kernel
theorem kD_X12_tear : yX12_tear.cls ≠ "java/lang/invoke/MethodHandle" ∧ yX12_tear.cls ≠ "java/lang/invoke/VarHandle" ∧ (parseMethodDescriptor yX12_tear.desc).map (fun d => d.parameters.length) = some 0 := by decide +kernel
theorem kD_X12_look : yX12_look.cls ≠ "java/lang/invoke/MethodHandle" ∧ yX12_look.cls ≠ "java/lang/invoke/VarHandle" ∧ (parseMethodDescriptor yX12_look.desc).map (fun d => d.parameters.length) = some 1 := by decide +kernel
theorem kD_X12_status : yX12_status.cls ≠ "java/lang/invoke/MethodHandle" ∧ yX12_status.cls ≠ "java/lang/invoke/VarHandle" ∧ (parseMethodDescriptor yX12_status.desc).map (fun d => d.parameters.length) = some 1 := by decide +kernel
theorem kD_J6_numberOfTrailingZeros_0f7a4 : yJ6_numberOfTrailingZeros_0f7a4.cls ≠ "java/lang/invoke/MethodHandle" ∧ yJ6_numberOfTrailingZeros_0f7a4.cls ≠ "java/lang/invoke/VarHandle" ∧ (parseMethodDescriptor yJ6_numberOfTrailingZeros_0f7a4.desc).map (fun d => d.parameters.length) = some 1 := by decide +kernel
theorem kD_J6_bitCount_0f7a4 : yJ6_bitCount_0f7a4.cls ≠ "java/lang/invoke/MethodHandle" ∧ yJ6_bitCount_0f7a4.cls ≠ "java/lang/invoke/VarHandle" ∧ (parseMethodDescriptor yJ6_bitCount_0f7a4.desc).map (fun d => d.parameters.length) = some 1 := by decide +kernel
theorem kD_J9_min_7cf53 : yJ9_min_7cf53.cls ≠ "java/lang/invoke/MethodHandle" ∧ yJ9_min_7cf53.cls ≠ "java/lang/invoke/VarHandle" ∧ (parseMethodDescriptor yJ9_min_7cf53.desc).map (fun d => d.parameters.length) = some 2 := by decide +kernel
theorem kD_J0_length_8abf5 : yJ0_length_8abf5.cls ≠ "java/lang/invoke/MethodHandle" ∧ yJ0_length_8abf5.cls ≠ "java/lang/invoke/VarHandle" ∧ (parseMethodDescriptor yJ0_length_8abf5.desc).map (fun d => d.parameters.length) = some 0 := by decide +kernel
theorem kD_J0_charAt_5068e : yJ0_charAt_5068e.cls ≠ "java/lang/invoke/MethodHandle" ∧ yJ0_charAt_5068e.cls ≠ "java/lang/invoke/VarHandle" ∧ (parseMethodDescriptor yJ0_charAt_5068e.desc).map (fun d => d.parameters.length) = some 1 := by decide +kernel
theorem kD_J0_coder_7d493 : yJ0_coder_7d493.cls ≠ "java/lang/invoke/MethodHandle" ∧ yJ0_coder_7d493.cls ≠ "java/lang/invoke/VarHandle" ∧ (parseMethodDescriptor yJ0_coder_7d493.desc).map (fun d => d.parameters.length) = some 0 := by decide +kernel
theorem kD_J0_isLatin1_aae02 : yJ0_isLatin1_aae02.cls ≠ "java/lang/invoke/MethodHandle" ∧ yJ0_isLatin1_aae02.cls ≠ "java/lang/invoke/VarHandle" ∧ (parseMethodDescriptor yJ0_isLatin1_aae02.desc).map (fun d => d.parameters.length) = some 0 := by decide +kernel
theorem kD_J0_checkIndex_df160 : yJ0_checkIndex_df160.cls ≠ "java/lang/invoke/MethodHandle" ∧ yJ0_checkIndex_df160.cls ≠ "java/lang/invoke/VarHandle" ∧ (parseMethodDescriptor yJ0_checkIndex_df160.desc).map (fun d => d.parameters.length) = some 2 := by decide +kernel
theorem kD_J1_charAt_3b067 : yJ1_charAt_3b067.cls ≠ "java/lang/invoke/MethodHandle" ∧ yJ1_charAt_3b067.cls ≠ "java/lang/invoke/VarHandle" ∧ (parseMethodDescriptor yJ1_charAt_3b067.desc).map (fun d => d.parameters.length) = some 2 := by decide +kernel
theorem kD_J2_getChar_3b067 : yJ2_getChar_3b067.cls ≠ "java/lang/invoke/MethodHandle" ∧ yJ2_getChar_3b067.cls ≠ "java/lang/invoke/VarHandle" ∧ (parseMethodDescriptor yJ2_getChar_3b067.desc).map (fun d => d.parameters.length) = some 2 := by decide +kernel
theorem kD_J2_length_9d52b : yJ2_length_9d52b.cls ≠ "java/lang/invoke/MethodHandle" ∧ yJ2_length_9d52b.cls ≠ "java/lang/invoke/VarHandle" ∧ (parseMethodDescriptor yJ2_length_9d52b.desc).map (fun d => d.parameters.length) = some 1 := by decide +kernel
theorem kD_J2_charAt_3b067 : yJ2_charAt_3b067.cls ≠ "java/lang/invoke/MethodHandle" ∧ yJ2_charAt_3b067.cls ≠ "java/lang/invoke/VarHandle" ∧ (parseMethodDescriptor yJ2_charAt_3b067.desc).map (fun d => d.parameters.length) = some 2 := by decide +kernel
theorem kD_J2_checkIndex_2214a : yJ2_checkIndex_2214a.cls ≠ "java/lang/invoke/MethodHandle" ∧ yJ2_checkIndex_2214a.cls ≠ "java/lang/invoke/VarHandle" ∧ (parseMethodDescriptor yJ2_checkIndex_2214a.desc).map (fun d => d.parameters.length) = some 2 := by decide +kernel
theorem kD_J7_fill_d0a16 : yJ7_fill_d0a16.cls ≠ "java/lang/invoke/MethodHandle" ∧ yJ7_fill_d0a16.cls ≠ "java/lang/invoke/VarHandle" ∧ (parseMethodDescriptor yJ7_fill_d0a16.desc).map (fun d => d.parameters.length) = some 2 := by decide +kernel
theorem kD_J7_fill_53178 : yJ7_fill_53178.cls ≠ "java/lang/invoke/MethodHandle" ∧ yJ7_fill_53178.cls ≠ "java/lang/invoke/VarHandle" ∧ (parseMethodDescriptor yJ7_fill_53178.desc).map (fun d => d.parameters.length) = some 2 := by decide +kernel
theorem kD_J3_checkIndex_8e157 : yJ3_checkIndex_8e157.cls ≠ "java/lang/invoke/MethodHandle" ∧ yJ3_checkIndex_8e157.cls ≠ "java/lang/invoke/VarHandle" ∧ (parseMethodDescriptor yJ3_checkIndex_8e157.desc).map (fun d => d.parameters.length) = some 3 := by decide +kernel
theorem kU_X0_0 : u_lay RX0 TX0 0 ∈ g_ws := g_wm (tb1 _ (List.mem_of_getElem? (i := 70) rfl)) rfl
theorem kU_X0_1 : u_lay RX0 TX0 1 ∈ g_ws := g_wm (tb1 _ (List.mem_of_getElem? (i := 72) rfl)) rfl
theorem kU_X0_2 : u_lay RX0 TX0 2 ∈ g_ws := g_wm (tb1 _ (List.mem_of_getElem? (i := 74) rfl)) rfl
theorem kU_X0_3 : u_lay RX0 TX0 3 ∈ g_ws := g_wm (tb1 _ (List.mem_of_getElem? (i := 76) rfl)) rfl
theorem kU_X0_4 : u_lay RX0 TX0 4 ∈ g_ws := g_wm (tb1 _ (List.mem_of_getElem? (i := 78) rfl)) rfl
theorem kU_X0_5 : u_lay RX0 TX0 5 ∈ g_ws := g_wm (tb1 _ (List.mem_of_getElem? (i := 80) rfl)) rfl
theorem kU_X0_6 : u_lay RX0 TX0 6 ∈ g_ws := g_wm (tb1 _ (List.mem_of_getElem? (i := 82) rfl)) rfl
theorem kU_X0_7 : u_lay RX0 TX0 7 ∈ g_ws := g_wm (tb1 _ (List.mem_of_getElem? (i := 84) rfl)) rfl
theorem kU_X0 : ∀ w ∈ u_ws RX0 TX0 8, w ∈ g_ws := by
  intro w h
  obtain ⟨k, hk, rfl⟩ := List.mem_map.mp h
  have hk := List.mem_range.mp hk
  match k, hk with
  | 0, _ => exact kU_X0_0
  | 1, _ => exact kU_X0_1
  | 2, _ => exact kU_X0_2
  | 3, _ => exact kU_X0_3
  | 4, _ => exact kU_X0_4
  | 5, _ => exact kU_X0_5
  | 6, _ => exact kU_X0_6
  | 7, _ => exact kU_X0_7
  | n + 8, h => exact absurd h (by omega)
theorem kU_X1_0 : u_lay RX1 TX1 0 ∈ g_ws := g_wm (tb1 _ (List.mem_of_getElem? (i := 238) rfl)) rfl
theorem kU_X1_1 : u_lay RX1 TX1 1 ∈ g_ws := g_wm (tb2 _ (List.mem_of_getElem? (i := 0) rfl)) rfl
theorem kU_X1_2 : u_lay RX1 TX1 2 ∈ g_ws := g_wm (tb2 _ (List.mem_of_getElem? (i := 2) rfl)) rfl
theorem kU_X1 : ∀ w ∈ u_ws RX1 TX1 3, w ∈ g_ws := by
  intro w h
  obtain ⟨k, hk, rfl⟩ := List.mem_map.mp h
  have hk := List.mem_range.mp hk
  match k, hk with
  | 0, _ => exact kU_X1_0
  | 1, _ => exact kU_X1_1
  | 2, _ => exact kU_X1_2
  | n + 3, h => exact absurd h (by omega)
theorem kU_X2_0 : u_lay RX2 TX2 0 ∈ g_ws := g_wm (tb1 _ (List.mem_of_getElem? (i := 40) rfl)) rfl
theorem kU_X2_1 : u_lay RX2 TX2 1 ∈ g_ws := g_wm (tb1 _ (List.mem_of_getElem? (i := 42) rfl)) rfl
theorem kU_X2 : ∀ w ∈ u_ws RX2 TX2 2, w ∈ g_ws := by
  intro w h
  obtain ⟨k, hk, rfl⟩ := List.mem_map.mp h
  have hk := List.mem_range.mp hk
  match k, hk with
  | 0, _ => exact kU_X2_0
  | 1, _ => exact kU_X2_1
  | n + 2, h => exact absurd h (by omega)
theorem kU_X3_0 : u_lay RX3 TX3 0 ∈ g_ws := g_wm (tb2 _ (List.mem_of_getElem? (i := 37) rfl)) rfl
theorem kU_X3_1 : u_lay RX3 TX3 1 ∈ g_ws := g_wm (tb2 _ (List.mem_of_getElem? (i := 39) rfl)) rfl
theorem kU_X3_2 : u_lay RX3 TX3 2 ∈ g_ws := g_wm (tb2 _ (List.mem_of_getElem? (i := 41) rfl)) rfl
theorem kU_X3_3 : u_lay RX3 TX3 3 ∈ g_ws := g_wm (tb2 _ (List.mem_of_getElem? (i := 43) rfl)) rfl
theorem kU_X3_4 : u_lay RX3 TX3 4 ∈ g_ws := g_wm (tb2 _ (List.mem_of_getElem? (i := 45) rfl)) rfl
theorem kU_X3 : ∀ w ∈ u_ws RX3 TX3 5, w ∈ g_ws := by
  intro w h
  obtain ⟨k, hk, rfl⟩ := List.mem_map.mp h
  have hk := List.mem_range.mp hk
  match k, hk with
  | 0, _ => exact kU_X3_0
  | 1, _ => exact kU_X3_1
  | 2, _ => exact kU_X3_2
  | 3, _ => exact kU_X3_3
  | 4, _ => exact kU_X3_4
  | n + 5, h => exact absurd h (by omega)
theorem kU_X4_0 : u_lay RX4 TX4 0 ∈ g_ws := g_wm (tb1 _ (List.mem_of_getElem? (i := 137) rfl)) rfl
theorem kU_X4_1 : u_lay RX4 TX4 1 ∈ g_ws := g_wm (tb1 _ (List.mem_of_getElem? (i := 139) rfl)) rfl
theorem kU_X4_2 : u_lay RX4 TX4 2 ∈ g_ws := g_wm (tb1 _ (List.mem_of_getElem? (i := 141) rfl)) rfl
theorem kU_X4_3 : u_lay RX4 TX4 3 ∈ g_ws := g_wm (tb1 _ (List.mem_of_getElem? (i := 143) rfl)) rfl
theorem kU_X4_4 : u_lay RX4 TX4 4 ∈ g_ws := g_wm (tb1 _ (List.mem_of_getElem? (i := 145) rfl)) rfl
theorem kU_X4_5 : u_lay RX4 TX4 5 ∈ g_ws := g_wm (tb1 _ (List.mem_of_getElem? (i := 147) rfl)) rfl
theorem kU_X4_6 : u_lay RX4 TX4 6 ∈ g_ws := g_wm (tb1 _ (List.mem_of_getElem? (i := 149) rfl)) rfl
theorem kU_X4_7 : u_lay RX4 TX4 7 ∈ g_ws := g_wm (tb1 _ (List.mem_of_getElem? (i := 151) rfl)) rfl
theorem kU_X4_8 : u_lay RX4 TX4 8 ∈ g_ws := g_wm (tb1 _ (List.mem_of_getElem? (i := 153) rfl)) rfl
theorem kU_X4 : ∀ w ∈ u_ws RX4 TX4 9, w ∈ g_ws := by
  intro w h
  obtain ⟨k, hk, rfl⟩ := List.mem_map.mp h
  have hk := List.mem_range.mp hk
  match k, hk with
  | 0, _ => exact kU_X4_0
  | 1, _ => exact kU_X4_1
  | 2, _ => exact kU_X4_2
  | 3, _ => exact kU_X4_3
  | 4, _ => exact kU_X4_4
  | 5, _ => exact kU_X4_5
  | 6, _ => exact kU_X4_6
  | 7, _ => exact kU_X4_7
  | 8, _ => exact kU_X4_8
  | n + 9, h => exact absurd h (by omega)
theorem kU_X5_0 : u_lay RX5 TX5 0 ∈ g_ws := g_wm (tb1 _ (List.mem_of_getElem? (i := 216) rfl)) rfl
theorem kU_X5_1 : u_lay RX5 TX5 1 ∈ g_ws := g_wm (tb1 _ (List.mem_of_getElem? (i := 218) rfl)) rfl
theorem kU_X5_2 : u_lay RX5 TX5 2 ∈ g_ws := g_wm (tb1 _ (List.mem_of_getElem? (i := 220) rfl)) rfl
theorem kU_X5 : ∀ w ∈ u_ws RX5 TX5 3, w ∈ g_ws := by
  intro w h
  obtain ⟨k, hk, rfl⟩ := List.mem_map.mp h
  have hk := List.mem_range.mp hk
  match k, hk with
  | 0, _ => exact kU_X5_0
  | 1, _ => exact kU_X5_1
  | 2, _ => exact kU_X5_2
  | n + 3, h => exact absurd h (by omega)
theorem kU_X6_0 : u_lay RX6 TX6 0 ∈ g_ws := g_wm (tb2 _ (List.mem_of_getElem? (i := 19) rfl)) rfl
theorem kU_X6_1 : u_lay RX6 TX6 1 ∈ g_ws := g_wm (tb2 _ (List.mem_of_getElem? (i := 21) rfl)) rfl
theorem kU_X6_2 : u_lay RX6 TX6 2 ∈ g_ws := g_wm (tb2 _ (List.mem_of_getElem? (i := 23) rfl)) rfl
theorem kU_X6 : ∀ w ∈ u_ws RX6 TX6 3, w ∈ g_ws := by
  intro w h
  obtain ⟨k, hk, rfl⟩ := List.mem_map.mp h
  have hk := List.mem_range.mp hk
  match k, hk with
  | 0, _ => exact kU_X6_0
  | 1, _ => exact kU_X6_1
  | 2, _ => exact kU_X6_2
  | n + 3, h => exact absurd h (by omega)
theorem kU_X7_0 : u_lay RX7 TX7 0 ∈ g_ws := g_wm (tb2 _ (List.mem_of_getElem? (i := 61) rfl)) rfl
theorem kU_X7_1 : u_lay RX7 TX7 1 ∈ g_ws := g_wm (tb2 _ (List.mem_of_getElem? (i := 63) rfl)) rfl
theorem kU_X7_2 : u_lay RX7 TX7 2 ∈ g_ws := g_wm (tb2 _ (List.mem_of_getElem? (i := 65) rfl)) rfl
theorem kU_X7 : ∀ w ∈ u_ws RX7 TX7 3, w ∈ g_ws := by
  intro w h
  obtain ⟨k, hk, rfl⟩ := List.mem_map.mp h
  have hk := List.mem_range.mp hk
  match k, hk with
  | 0, _ => exact kU_X7_0
  | 1, _ => exact kU_X7_1
  | 2, _ => exact kU_X7_2
  | n + 3, h => exact absurd h (by omega)
theorem kU_X8_0 : u_lay RX8 TX8 0 ∈ g_ws := g_wm (tb1 _ (List.mem_of_getElem? (i := 173) rfl)) rfl
theorem kU_X8_1 : u_lay RX8 TX8 1 ∈ g_ws := g_wm (tb1 _ (List.mem_of_getElem? (i := 175) rfl)) rfl
theorem kU_X8 : ∀ w ∈ u_ws RX8 TX8 2, w ∈ g_ws := by
  intro w h
  obtain ⟨k, hk, rfl⟩ := List.mem_map.mp h
  have hk := List.mem_range.mp hk
  match k, hk with
  | 0, _ => exact kU_X8_0
  | 1, _ => exact kU_X8_1
  | n + 2, h => exact absurd h (by omega)
theorem kU_X9_0 : u_lay RX9 TX9 0 ∈ g_ws := g_wm (tb1 _ (List.mem_of_getElem? (i := 189) rfl)) rfl
theorem kU_X9_1 : u_lay RX9 TX9 1 ∈ g_ws := g_wm (tb1 _ (List.mem_of_getElem? (i := 191) rfl)) rfl
theorem kU_X9_2 : u_lay RX9 TX9 2 ∈ g_ws := g_wm (tb1 _ (List.mem_of_getElem? (i := 193) rfl)) rfl
theorem kU_X9_3 : u_lay RX9 TX9 3 ∈ g_ws := g_wm (tb1 _ (List.mem_of_getElem? (i := 195) rfl)) rfl
theorem kU_X9_4 : u_lay RX9 TX9 4 ∈ g_ws := g_wm (tb1 _ (List.mem_of_getElem? (i := 197) rfl)) rfl
theorem kU_X9_5 : u_lay RX9 TX9 5 ∈ g_ws := g_wm (tb1 _ (List.mem_of_getElem? (i := 199) rfl)) rfl
theorem kU_X9_6 : u_lay RX9 TX9 6 ∈ g_ws := g_wm (tb1 _ (List.mem_of_getElem? (i := 201) rfl)) rfl
theorem kU_X9_7 : u_lay RX9 TX9 7 ∈ g_ws := g_wm (tb1 _ (List.mem_of_getElem? (i := 203) rfl)) rfl
theorem kU_X9 : ∀ w ∈ u_ws RX9 TX9 8, w ∈ g_ws := by
  intro w h
  obtain ⟨k, hk, rfl⟩ := List.mem_map.mp h
  have hk := List.mem_range.mp hk
  match k, hk with
  | 0, _ => exact kU_X9_0
  | 1, _ => exact kU_X9_1
  | 2, _ => exact kU_X9_2
  | 3, _ => exact kU_X9_3
  | 4, _ => exact kU_X9_4
  | 5, _ => exact kU_X9_5
  | 6, _ => exact kU_X9_6
  | 7, _ => exact kU_X9_7
  | n + 8, h => exact absurd h (by omega)
theorem kU_X10_0 : u_lay RX10 TX10 0 ∈ g_ws := g_wm (tb1 _ (List.mem_of_getElem? (i := 103) rfl)) rfl
theorem kU_X10_1 : u_lay RX10 TX10 1 ∈ g_ws := g_wm (tb1 _ (List.mem_of_getElem? (i := 105) rfl)) rfl
theorem kU_X10_2 : u_lay RX10 TX10 2 ∈ g_ws := g_wm (tb1 _ (List.mem_of_getElem? (i := 107) rfl)) rfl
theorem kU_X10_3 : u_lay RX10 TX10 3 ∈ g_ws := g_wm (tb1 _ (List.mem_of_getElem? (i := 109) rfl)) rfl
theorem kU_X10_4 : u_lay RX10 TX10 4 ∈ g_ws := g_wm (tb1 _ (List.mem_of_getElem? (i := 111) rfl)) rfl
theorem kU_X10 : ∀ w ∈ u_ws RX10 TX10 5, w ∈ g_ws := by
  intro w h
  obtain ⟨k, hk, rfl⟩ := List.mem_map.mp h
  have hk := List.mem_range.mp hk
  match k, hk with
  | 0, _ => exact kU_X10_0
  | 1, _ => exact kU_X10_1
  | 2, _ => exact kU_X10_2
  | 3, _ => exact kU_X10_3
  | 4, _ => exact kU_X10_4
  | n + 5, h => exact absurd h (by omega)
theorem kU_X11_0 : u_lay RX11 TX11 0 ∈ g_ws := g_wm (tb2 _ (List.mem_of_getElem? (i := 85) rfl)) rfl
theorem kU_X11_1 : u_lay RX11 TX11 1 ∈ g_ws := g_wm (tb2 _ (List.mem_of_getElem? (i := 87) rfl)) rfl
theorem kU_X11_2 : u_lay RX11 TX11 2 ∈ g_ws := g_wm (tb2 _ (List.mem_of_getElem? (i := 89) rfl)) rfl
theorem kU_X11_3 : u_lay RX11 TX11 3 ∈ g_ws := g_wm (tb2 _ (List.mem_of_getElem? (i := 91) rfl)) rfl
theorem kU_X11_4 : u_lay RX11 TX11 4 ∈ g_ws := g_wm (tb2 _ (List.mem_of_getElem? (i := 93) rfl)) rfl
theorem kU_X11_5 : u_lay RX11 TX11 5 ∈ g_ws := g_wm (tb2 _ (List.mem_of_getElem? (i := 95) rfl)) rfl
theorem kU_X11_6 : u_lay RX11 TX11 6 ∈ g_ws := g_wm (tb2 _ (List.mem_of_getElem? (i := 97) rfl)) rfl
theorem kU_X11_7 : u_lay RX11 TX11 7 ∈ g_ws := g_wm (tb2 _ (List.mem_of_getElem? (i := 99) rfl)) rfl
theorem kU_X11_8 : u_lay RX11 TX11 8 ∈ g_ws := g_wm (tb2 _ (List.mem_of_getElem? (i := 101) rfl)) rfl
theorem kU_X11_9 : u_lay RX11 TX11 9 ∈ g_ws := g_wm (tb2 _ (List.mem_of_getElem? (i := 103) rfl)) rfl
theorem kU_X11_10 : u_lay RX11 TX11 10 ∈ g_ws := g_wm (tb2 _ (List.mem_of_getElem? (i := 105) rfl)) rfl
theorem kU_X11_11 : u_lay RX11 TX11 11 ∈ g_ws := g_wm (tb2 _ (List.mem_of_getElem? (i := 107) rfl)) rfl
theorem kU_X11_12 : u_lay RX11 TX11 12 ∈ g_ws := g_wm (tb2 _ (List.mem_of_getElem? (i := 109) rfl)) rfl
theorem kU_X11_13 : u_lay RX11 TX11 13 ∈ g_ws := g_wm (tb2 _ (List.mem_of_getElem? (i := 111) rfl)) rfl
theorem kU_X11_14 : u_lay RX11 TX11 14 ∈ g_ws := g_wm (tb2 _ (List.mem_of_getElem? (i := 113) rfl)) rfl
theorem kU_X11_15 : u_lay RX11 TX11 15 ∈ g_ws := g_wm (tb2 _ (List.mem_of_getElem? (i := 115) rfl)) rfl
theorem kU_X11_16 : u_lay RX11 TX11 16 ∈ g_ws := g_wm (tb2 _ (List.mem_of_getElem? (i := 117) rfl)) rfl
theorem kU_X11 : ∀ w ∈ u_ws RX11 TX11 17, w ∈ g_ws := by
  intro w h
  obtain ⟨k, hk, rfl⟩ := List.mem_map.mp h
  have hk := List.mem_range.mp hk
  match k, hk with
  | 0, _ => exact kU_X11_0
  | 1, _ => exact kU_X11_1
  | 2, _ => exact kU_X11_2
  | 3, _ => exact kU_X11_3
  | 4, _ => exact kU_X11_4
  | 5, _ => exact kU_X11_5
  | 6, _ => exact kU_X11_6
  | 7, _ => exact kU_X11_7
  | 8, _ => exact kU_X11_8
  | 9, _ => exact kU_X11_9
  | 10, _ => exact kU_X11_10
  | 11, _ => exact kU_X11_11
  | 12, _ => exact kU_X11_12
  | 13, _ => exact kU_X11_13
  | 14, _ => exact kU_X11_14
  | 15, _ => exact kU_X11_15
  | 16, _ => exact kU_X11_16
  | n + 17, h => exact absurd h (by omega)
theorem kU_X12_0 : u_lay RX12 TX12 0 ∈ g_ws := g_wm (tb5 _ (List.mem_of_getElem? (i := 60) rfl)) rfl
theorem kU_X12_1 : u_lay RX12 TX12 1 ∈ g_ws := g_wm (tb5 _ (List.mem_of_getElem? (i := 62) rfl)) rfl
theorem kU_X12_2 : u_lay RX12 TX12 2 ∈ g_ws := g_wm (tb5 _ (List.mem_of_getElem? (i := 64) rfl)) rfl
theorem kU_X12_3 : u_lay RX12 TX12 3 ∈ g_ws := g_wm (tb5 _ (List.mem_of_getElem? (i := 66) rfl)) rfl
theorem kU_X12_4 : u_lay RX12 TX12 4 ∈ g_ws := g_wm (tb5 _ (List.mem_of_getElem? (i := 68) rfl)) rfl
theorem kU_X12_5 : u_lay RX12 TX12 5 ∈ g_ws := g_wm (tb5 _ (List.mem_of_getElem? (i := 70) rfl)) rfl
theorem kU_X12_6 : u_lay RX12 TX12 6 ∈ g_ws := g_wm (tb5 _ (List.mem_of_getElem? (i := 72) rfl)) rfl
theorem kU_X12_7 : u_lay RX12 TX12 7 ∈ g_ws := g_wm (tb5 _ (List.mem_of_getElem? (i := 74) rfl)) rfl
theorem kU_X12_8 : u_lay RX12 TX12 8 ∈ g_ws := g_wm (tb5 _ (List.mem_of_getElem? (i := 76) rfl)) rfl
theorem kU_X12_9 : u_lay RX12 TX12 9 ∈ g_ws := g_wm (tb5 _ (List.mem_of_getElem? (i := 78) rfl)) rfl
theorem kU_X12_10 : u_lay RX12 TX12 10 ∈ g_ws := g_wm (tb5 _ (List.mem_of_getElem? (i := 80) rfl)) rfl
theorem kU_X12_11 : u_lay RX12 TX12 11 ∈ g_ws := g_wm (tb5 _ (List.mem_of_getElem? (i := 82) rfl)) rfl
theorem kU_X12_12 : u_lay RX12 TX12 12 ∈ g_ws := g_wm (tb5 _ (List.mem_of_getElem? (i := 84) rfl)) rfl
theorem kU_X12_13 : u_lay RX12 TX12 13 ∈ g_ws := g_wm (tb5 _ (List.mem_of_getElem? (i := 86) rfl)) rfl
theorem kU_X12_14 : u_lay RX12 TX12 14 ∈ g_ws := g_wm (tb5 _ (List.mem_of_getElem? (i := 88) rfl)) rfl
theorem kU_X12_15 : u_lay RX12 TX12 15 ∈ g_ws := g_wm (tb5 _ (List.mem_of_getElem? (i := 90) rfl)) rfl
theorem kU_X12_16 : u_lay RX12 TX12 16 ∈ g_ws := g_wm (tb5 _ (List.mem_of_getElem? (i := 92) rfl)) rfl
theorem kU_X12_17 : u_lay RX12 TX12 17 ∈ g_ws := g_wm (tb5 _ (List.mem_of_getElem? (i := 94) rfl)) rfl
theorem kU_X12_18 : u_lay RX12 TX12 18 ∈ g_ws := g_wm (tb5 _ (List.mem_of_getElem? (i := 96) rfl)) rfl
theorem kU_X12_19 : u_lay RX12 TX12 19 ∈ g_ws := g_wm (tb5 _ (List.mem_of_getElem? (i := 98) rfl)) rfl
theorem kU_X12_20 : u_lay RX12 TX12 20 ∈ g_ws := g_wm (tb5 _ (List.mem_of_getElem? (i := 100) rfl)) rfl
theorem kU_X12_21 : u_lay RX12 TX12 21 ∈ g_ws := g_wm (tb5 _ (List.mem_of_getElem? (i := 102) rfl)) rfl
theorem kU_X12_22 : u_lay RX12 TX12 22 ∈ g_ws := g_wm (tb5 _ (List.mem_of_getElem? (i := 104) rfl)) rfl
theorem kU_X12_23 : u_lay RX12 TX12 23 ∈ g_ws := g_wm (tb5 _ (List.mem_of_getElem? (i := 106) rfl)) rfl
theorem kU_X12_24 : u_lay RX12 TX12 24 ∈ g_ws := g_wm (tb5 _ (List.mem_of_getElem? (i := 108) rfl)) rfl
theorem kU_X12_25 : u_lay RX12 TX12 25 ∈ g_ws := g_wm (tb5 _ (List.mem_of_getElem? (i := 110) rfl)) rfl
theorem kU_X12_26 : u_lay RX12 TX12 26 ∈ g_ws := g_wm (tb5 _ (List.mem_of_getElem? (i := 112) rfl)) rfl
theorem kU_X12_27 : u_lay RX12 TX12 27 ∈ g_ws := g_wm (tb5 _ (List.mem_of_getElem? (i := 114) rfl)) rfl
theorem kU_X12_28 : u_lay RX12 TX12 28 ∈ g_ws := g_wm (tb5 _ (List.mem_of_getElem? (i := 116) rfl)) rfl
theorem kU_X12_29 : u_lay RX12 TX12 29 ∈ g_ws := g_wm (tb5 _ (List.mem_of_getElem? (i := 118) rfl)) rfl
theorem kU_X12_30 : u_lay RX12 TX12 30 ∈ g_ws := g_wm (tb5 _ (List.mem_of_getElem? (i := 120) rfl)) rfl
theorem kU_X12 : ∀ w ∈ u_ws RX12 TX12 31, w ∈ g_ws := by
  intro w h
  obtain ⟨k, hk, rfl⟩ := List.mem_map.mp h
  have hk := List.mem_range.mp hk
  match k, hk with
  | 0, _ => exact kU_X12_0
  | 1, _ => exact kU_X12_1
  | 2, _ => exact kU_X12_2
  | 3, _ => exact kU_X12_3
  | 4, _ => exact kU_X12_4
  | 5, _ => exact kU_X12_5
  | 6, _ => exact kU_X12_6
  | 7, _ => exact kU_X12_7
  | 8, _ => exact kU_X12_8
  | 9, _ => exact kU_X12_9
  | 10, _ => exact kU_X12_10
  | 11, _ => exact kU_X12_11
  | 12, _ => exact kU_X12_12
  | 13, _ => exact kU_X12_13
  | 14, _ => exact kU_X12_14
  | 15, _ => exact kU_X12_15
  | 16, _ => exact kU_X12_16
  | 17, _ => exact kU_X12_17
  | 18, _ => exact kU_X12_18
  | 19, _ => exact kU_X12_19
  | 20, _ => exact kU_X12_20
  | 21, _ => exact kU_X12_21
  | 22, _ => exact kU_X12_22
  | 23, _ => exact kU_X12_23
  | 24, _ => exact kU_X12_24
  | 25, _ => exact kU_X12_25
  | 26, _ => exact kU_X12_26
  | 27, _ => exact kU_X12_27
  | 28, _ => exact kU_X12_28
  | 29, _ => exact kU_X12_29
  | 30, _ => exact kU_X12_30
  | n + 31, h => exact absurd h (by omega)
