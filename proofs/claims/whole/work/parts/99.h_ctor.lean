theorem kO_X11 : Cond.methodLink RX11 3 objectInit ∈ g_ws := g_wm (tb1 _ (List.mem_of_getElem? (i := 27) rfl)) rfl
theorem kO_X2 : Cond.methodLink RX2 3 objectInit ∈ g_ws := g_wm (tb1 _ (List.mem_of_getElem? (i := 35) rfl)) rfl
theorem kO_X0 : Cond.methodLink RX0 3 objectInit ∈ g_ws := g_wm (tb1 _ (List.mem_of_getElem? (i := 51) rfl)) rfl
theorem kO_X10 : Cond.methodLink RX10 3 objectInit ∈ g_ws := g_wm (tb1 _ (List.mem_of_getElem? (i := 92) rfl)) rfl
theorem kO_X4 : Cond.methodLink RX4 3 objectInit ∈ g_ws := g_wm (tb1 _ (List.mem_of_getElem? (i := 119) rfl)) rfl
theorem kO_X9 : Cond.methodLink RX9 3 objectInit ∈ g_ws := g_wm (tb1 _ (List.mem_of_getElem? (i := 161) rfl)) rfl
theorem kO_X8 : Cond.methodLink RX8 3 objectInit ∈ g_ws := g_wm (tb1 _ (List.mem_of_getElem? (i := 167) rfl)) rfl
theorem kO_X5 : Cond.methodLink RX5 3 objectInit ∈ g_ws := g_wm (tb1 _ (List.mem_of_getElem? (i := 211) rfl)) rfl
theorem kO_X1 : Cond.methodLink RX1 3 objectInit ∈ g_ws := g_wm (tb1 _ (List.mem_of_getElem? (i := 229) rfl)) rfl
theorem kO_X6 : Cond.methodLink RX6 3 objectInit ∈ g_ws := g_wm (tb2 _ (List.mem_of_getElem? (i := 11) rfl)) rfl
theorem kO_X3 : Cond.methodLink RX3 1 objectInit ∈ g_ws := g_wm (tb2 _ (List.mem_of_getElem? (i := 31) rfl)) rfl
theorem kO_X7 : Cond.methodLink RX7 3 objectInit ∈ g_ws := g_wm (tb2 _ (List.mem_of_getElem? (i := 54) rfl)) rfl
theorem kO_X12 : Cond.methodLink RX12 1 objectInit ∈ g_ws := g_wm (tb5 _ (List.mem_of_getElem? (i := 28) rfl)) rfl
theorem kO_I : Cond.instanceMethod objectInit ∈ g_ws := g_wm (tb1 _ (List.mem_of_getElem? (i := 28) rfl)) rfl
theorem kO_C : Cond.code objectInit ⟨#[0xb1]⟩ 1 none ∈ g_ws := g_wm (tb1 _ (List.mem_of_getElem? (i := 29) rfl)) rfl
theorem kA_I : Cond.arrayClass .int ∈ g_ws := g_wm (tb1 _ (List.mem_of_getElem? (i := 45) rfl)) rfl
theorem kA_J : Cond.arrayClass .long ∈ g_ws := g_wm (tb1 _ (List.mem_of_getElem? (i := 223) rfl)) rfl
theorem kA_Z : Cond.arrayClass .boolean ∈ g_ws := g_wm (tb2 _ (List.mem_of_getElem? (i := 5) rfl)) rfl
theorem kL_X11_9 : Cond.classLink RX11 9 RX2 ∈ g_ws := g_wm (tb1 _ (List.mem_of_getElem? (i := 30) rfl)) rfl
theorem kL_X11_16 : Cond.classLink RX11 16 RX0 ∈ g_ws := g_wm (tb1 _ (List.mem_of_getElem? (i := 46) rfl)) rfl
theorem kL_X11_23 : Cond.classLink RX11 23 RX10 ∈ g_ws := g_wm (tb1 _ (List.mem_of_getElem? (i := 87) rfl)) rfl
theorem kL_X11_30 : Cond.classLink RX11 30 RX4 ∈ g_ws := g_wm (tb1 _ (List.mem_of_getElem? (i := 114) rfl)) rfl
theorem kL_X11_40 : Cond.classLink RX11 40 RX9 ∈ g_ws := g_wm (tb1 _ (List.mem_of_getElem? (i := 156) rfl)) rfl
theorem kL_X11_52 : Cond.classLink RX11 52 RX5 ∈ g_ws := g_wm (tb1 _ (List.mem_of_getElem? (i := 206) rfl)) rfl
theorem kL_X11_59 : Cond.classLink RX11 59 RX1 ∈ g_ws := g_wm (tb1 _ (List.mem_of_getElem? (i := 224) rfl)) rfl
theorem kL_X11_69 : Cond.classLink RX11 69 RX6 ∈ g_ws := g_wm (tb2 _ (List.mem_of_getElem? (i := 6) rfl)) rfl
theorem kL_X11_76 : Cond.classLink RX11 76 RX3 ∈ g_ws := g_wm (tb2 _ (List.mem_of_getElem? (i := 26) rfl)) rfl
theorem kL_X11_83 : Cond.classLink RX11 83 RX7 ∈ g_ws := g_wm (tb2 _ (List.mem_of_getElem? (i := 48) rfl)) rfl
theorem kL_X9_9 : Cond.classLink RX9 9 RX8 ∈ g_ws := g_wm (tb1 _ (List.mem_of_getElem? (i := 162) rfl)) rfl
theorem kL_X10_19 : Cond.classLink RX10 19 "[[I" ∈ g_ws := g_wm (tb1 _ (List.mem_of_getElem? (i := 93) rfl)) rfl
theorem kL_L_7 : Cond.classLink RL 7 RX11 ∈ g_ws := g_wm (tb1 _ (List.mem_of_getElem? (i := 22) rfl)) rfl
theorem kL_L_10 : Cond.classLink RL 10 RX12 ∈ g_ws := g_wm (tb5 _ (List.mem_of_getElem? (i := 23) rfl)) rfl
theorem kZ_X11 : Cond.instantiable RX11 17 ∈ g_ws := g_wm (tb1 _ (List.mem_of_getElem? (i := 23) rfl)) rfl
theorem kZ_X2 : Cond.instantiable RX2 2 ∈ g_ws := g_wm (tb1 _ (List.mem_of_getElem? (i := 31) rfl)) rfl
theorem kZ_X0 : Cond.instantiable RX0 8 ∈ g_ws := g_wm (tb1 _ (List.mem_of_getElem? (i := 47) rfl)) rfl
theorem kZ_X10 : Cond.instantiable RX10 5 ∈ g_ws := g_wm (tb1 _ (List.mem_of_getElem? (i := 88) rfl)) rfl
theorem kZ_X4 : Cond.instantiable RX4 9 ∈ g_ws := g_wm (tb1 _ (List.mem_of_getElem? (i := 115) rfl)) rfl
theorem kZ_X9 : Cond.instantiable RX9 8 ∈ g_ws := g_wm (tb1 _ (List.mem_of_getElem? (i := 157) rfl)) rfl
theorem kZ_X8 : Cond.instantiable RX8 2 ∈ g_ws := g_wm (tb1 _ (List.mem_of_getElem? (i := 163) rfl)) rfl
theorem kZ_X5 : Cond.instantiable RX5 3 ∈ g_ws := g_wm (tb1 _ (List.mem_of_getElem? (i := 207) rfl)) rfl
theorem kZ_X1 : Cond.instantiable RX1 3 ∈ g_ws := g_wm (tb1 _ (List.mem_of_getElem? (i := 225) rfl)) rfl
theorem kZ_X6 : Cond.instantiable RX6 3 ∈ g_ws := g_wm (tb2 _ (List.mem_of_getElem? (i := 7) rfl)) rfl
theorem kZ_X3 : Cond.instantiable RX3 5 ∈ g_ws := g_wm (tb2 _ (List.mem_of_getElem? (i := 27) rfl)) rfl
theorem kZ_X7 : Cond.instantiable RX7 3 ∈ g_ws := g_wm (tb2 _ (List.mem_of_getElem? (i := 50) rfl)) rfl
theorem kZ_X12 : Cond.instantiable RX12 31 ∈ g_ws := g_wm (tb5 _ (List.mem_of_getElem? (i := 24) rfl)) rfl
def at_X0 (cy : Nat → ClassId) (h0 : Nat) (w : va_W) : Prop := ∃ q1 q2 q3 q4 : Nat, w = [(h0, .inr (0, [.int 0, .int 0, .int 0, .int 0, .ref q1, .ref q2, .ref q3, .ref q4])), (q1, .inl (cy 0, 10, .inl z32)), (q2, .inl (cy 0, 10, .inl z32)), (q3, .inl (cy 0, 10, .inl z32)), (q4, .inl (cy 0, 10, .inl z32))]
def rm_X0 : Room := { frames := 1, cells := 4, slots := 40, locals := 12 }
theorem c_X0 {l : Launch} {D : va_G} {cy : Nat → ClassId} (h0 : Nat) : n_R l D cy rm_X0 yX0_init cX0_init 1 h0 0 [.int 0, .int 0, .int 0, .int 0, .null, .null, .null, .null] 4 40 (at_X0 cy h0) := by
  refine n_R_of (own := RX0) (by decide +kernel) rfl rfl (by decide) (fun X C Z E => ?_)
  refine n_aload C 0 dX0_init_0 (q := 1) rfl rfl rfl ?_
  refine n_obj C kO_X0 dX0_init_1 (q := 4) rfl kO_I kO_C (Nat.le_of_ble_eq_true rfl) (Nat.le_of_ble_eq_true rfl) ?_
  refine n_aload C 0 dX0_init_4 (q := 5) rfl rfl rfl ?_
  refine n_bipush C (v := 10) dX0_init_5 (q := 7) rfl (by decide) ?_
  refine n_newI C kA_I (N' := 10) (by decide) (by decide) (Nat.le_of_ble_eq_true rfl) (Nat.le_of_ble_eq_true rfl) (Nat.le_of_ble_eq_true rfl) dX0_init_7 (q := 9) rfl (fun q1 => ?_)
  refine n_putF C E.2.2.2 (v := .ref q1) (i := 4) 0 rfl rfl kU_X0 tyX0_ok nmX0 (by decide) kF_X0_9 rfl rfl rfl rfl rfl (Nat.le_of_ble_eq_true rfl) dX0_init_9 (q := 12) rfl ?_
  show n_G 1 X D 1 10 12 [(0, .ref h0)] [] [(h0, .inr (0, [.int 0, .int 0, .int 0, .int 0, .ref q1, .null, .null, .null])), (q1, .inl (cy 0, 10, .inl z32))]
  refine n_aload C 0 dX0_init_12 (q := 13) rfl rfl rfl ?_
  refine n_bipush C (v := 10) dX0_init_13 (q := 15) rfl (by decide) ?_
  refine n_newI C kA_I (N' := 10) (by decide) (by decide) (Nat.le_of_ble_eq_true rfl) (Nat.le_of_ble_eq_true rfl) (Nat.le_of_ble_eq_true rfl) dX0_init_15 (q := 17) rfl (fun q2 => ?_)
  refine n_putF C E.2.2.2 (v := .ref q2) (i := 5) 0 rfl rfl kU_X0 tyX0_ok nmX0 (by decide) kF_X0_15 rfl rfl rfl rfl rfl (Nat.le_of_ble_eq_true rfl) dX0_init_17 (q := 20) rfl ?_
  show n_G 1 X D 2 20 20 [(0, .ref h0)] [] [(h0, .inr (0, [.int 0, .int 0, .int 0, .int 0, .ref q1, .ref q2, .null, .null])), (q1, .inl (cy 0, 10, .inl z32)), (q2, .inl (cy 0, 10, .inl z32))]
  refine n_aload C 0 dX0_init_20 (q := 21) rfl rfl rfl ?_
  refine n_bipush C (v := 10) dX0_init_21 (q := 23) rfl (by decide) ?_
  refine n_newI C kA_I (N' := 10) (by decide) (by decide) (Nat.le_of_ble_eq_true rfl) (Nat.le_of_ble_eq_true rfl) (Nat.le_of_ble_eq_true rfl) dX0_init_23 (q := 25) rfl (fun q3 => ?_)
  refine n_putF C E.2.2.2 (v := .ref q3) (i := 6) 0 rfl rfl kU_X0 tyX0_ok nmX0 (by decide) kF_X0_18 rfl rfl rfl rfl rfl (Nat.le_of_ble_eq_true rfl) dX0_init_25 (q := 28) rfl ?_
  show n_G 1 X D 3 30 28 [(0, .ref h0)] [] [(h0, .inr (0, [.int 0, .int 0, .int 0, .int 0, .ref q1, .ref q2, .ref q3, .null])), (q1, .inl (cy 0, 10, .inl z32)), (q2, .inl (cy 0, 10, .inl z32)), (q3, .inl (cy 0, 10, .inl z32))]
  refine n_aload C 0 dX0_init_28 (q := 29) rfl rfl rfl ?_
  refine n_bipush C (v := 10) dX0_init_29 (q := 31) rfl (by decide) ?_
  refine n_newI C kA_I (N' := 10) (by decide) (by decide) (Nat.le_of_ble_eq_true rfl) (Nat.le_of_ble_eq_true rfl) (Nat.le_of_ble_eq_true rfl) dX0_init_31 (q := 33) rfl (fun q4 => ?_)
  refine n_putF C E.2.2.2 (v := .ref q4) (i := 7) 0 rfl rfl kU_X0 tyX0_ok nmX0 (by decide) kF_X0_21 rfl rfl rfl rfl rfl (Nat.le_of_ble_eq_true rfl) dX0_init_33 (q := 36) rfl ?_
  show n_G 1 X D 4 40 36 [(0, .ref h0)] [] [(h0, .inr (0, [.int 0, .int 0, .int 0, .int 0, .ref q1, .ref q2, .ref q3, .ref q4])), (q1, .inl (cy 0, 10, .inl z32)), (q2, .inl (cy 0, 10, .inl z32)), (q3, .inl (cy 0, 10, .inl z32)), (q4, .inl (cy 0, 10, .inl z32))]
  exact n_vret C E rfl rfl ⟨q1, q2, q3, q4, rfl⟩ dX0_init_36
def at_X1 (cy : Nat → ClassId) (h0 : Nat) (w : va_W) : Prop := ∃ q1 : Nat, w = [(h0, .inr (1, [.ref q1, .int 0, .int (-1)])), (q1, .inl (cy 2, 1024, .inl z32))]
def rm_X1 : Room := { frames := 1, cells := 1, slots := 1024, locals := 12 }
theorem c_X1 {l : Launch} {D : va_G} {cy : Nat → ClassId} (h0 : Nat) : n_R l D cy rm_X1 yX1_init cX1_init 1 h0 1 [.null, .int 0, .int 0] 1 1024 (at_X1 cy h0) := by
  refine n_R_of (own := RX1) (by decide +kernel) rfl rfl (by decide) (fun X C Z E => ?_)
  refine n_aload C 0 dX1_init_0 (q := 1) rfl rfl rfl ?_
  refine n_obj C kO_X1 dX1_init_1 (q := 4) rfl kO_I kO_C (Nat.le_of_ble_eq_true rfl) (Nat.le_of_ble_eq_true rfl) ?_
  refine n_aload C 0 dX1_init_4 (q := 5) rfl rfl rfl ?_
  refine n_sipush C (v := 1024) dX1_init_5 (q := 8) rfl (by decide) ?_
  refine n_newZ C kA_Z (N' := 1024) (by decide) (by decide) (Nat.le_of_ble_eq_true rfl) (Nat.le_of_ble_eq_true rfl) (Nat.le_of_ble_eq_true rfl) dX1_init_8 (q := 10) rfl (fun q1 => ?_)
  refine n_putF C E.2.2.2 (v := .ref q1) (i := 0) 0 rfl rfl kU_X1 tyX1_ok nmX1 (by decide) kF_X1_9 rfl rfl rfl rfl rfl (Nat.le_of_ble_eq_true rfl) dX1_init_10 (q := 13) rfl ?_
  show n_G 1 X D 1 1024 13 [(0, .ref h0)] [] [(h0, .inr (1, [.ref q1, .int 0, .int 0])), (q1, .inl (cy 2, 1024, .inl z32))]
  refine n_aload C 0 dX1_init_13 (q := 14) rfl rfl rfl ?_
  refine n_iconst C (v := (-1)) dX1_init_14 (q := 15) rfl (by decide) ?_
  refine n_put C (v := .int (-1)) (i := 2) 0 rfl rfl kU_X1 tyX1_ok nmX1 (by decide) kF_X1_15 rfl rfl rfl rfl (Nat.le_of_ble_eq_true rfl) dX1_init_15 (q := 18) rfl ?_
  show n_G 1 X D 1 1024 18 [(0, .ref h0)] [] [(h0, .inr (1, [.ref q1, .int 0, .int (-1)])), (q1, .inl (cy 2, 1024, .inl z32))]
  exact n_vret C E rfl rfl ⟨q1, rfl⟩ dX1_init_18
def at_X2 (cy : Nat → ClassId) (h0 : Nat) (w : va_W) : Prop := ∃ q1 : Nat, w = [(h0, .inr (2, [.ref q1, .int 0])), (q1, .inl (cy 0, 7, .inl z32))]
def rm_X2 : Room := { frames := 1, cells := 1, slots := 7, locals := 12 }
theorem c_X2 {l : Launch} {D : va_G} {cy : Nat → ClassId} (h0 : Nat) : n_R l D cy rm_X2 yX2_init cX2_init 1 h0 2 [.null, .int 0] 1 7 (at_X2 cy h0) := by
  refine n_R_of (own := RX2) (by decide +kernel) rfl rfl (by decide) (fun X C Z E => ?_)
  refine n_aload C 0 dX2_init_0 (q := 1) rfl rfl rfl ?_
  refine n_obj C kO_X2 dX2_init_1 (q := 4) rfl kO_I kO_C (Nat.le_of_ble_eq_true rfl) (Nat.le_of_ble_eq_true rfl) ?_
  refine n_aload C 0 dX2_init_4 (q := 5) rfl rfl rfl ?_
  refine n_bipush C (v := 7) dX2_init_5 (q := 7) rfl (by decide) ?_
  refine n_newI C kA_I (N' := 7) (by decide) (by decide) (Nat.le_of_ble_eq_true rfl) (Nat.le_of_ble_eq_true rfl) (Nat.le_of_ble_eq_true rfl) dX2_init_7 (q := 9) rfl (fun q1 => ?_)
  refine n_putF C E.2.2.2 (v := .ref q1) (i := 0) 0 rfl rfl kU_X2 tyX2_ok nmX2 (by decide) kF_X2_9 rfl rfl rfl rfl rfl (Nat.le_of_ble_eq_true rfl) dX2_init_9 (q := 12) rfl ?_
  show n_G 1 X D 1 7 12 [(0, .ref h0)] [] [(h0, .inr (2, [.ref q1, .int 0])), (q1, .inl (cy 0, 7, .inl z32))]
  exact n_vret C E rfl rfl ⟨q1, rfl⟩ dX2_init_12
def at_X3 (cy : Nat → ClassId) (h0 : Nat) (w : va_W) : Prop := ∃ q1 q2 q3 : Nat, w = [(h0, .inr (3, [.ref q1, .ref q2, .ref q3, .int 0, .int 0])), (q1, .inl (cy 0, 166, .inl z32)), (q2, .inl (cy 0, 18, .inl z32)), (q3, .inl (cy 1, 1024, .inr (.inl z64)))]
def rm_X3 : Room := { frames := 1, cells := 3, slots := 1208, locals := 12 }
theorem c_X3 {l : Launch} {D : va_G} {cy : Nat → ClassId} (h0 : Nat) : n_R l D cy rm_X3 yX3_init cX3_init 1 h0 3 [.null, .null, .null, .int 0, .int 0] 3 1208 (at_X3 cy h0) := by
  refine n_R_of (own := RX3) (by decide +kernel) rfl rfl (by decide) (fun X C Z E => ?_)
  refine n_aload C 0 dX3_init_0 (q := 1) rfl rfl rfl ?_
  refine n_obj C kO_X3 dX3_init_1 (q := 4) rfl kO_I kO_C (Nat.le_of_ble_eq_true rfl) (Nat.le_of_ble_eq_true rfl) ?_
  refine n_aload C 0 dX3_init_4 (q := 5) rfl rfl rfl ?_
  refine n_sipush C (v := 166) dX3_init_5 (q := 8) rfl (by decide) ?_
  refine n_newI C kA_I (N' := 166) (by decide) (by decide) (Nat.le_of_ble_eq_true rfl) (Nat.le_of_ble_eq_true rfl) (Nat.le_of_ble_eq_true rfl) dX3_init_8 (q := 10) rfl (fun q1 => ?_)
  refine n_putF C E.2.2.2 (v := .ref q1) (i := 0) 0 rfl rfl kU_X3 tyX3_ok nmX3 (by decide) kF_X3_9 rfl rfl rfl rfl rfl (Nat.le_of_ble_eq_true rfl) dX3_init_10 (q := 13) rfl ?_
  show n_G 1 X D 1 166 13 [(0, .ref h0)] [] [(h0, .inr (3, [.ref q1, .null, .null, .int 0, .int 0])), (q1, .inl (cy 0, 166, .inl z32))]
  refine n_aload C 0 dX3_init_13 (q := 14) rfl rfl rfl ?_
  refine n_bipush C (v := 18) dX3_init_14 (q := 16) rfl (by decide) ?_
  refine n_newI C kA_I (N' := 18) (by decide) (by decide) (Nat.le_of_ble_eq_true rfl) (Nat.le_of_ble_eq_true rfl) (Nat.le_of_ble_eq_true rfl) dX3_init_16 (q := 18) rfl (fun q2 => ?_)
  refine n_putF C E.2.2.2 (v := .ref q2) (i := 1) 0 rfl rfl kU_X3 tyX3_ok nmX3 (by decide) kF_X3_13 rfl rfl rfl rfl rfl (Nat.le_of_ble_eq_true rfl) dX3_init_18 (q := 21) rfl ?_
  show n_G 1 X D 2 184 21 [(0, .ref h0)] [] [(h0, .inr (3, [.ref q1, .ref q2, .null, .int 0, .int 0])), (q1, .inl (cy 0, 166, .inl z32)), (q2, .inl (cy 0, 18, .inl z32))]
  refine n_aload C 0 dX3_init_21 (q := 22) rfl rfl rfl ?_
  refine n_sipush C (v := 1024) dX3_init_22 (q := 25) rfl (by decide) ?_
  refine n_newJ C kA_J (N' := 1024) (by decide) (by decide) (Nat.le_of_ble_eq_true rfl) (Nat.le_of_ble_eq_true rfl) (Nat.le_of_ble_eq_true rfl) dX3_init_25 (q := 27) rfl (fun q3 => ?_)
  refine n_putF C E.2.2.2 (v := .ref q3) (i := 2) 0 rfl rfl kU_X3 tyX3_ok nmX3 (by decide) kF_X3_16 rfl rfl rfl rfl rfl (Nat.le_of_ble_eq_true rfl) dX3_init_27 (q := 30) rfl ?_
  show n_G 1 X D 3 1208 30 [(0, .ref h0)] [] [(h0, .inr (3, [.ref q1, .ref q2, .ref q3, .int 0, .int 0])), (q1, .inl (cy 0, 166, .inl z32)), (q2, .inl (cy 0, 18, .inl z32)), (q3, .inl (cy 1, 1024, .inr (.inl z64)))]
  exact n_vret C E rfl rfl ⟨q1, q2, q3, rfl⟩ dX3_init_30
def at_X4 (cy : Nat → ClassId) (h0 : Nat) (w : va_W) : Prop := ∃ q1 q2 q3 q4 q5 q6 q7 : Nat, w = [(h0, .inr (4, [.int 0, .int 0, .ref q1, .ref q2, .ref q3, .ref q4, .ref q5, .ref q6, .ref q7])), (q1, .inl (cy 0, 40, .inl z32)), (q2, .inl (cy 0, 40, .inl z32)), (q3, .inl (cy 0, 40, .inl z32)), (q4, .inl (cy 0, 40, .inl z32)), (q5, .inl (cy 0, 40, .inl z32)), (q6, .inl (cy 0, 40, .inl z32)), (q7, .inl (cy 0, 40, .inl z32))]
def rm_X4 : Room := { frames := 1, cells := 7, slots := 280, locals := 12 }
theorem c_X4 {l : Launch} {D : va_G} {cy : Nat → ClassId} (h0 : Nat) : n_R l D cy rm_X4 yX4_init cX4_init 1 h0 4 [.int 0, .int 0, .null, .null, .null, .null, .null, .null, .null] 7 280 (at_X4 cy h0) := by
  refine n_R_of (own := RX4) (by decide +kernel) rfl rfl (by decide) (fun X C Z E => ?_)
  refine n_aload C 0 dX4_init_0 (q := 1) rfl rfl rfl ?_
  refine n_obj C kO_X4 dX4_init_1 (q := 4) rfl kO_I kO_C (Nat.le_of_ble_eq_true rfl) (Nat.le_of_ble_eq_true rfl) ?_
  refine n_aload C 0 dX4_init_4 (q := 5) rfl rfl rfl ?_
  refine n_bipush C (v := 40) dX4_init_5 (q := 7) rfl (by decide) ?_
  refine n_newI C kA_I (N' := 40) (by decide) (by decide) (Nat.le_of_ble_eq_true rfl) (Nat.le_of_ble_eq_true rfl) (Nat.le_of_ble_eq_true rfl) dX4_init_7 (q := 9) rfl (fun q1 => ?_)
  refine n_putF C E.2.2.2 (v := .ref q1) (i := 2) 0 rfl rfl kU_X4 tyX4_ok nmX4 (by decide) kF_X4_9 rfl rfl rfl rfl rfl (Nat.le_of_ble_eq_true rfl) dX4_init_9 (q := 12) rfl ?_
  show n_G 1 X D 1 40 12 [(0, .ref h0)] [] [(h0, .inr (4, [.int 0, .int 0, .ref q1, .null, .null, .null, .null, .null, .null])), (q1, .inl (cy 0, 40, .inl z32))]
  refine n_aload C 0 dX4_init_12 (q := 13) rfl rfl rfl ?_
  refine n_bipush C (v := 40) dX4_init_13 (q := 15) rfl (by decide) ?_
  refine n_newI C kA_I (N' := 40) (by decide) (by decide) (Nat.le_of_ble_eq_true rfl) (Nat.le_of_ble_eq_true rfl) (Nat.le_of_ble_eq_true rfl) dX4_init_15 (q := 17) rfl (fun q2 => ?_)
  refine n_putF C E.2.2.2 (v := .ref q2) (i := 3) 0 rfl rfl kU_X4 tyX4_ok nmX4 (by decide) kF_X4_15 rfl rfl rfl rfl rfl (Nat.le_of_ble_eq_true rfl) dX4_init_17 (q := 20) rfl ?_
  show n_G 1 X D 2 80 20 [(0, .ref h0)] [] [(h0, .inr (4, [.int 0, .int 0, .ref q1, .ref q2, .null, .null, .null, .null, .null])), (q1, .inl (cy 0, 40, .inl z32)), (q2, .inl (cy 0, 40, .inl z32))]
  refine n_aload C 0 dX4_init_20 (q := 21) rfl rfl rfl ?_
  refine n_bipush C (v := 40) dX4_init_21 (q := 23) rfl (by decide) ?_
  refine n_newI C kA_I (N' := 40) (by decide) (by decide) (Nat.le_of_ble_eq_true rfl) (Nat.le_of_ble_eq_true rfl) (Nat.le_of_ble_eq_true rfl) dX4_init_23 (q := 25) rfl (fun q3 => ?_)
  refine n_putF C E.2.2.2 (v := .ref q3) (i := 4) 0 rfl rfl kU_X4 tyX4_ok nmX4 (by decide) kF_X4_18 rfl rfl rfl rfl rfl (Nat.le_of_ble_eq_true rfl) dX4_init_25 (q := 28) rfl ?_
  show n_G 1 X D 3 120 28 [(0, .ref h0)] [] [(h0, .inr (4, [.int 0, .int 0, .ref q1, .ref q2, .ref q3, .null, .null, .null, .null])), (q1, .inl (cy 0, 40, .inl z32)), (q2, .inl (cy 0, 40, .inl z32)), (q3, .inl (cy 0, 40, .inl z32))]
  refine n_aload C 0 dX4_init_28 (q := 29) rfl rfl rfl ?_
  refine n_bipush C (v := 40) dX4_init_29 (q := 31) rfl (by decide) ?_
  refine n_newI C kA_I (N' := 40) (by decide) (by decide) (Nat.le_of_ble_eq_true rfl) (Nat.le_of_ble_eq_true rfl) (Nat.le_of_ble_eq_true rfl) dX4_init_31 (q := 33) rfl (fun q4 => ?_)
  refine n_putF C E.2.2.2 (v := .ref q4) (i := 5) 0 rfl rfl kU_X4 tyX4_ok nmX4 (by decide) kF_X4_21 rfl rfl rfl rfl rfl (Nat.le_of_ble_eq_true rfl) dX4_init_33 (q := 36) rfl ?_
  show n_G 1 X D 4 160 36 [(0, .ref h0)] [] [(h0, .inr (4, [.int 0, .int 0, .ref q1, .ref q2, .ref q3, .ref q4, .null, .null, .null])), (q1, .inl (cy 0, 40, .inl z32)), (q2, .inl (cy 0, 40, .inl z32)), (q3, .inl (cy 0, 40, .inl z32)), (q4, .inl (cy 0, 40, .inl z32))]
  refine n_aload C 0 dX4_init_36 (q := 37) rfl rfl rfl ?_
  refine n_bipush C (v := 40) dX4_init_37 (q := 39) rfl (by decide) ?_
  refine n_newI C kA_I (N' := 40) (by decide) (by decide) (Nat.le_of_ble_eq_true rfl) (Nat.le_of_ble_eq_true rfl) (Nat.le_of_ble_eq_true rfl) dX4_init_39 (q := 41) rfl (fun q5 => ?_)
  refine n_putF C E.2.2.2 (v := .ref q5) (i := 6) 0 rfl rfl kU_X4 tyX4_ok nmX4 (by decide) kF_X4_24 rfl rfl rfl rfl rfl (Nat.le_of_ble_eq_true rfl) dX4_init_41 (q := 44) rfl ?_
  show n_G 1 X D 5 200 44 [(0, .ref h0)] [] [(h0, .inr (4, [.int 0, .int 0, .ref q1, .ref q2, .ref q3, .ref q4, .ref q5, .null, .null])), (q1, .inl (cy 0, 40, .inl z32)), (q2, .inl (cy 0, 40, .inl z32)), (q3, .inl (cy 0, 40, .inl z32)), (q4, .inl (cy 0, 40, .inl z32)), (q5, .inl (cy 0, 40, .inl z32))]
  refine n_aload C 0 dX4_init_44 (q := 45) rfl rfl rfl ?_
  refine n_bipush C (v := 40) dX4_init_45 (q := 47) rfl (by decide) ?_
  refine n_newI C kA_I (N' := 40) (by decide) (by decide) (Nat.le_of_ble_eq_true rfl) (Nat.le_of_ble_eq_true rfl) (Nat.le_of_ble_eq_true rfl) dX4_init_47 (q := 49) rfl (fun q6 => ?_)
  refine n_putF C E.2.2.2 (v := .ref q6) (i := 7) 0 rfl rfl kU_X4 tyX4_ok nmX4 (by decide) kF_X4_27 rfl rfl rfl rfl rfl (Nat.le_of_ble_eq_true rfl) dX4_init_49 (q := 52) rfl ?_
  show n_G 1 X D 6 240 52 [(0, .ref h0)] [] [(h0, .inr (4, [.int 0, .int 0, .ref q1, .ref q2, .ref q3, .ref q4, .ref q5, .ref q6, .null])), (q1, .inl (cy 0, 40, .inl z32)), (q2, .inl (cy 0, 40, .inl z32)), (q3, .inl (cy 0, 40, .inl z32)), (q4, .inl (cy 0, 40, .inl z32)), (q5, .inl (cy 0, 40, .inl z32)), (q6, .inl (cy 0, 40, .inl z32))]
  refine n_aload C 0 dX4_init_52 (q := 53) rfl rfl rfl ?_
  refine n_bipush C (v := 40) dX4_init_53 (q := 55) rfl (by decide) ?_
  refine n_newI C kA_I (N' := 40) (by decide) (by decide) (Nat.le_of_ble_eq_true rfl) (Nat.le_of_ble_eq_true rfl) (Nat.le_of_ble_eq_true rfl) dX4_init_55 (q := 57) rfl (fun q7 => ?_)
  refine n_putF C E.2.2.2 (v := .ref q7) (i := 8) 0 rfl rfl kU_X4 tyX4_ok nmX4 (by decide) kF_X4_30 rfl rfl rfl rfl rfl (Nat.le_of_ble_eq_true rfl) dX4_init_57 (q := 60) rfl ?_
  show n_G 1 X D 7 280 60 [(0, .ref h0)] [] [(h0, .inr (4, [.int 0, .int 0, .ref q1, .ref q2, .ref q3, .ref q4, .ref q5, .ref q6, .ref q7])), (q1, .inl (cy 0, 40, .inl z32)), (q2, .inl (cy 0, 40, .inl z32)), (q3, .inl (cy 0, 40, .inl z32)), (q4, .inl (cy 0, 40, .inl z32)), (q5, .inl (cy 0, 40, .inl z32)), (q6, .inl (cy 0, 40, .inl z32)), (q7, .inl (cy 0, 40, .inl z32))]
  exact n_vret C E rfl rfl ⟨q1, q2, q3, q4, q5, q6, q7, rfl⟩ dX4_init_60
def at_X5 (cy : Nat → ClassId) (h0 : Nat) (w : va_W) : Prop := ∃ q1 q2 : Nat, w = [(h0, .inr (5, [.ref q1, .ref q2, .int (-1)])), (q1, .inl (cy 0, 1024, .inl z32)), (q2, .inl (cy 1, 1024, .inr (.inl z64)))]
def rm_X5 : Room := { frames := 1, cells := 2, slots := 2048, locals := 12 }
theorem c_X5 {l : Launch} {D : va_G} {cy : Nat → ClassId} (h0 : Nat) : n_R l D cy rm_X5 yX5_init cX5_init 1 h0 5 [.null, .null, .int 0] 2 2048 (at_X5 cy h0) := by
  refine n_R_of (own := RX5) (by decide +kernel) rfl rfl (by decide) (fun X C Z E => ?_)
  refine n_aload C 0 dX5_init_0 (q := 1) rfl rfl rfl ?_
  refine n_obj C kO_X5 dX5_init_1 (q := 4) rfl kO_I kO_C (Nat.le_of_ble_eq_true rfl) (Nat.le_of_ble_eq_true rfl) ?_
  refine n_aload C 0 dX5_init_4 (q := 5) rfl rfl rfl ?_
  refine n_sipush C (v := 1024) dX5_init_5 (q := 8) rfl (by decide) ?_
  refine n_newI C kA_I (N' := 1024) (by decide) (by decide) (Nat.le_of_ble_eq_true rfl) (Nat.le_of_ble_eq_true rfl) (Nat.le_of_ble_eq_true rfl) dX5_init_8 (q := 10) rfl (fun q1 => ?_)
  refine n_putF C E.2.2.2 (v := .ref q1) (i := 0) 0 rfl rfl kU_X5 tyX5_ok nmX5 (by decide) kF_X5_9 rfl rfl rfl rfl rfl (Nat.le_of_ble_eq_true rfl) dX5_init_10 (q := 13) rfl ?_
  show n_G 1 X D 1 1024 13 [(0, .ref h0)] [] [(h0, .inr (5, [.ref q1, .null, .int 0])), (q1, .inl (cy 0, 1024, .inl z32))]
  refine n_aload C 0 dX5_init_13 (q := 14) rfl rfl rfl ?_
  refine n_sipush C (v := 1024) dX5_init_14 (q := 17) rfl (by decide) ?_
  refine n_newJ C kA_J (N' := 1024) (by decide) (by decide) (Nat.le_of_ble_eq_true rfl) (Nat.le_of_ble_eq_true rfl) (Nat.le_of_ble_eq_true rfl) dX5_init_17 (q := 19) rfl (fun q2 => ?_)
  refine n_putF C E.2.2.2 (v := .ref q2) (i := 1) 0 rfl rfl kU_X5 tyX5_ok nmX5 (by decide) kF_X5_15 rfl rfl rfl rfl rfl (Nat.le_of_ble_eq_true rfl) dX5_init_19 (q := 22) rfl ?_
  show n_G 1 X D 2 2048 22 [(0, .ref h0)] [] [(h0, .inr (5, [.ref q1, .ref q2, .int 0])), (q1, .inl (cy 0, 1024, .inl z32)), (q2, .inl (cy 1, 1024, .inr (.inl z64)))]
  refine n_aload C 0 dX5_init_22 (q := 23) rfl rfl rfl ?_
  refine n_iconst C (v := (-1)) dX5_init_23 (q := 24) rfl (by decide) ?_
  refine n_put C (v := .int (-1)) (i := 2) 0 rfl rfl kU_X5 tyX5_ok nmX5 (by decide) kF_X5_19 rfl rfl rfl rfl (Nat.le_of_ble_eq_true rfl) dX5_init_24 (q := 27) rfl ?_
  show n_G 1 X D 2 2048 27 [(0, .ref h0)] [] [(h0, .inr (5, [.ref q1, .ref q2, .int (-1)])), (q1, .inl (cy 0, 1024, .inl z32)), (q2, .inl (cy 1, 1024, .inr (.inl z64)))]
  exact n_vret C E rfl rfl ⟨q1, q2, rfl⟩ dX5_init_27
def at_X6 (cy : Nat → ClassId) (h0 : Nat) (w : va_W) : Prop := ∃ q1 q2 : Nat, w = [(h0, .inr (6, [.ref q1, .int 0, .ref q2])), (q1, .inl (cy 0, 252, .inl z32)), (q2, .inl (cy 2, 1024, .inl z32))]
def rm_X6 : Room := { frames := 1, cells := 2, slots := 1276, locals := 12 }
theorem c_X6 {l : Launch} {D : va_G} {cy : Nat → ClassId} (h0 : Nat) : n_R l D cy rm_X6 yX6_init cX6_init 1 h0 6 [.null, .int 0, .null] 2 1276 (at_X6 cy h0) := by
  refine n_R_of (own := RX6) (by decide +kernel) rfl rfl (by decide) (fun X C Z E => ?_)
  refine n_aload C 0 dX6_init_0 (q := 1) rfl rfl rfl ?_
  refine n_obj C kO_X6 dX6_init_1 (q := 4) rfl kO_I kO_C (Nat.le_of_ble_eq_true rfl) (Nat.le_of_ble_eq_true rfl) ?_
  refine n_aload C 0 dX6_init_4 (q := 5) rfl rfl rfl ?_
  refine n_sipush C (v := 252) dX6_init_5 (q := 8) rfl (by decide) ?_
  refine n_newI C kA_I (N' := 252) (by decide) (by decide) (Nat.le_of_ble_eq_true rfl) (Nat.le_of_ble_eq_true rfl) (Nat.le_of_ble_eq_true rfl) dX6_init_8 (q := 10) rfl (fun q1 => ?_)
  refine n_putF C E.2.2.2 (v := .ref q1) (i := 0) 0 rfl rfl kU_X6 tyX6_ok nmX6 (by decide) kF_X6_11 rfl rfl rfl rfl rfl (Nat.le_of_ble_eq_true rfl) dX6_init_10 (q := 13) rfl ?_
  show n_G 1 X D 1 252 13 [(0, .ref h0)] [] [(h0, .inr (6, [.ref q1, .int 0, .null])), (q1, .inl (cy 0, 252, .inl z32))]
  refine n_aload C 0 dX6_init_13 (q := 14) rfl rfl rfl ?_
  refine n_sipush C (v := 1024) dX6_init_14 (q := 17) rfl (by decide) ?_
  refine n_newZ C kA_Z (N' := 1024) (by decide) (by decide) (Nat.le_of_ble_eq_true rfl) (Nat.le_of_ble_eq_true rfl) (Nat.le_of_ble_eq_true rfl) dX6_init_17 (q := 19) rfl (fun q2 => ?_)
  refine n_putF C E.2.2.2 (v := .ref q2) (i := 2) 0 rfl rfl kU_X6 tyX6_ok nmX6 (by decide) kF_X6_15 rfl rfl rfl rfl rfl (Nat.le_of_ble_eq_true rfl) dX6_init_19 (q := 22) rfl ?_
  show n_G 1 X D 2 1276 22 [(0, .ref h0)] [] [(h0, .inr (6, [.ref q1, .int 0, .ref q2])), (q1, .inl (cy 0, 252, .inl z32)), (q2, .inl (cy 2, 1024, .inl z32))]
  exact n_vret C E rfl rfl ⟨q1, q2, rfl⟩ dX6_init_22
def at_X7 (cy : Nat → ClassId) (h0 : Nat) (w : va_W) : Prop := ∃ q1 : Nat, w = [(h0, .inr (7, [.int 0, .int 0, .ref q1])), (q1, .inl (cy 1, 40, .inr (.inl z64)))]
def rm_X7 : Room := { frames := 1, cells := 1, slots := 40, locals := 12 }
theorem c_X7 {l : Launch} {D : va_G} {cy : Nat → ClassId} (h0 : Nat) : n_R l D cy rm_X7 yX7_init cX7_init 1 h0 7 [.int 0, .int 0, .null] 1 40 (at_X7 cy h0) := by
  refine n_R_of (own := RX7) (by decide +kernel) rfl rfl (by decide) (fun X C Z E => ?_)
  refine n_aload C 0 dX7_init_0 (q := 1) rfl rfl rfl ?_
  refine n_obj C kO_X7 dX7_init_1 (q := 4) rfl kO_I kO_C (Nat.le_of_ble_eq_true rfl) (Nat.le_of_ble_eq_true rfl) ?_
  refine n_aload C 0 dX7_init_4 (q := 5) rfl rfl rfl ?_
  refine n_bipush C (v := 40) dX7_init_5 (q := 7) rfl (by decide) ?_
  refine n_newJ C kA_J (N' := 40) (by decide) (by decide) (Nat.le_of_ble_eq_true rfl) (Nat.le_of_ble_eq_true rfl) (Nat.le_of_ble_eq_true rfl) dX7_init_7 (q := 9) rfl (fun q1 => ?_)
  refine n_putF C E.2.2.2 (v := .ref q1) (i := 2) 0 rfl rfl kU_X7 tyX7_ok nmX7 (by decide) kF_X7_9 rfl rfl rfl rfl rfl (Nat.le_of_ble_eq_true rfl) dX7_init_9 (q := 12) rfl ?_
  show n_G 1 X D 1 40 12 [(0, .ref h0)] [] [(h0, .inr (7, [.int 0, .int 0, .ref q1])), (q1, .inl (cy 1, 40, .inr (.inl z64)))]
  exact n_vret C E rfl rfl ⟨q1, rfl⟩ dX7_init_12
def at_X8 (cy : Nat → ClassId) (h0 : Nat) (w : va_W) : Prop := ∃ q1 : Nat, w = [(h0, .inr (8, [.ref q1, .int 0])), (q1, .inl (cy 0, 120, .inl z32))]
def rm_X8 : Room := { frames := 1, cells := 1, slots := 120, locals := 12 }
theorem c_X8 {l : Launch} {D : va_G} {cy : Nat → ClassId} (h0 : Nat) : n_R l D cy rm_X8 yX8_init cX8_init 1 h0 8 [.null, .int 0] 1 120 (at_X8 cy h0) := by
  refine n_R_of (own := RX8) (by decide +kernel) rfl rfl (by decide) (fun X C Z E => ?_)
  refine n_aload C 0 dX8_init_0 (q := 1) rfl rfl rfl ?_
  refine n_obj C kO_X8 dX8_init_1 (q := 4) rfl kO_I kO_C (Nat.le_of_ble_eq_true rfl) (Nat.le_of_ble_eq_true rfl) ?_
  refine n_aload C 0 dX8_init_4 (q := 5) rfl rfl rfl ?_
  refine n_bipush C (v := 120) dX8_init_5 (q := 7) rfl (by decide) ?_
  refine n_newI C kA_I (N' := 120) (by decide) (by decide) (Nat.le_of_ble_eq_true rfl) (Nat.le_of_ble_eq_true rfl) (Nat.le_of_ble_eq_true rfl) dX8_init_7 (q := 9) rfl (fun q1 => ?_)
  refine n_putF C E.2.2.2 (v := .ref q1) (i := 0) 0 rfl rfl kU_X8 tyX8_ok nmX8 (by decide) kF_X8_9 rfl rfl rfl rfl rfl (Nat.le_of_ble_eq_true rfl) dX8_init_9 (q := 12) rfl ?_
  show n_G 1 X D 1 120 12 [(0, .ref h0)] [] [(h0, .inr (8, [.ref q1, .int 0])), (q1, .inl (cy 0, 120, .inl z32))]
  exact n_vret C E rfl rfl ⟨q1, rfl⟩ dX8_init_12
def at_X12 (cy : Nat → ClassId) (h0 : Nat) (w : va_W) : Prop := ∃ q1 q2 q3 q4 q5 q6 q7 q8 q9 q10 q11 q12 q13 q14 q15 q16 q17 : Nat, w = [(h0, .inr (12, [.ref q1, .ref q2, .int 0, .ref q3, .int 0, .ref q4, .int 0, .int 0, .int 0, .int 0, .int 0, .int 0, .int 0, .int 0, .int 0, .int 0, .int 0, .ref q5, .ref q6, .ref q7, .ref q8, .ref q9, .ref q10, .ref q11, .ref q12, .ref q13, .int 0, .ref q14, .ref q15, .ref q16, .ref q17])), (q1, .inl (cy 0, 1208, .inl (upd z32 2 (-1)))), (q2, .inl (cy 0, 1208, .inl z32)), (q3, .inl (cy 0, 120, .inl z32)), (q4, .inl (cy 0, 7, .inl z32)), (q5, .inl (cy 2, 1024, .inl z32)), (q6, .inl (cy 2, 1024, .inl z32)), (q7, .inl (cy 0, 40, .inl z32)), (q8, .inl (cy 0, 40, .inl z32)), (q9, .inl (cy 2, 40, .inl z32)), (q10, .inl (cy 0, 40, .inl z32)), (q11, .inl (cy 0, 1024, .inl z32)), (q12, .inl (cy 0, 200, .inl z32)), (q13, .inl (cy 0, 200, .inl z32)), (q14, .inl (cy 0, 4, .inl z32)), (q15, .inl (cy 0, 4, .inl z32)), (q16, .inl (cy 1, 160, .inr (.inl z64))), (q17, .inl (cy 1, 40, .inr (.inl z64)))]
def rm_X12 : Room := { frames := 1, cells := 17, slots := 6383, locals := 12 }
theorem c_X12 {l : Launch} {D : va_G} {cy : Nat → ClassId} (h0 : Nat) : n_R l D cy rm_X12 yX12_init cX12_init 1 h0 12 [.null, .null, .int 0, .null, .int 0, .null, .int 0, .int 0, .int 0, .int 0, .int 0, .int 0, .int 0, .int 0, .int 0, .int 0, .int 0, .null, .null, .null, .null, .null, .null, .null, .null, .null, .int 0, .null, .null, .null, .null] 17 6383 (at_X12 cy h0) := by
  refine n_R_of (own := RX12) (by decide +kernel) rfl rfl (by decide) (fun X C Z E => ?_)
  refine n_aload C 0 dX12_init_0 (q := 1) rfl rfl rfl ?_
  refine n_obj C kO_X12 dX12_init_1 (q := 4) rfl kO_I kO_C (Nat.le_of_ble_eq_true rfl) (Nat.le_of_ble_eq_true rfl) ?_
  refine n_aload C 0 dX12_init_4 (q := 5) rfl rfl rfl ?_
  refine n_sipush C (v := 1208) dX12_init_5 (q := 8) rfl (by decide) ?_
  refine n_newI C kA_I (N' := 1208) (by decide) (by decide) (Nat.le_of_ble_eq_true rfl) (Nat.le_of_ble_eq_true rfl) (Nat.le_of_ble_eq_true rfl) dX12_init_8 (q := 10) rfl (fun q1 => ?_)
  refine n_putF C E.2.2.2 (v := .ref q1) (i := 0) 0 rfl rfl kU_X12 tyX12_ok nmX12 (by decide) kF_X12_7 rfl rfl rfl rfl rfl (Nat.le_of_ble_eq_true rfl) dX12_init_10 (q := 13) rfl ?_
  show n_G 1 X D 1 1208 13 [(0, .ref h0)] [] [(h0, .inr (12, [.ref q1, .null, .int 0, .null, .int 0, .null, .int 0, .int 0, .int 0, .int 0, .int 0, .int 0, .int 0, .int 0, .int 0, .int 0, .int 0, .null, .null, .null, .null, .null, .null, .null, .null, .null, .int 0, .null, .null, .null, .null])), (q1, .inl (cy 0, 1208, .inl z32))]
  refine n_aload C 0 dX12_init_13 (q := 14) rfl rfl rfl ?_
  refine n_sipush C (v := 1208) dX12_init_14 (q := 17) rfl (by decide) ?_
  refine n_newI C kA_I (N' := 1208) (by decide) (by decide) (Nat.le_of_ble_eq_true rfl) (Nat.le_of_ble_eq_true rfl) (Nat.le_of_ble_eq_true rfl) dX12_init_17 (q := 19) rfl (fun q2 => ?_)
  refine n_putF C E.2.2.2 (v := .ref q2) (i := 1) 0 rfl rfl kU_X12 tyX12_ok nmX12 (by decide) kF_X12_13 rfl rfl rfl rfl rfl (Nat.le_of_ble_eq_true rfl) dX12_init_19 (q := 22) rfl ?_
  show n_G 1 X D 2 2416 22 [(0, .ref h0)] [] [(h0, .inr (12, [.ref q1, .ref q2, .int 0, .null, .int 0, .null, .int 0, .int 0, .int 0, .int 0, .int 0, .int 0, .int 0, .int 0, .int 0, .int 0, .int 0, .null, .null, .null, .null, .null, .null, .null, .null, .null, .int 0, .null, .null, .null, .null])), (q1, .inl (cy 0, 1208, .inl z32)), (q2, .inl (cy 0, 1208, .inl z32))]
  refine n_aload C 0 dX12_init_22 (q := 23) rfl rfl rfl ?_
  refine n_bipush C (v := 120) dX12_init_23 (q := 25) rfl (by decide) ?_
  refine n_newI C kA_I (N' := 120) (by decide) (by decide) (Nat.le_of_ble_eq_true rfl) (Nat.le_of_ble_eq_true rfl) (Nat.le_of_ble_eq_true rfl) dX12_init_25 (q := 27) rfl (fun q3 => ?_)
  refine n_putF C E.2.2.2 (v := .ref q3) (i := 3) 0 rfl rfl kU_X12 tyX12_ok nmX12 (by decide) kF_X12_16 rfl rfl rfl rfl rfl (Nat.le_of_ble_eq_true rfl) dX12_init_27 (q := 30) rfl ?_
  show n_G 1 X D 3 2536 30 [(0, .ref h0)] [] [(h0, .inr (12, [.ref q1, .ref q2, .int 0, .ref q3, .int 0, .null, .int 0, .int 0, .int 0, .int 0, .int 0, .int 0, .int 0, .int 0, .int 0, .int 0, .int 0, .null, .null, .null, .null, .null, .null, .null, .null, .null, .int 0, .null, .null, .null, .null])), (q1, .inl (cy 0, 1208, .inl z32)), (q2, .inl (cy 0, 1208, .inl z32)), (q3, .inl (cy 0, 120, .inl z32))]
  refine n_aload C 0 dX12_init_30 (q := 31) rfl rfl rfl ?_
  refine n_bipush C (v := 7) dX12_init_31 (q := 33) rfl (by decide) ?_
  refine n_newI C kA_I (N' := 7) (by decide) (by decide) (Nat.le_of_ble_eq_true rfl) (Nat.le_of_ble_eq_true rfl) (Nat.le_of_ble_eq_true rfl) dX12_init_33 (q := 35) rfl (fun q4 => ?_)
  refine n_putF C E.2.2.2 (v := .ref q4) (i := 5) 0 rfl rfl kU_X12 tyX12_ok nmX12 (by decide) kF_X12_19 rfl rfl rfl rfl rfl (Nat.le_of_ble_eq_true rfl) dX12_init_35 (q := 38) rfl ?_
  show n_G 1 X D 4 2543 38 [(0, .ref h0)] [] [(h0, .inr (12, [.ref q1, .ref q2, .int 0, .ref q3, .int 0, .ref q4, .int 0, .int 0, .int 0, .int 0, .int 0, .int 0, .int 0, .int 0, .int 0, .int 0, .int 0, .null, .null, .null, .null, .null, .null, .null, .null, .null, .int 0, .null, .null, .null, .null])), (q1, .inl (cy 0, 1208, .inl z32)), (q2, .inl (cy 0, 1208, .inl z32)), (q3, .inl (cy 0, 120, .inl z32)), (q4, .inl (cy 0, 7, .inl z32))]
  refine n_aload C 0 dX12_init_38 (q := 39) rfl rfl rfl ?_
  refine n_sipush C (v := 1024) dX12_init_39 (q := 42) rfl (by decide) ?_
  refine n_newZ C kA_Z (N' := 1024) (by decide) (by decide) (Nat.le_of_ble_eq_true rfl) (Nat.le_of_ble_eq_true rfl) (Nat.le_of_ble_eq_true rfl) dX12_init_42 (q := 44) rfl (fun q5 => ?_)
  refine n_putF C E.2.2.2 (v := .ref q5) (i := 17) 0 rfl rfl kU_X12 tyX12_ok nmX12 (by decide) kF_X12_22 rfl rfl rfl rfl rfl (Nat.le_of_ble_eq_true rfl) dX12_init_44 (q := 47) rfl ?_
  show n_G 1 X D 5 3567 47 [(0, .ref h0)] [] [(h0, .inr (12, [.ref q1, .ref q2, .int 0, .ref q3, .int 0, .ref q4, .int 0, .int 0, .int 0, .int 0, .int 0, .int 0, .int 0, .int 0, .int 0, .int 0, .int 0, .ref q5, .null, .null, .null, .null, .null, .null, .null, .null, .int 0, .null, .null, .null, .null])), (q1, .inl (cy 0, 1208, .inl z32)), (q2, .inl (cy 0, 1208, .inl z32)), (q3, .inl (cy 0, 120, .inl z32)), (q4, .inl (cy 0, 7, .inl z32)), (q5, .inl (cy 2, 1024, .inl z32))]
  refine n_aload C 0 dX12_init_47 (q := 48) rfl rfl rfl ?_
  refine n_sipush C (v := 1024) dX12_init_48 (q := 51) rfl (by decide) ?_
  refine n_newZ C kA_Z (N' := 1024) (by decide) (by decide) (Nat.le_of_ble_eq_true rfl) (Nat.le_of_ble_eq_true rfl) (Nat.le_of_ble_eq_true rfl) dX12_init_51 (q := 53) rfl (fun q6 => ?_)
  refine n_putF C E.2.2.2 (v := .ref q6) (i := 18) 0 rfl rfl kU_X12 tyX12_ok nmX12 (by decide) kF_X12_26 rfl rfl rfl rfl rfl (Nat.le_of_ble_eq_true rfl) dX12_init_53 (q := 56) rfl ?_
  show n_G 1 X D 6 4591 56 [(0, .ref h0)] [] [(h0, .inr (12, [.ref q1, .ref q2, .int 0, .ref q3, .int 0, .ref q4, .int 0, .int 0, .int 0, .int 0, .int 0, .int 0, .int 0, .int 0, .int 0, .int 0, .int 0, .ref q5, .ref q6, .null, .null, .null, .null, .null, .null, .null, .int 0, .null, .null, .null, .null])), (q1, .inl (cy 0, 1208, .inl z32)), (q2, .inl (cy 0, 1208, .inl z32)), (q3, .inl (cy 0, 120, .inl z32)), (q4, .inl (cy 0, 7, .inl z32)), (q5, .inl (cy 2, 1024, .inl z32)), (q6, .inl (cy 2, 1024, .inl z32))]
  refine n_aload C 0 dX12_init_56 (q := 57) rfl rfl rfl ?_
  refine n_bipush C (v := 40) dX12_init_57 (q := 59) rfl (by decide) ?_
  refine n_newI C kA_I (N' := 40) (by decide) (by decide) (Nat.le_of_ble_eq_true rfl) (Nat.le_of_ble_eq_true rfl) (Nat.le_of_ble_eq_true rfl) dX12_init_59 (q := 61) rfl (fun q7 => ?_)
  refine n_putF C E.2.2.2 (v := .ref q7) (i := 19) 0 rfl rfl kU_X12 tyX12_ok nmX12 (by decide) kF_X12_29 rfl rfl rfl rfl rfl (Nat.le_of_ble_eq_true rfl) dX12_init_61 (q := 64) rfl ?_
  show n_G 1 X D 7 4631 64 [(0, .ref h0)] [] [(h0, .inr (12, [.ref q1, .ref q2, .int 0, .ref q3, .int 0, .ref q4, .int 0, .int 0, .int 0, .int 0, .int 0, .int 0, .int 0, .int 0, .int 0, .int 0, .int 0, .ref q5, .ref q6, .ref q7, .null, .null, .null, .null, .null, .null, .int 0, .null, .null, .null, .null])), (q1, .inl (cy 0, 1208, .inl z32)), (q2, .inl (cy 0, 1208, .inl z32)), (q3, .inl (cy 0, 120, .inl z32)), (q4, .inl (cy 0, 7, .inl z32)), (q5, .inl (cy 2, 1024, .inl z32)), (q6, .inl (cy 2, 1024, .inl z32)), (q7, .inl (cy 0, 40, .inl z32))]
  refine n_aload C 0 dX12_init_64 (q := 65) rfl rfl rfl ?_
  refine n_bipush C (v := 40) dX12_init_65 (q := 67) rfl (by decide) ?_
  refine n_newI C kA_I (N' := 40) (by decide) (by decide) (Nat.le_of_ble_eq_true rfl) (Nat.le_of_ble_eq_true rfl) (Nat.le_of_ble_eq_true rfl) dX12_init_67 (q := 69) rfl (fun q8 => ?_)
  refine n_putF C E.2.2.2 (v := .ref q8) (i := 20) 0 rfl rfl kU_X12 tyX12_ok nmX12 (by decide) kF_X12_32 rfl rfl rfl rfl rfl (Nat.le_of_ble_eq_true rfl) dX12_init_69 (q := 72) rfl ?_
  show n_G 1 X D 8 4671 72 [(0, .ref h0)] [] [(h0, .inr (12, [.ref q1, .ref q2, .int 0, .ref q3, .int 0, .ref q4, .int 0, .int 0, .int 0, .int 0, .int 0, .int 0, .int 0, .int 0, .int 0, .int 0, .int 0, .ref q5, .ref q6, .ref q7, .ref q8, .null, .null, .null, .null, .null, .int 0, .null, .null, .null, .null])), (q1, .inl (cy 0, 1208, .inl z32)), (q2, .inl (cy 0, 1208, .inl z32)), (q3, .inl (cy 0, 120, .inl z32)), (q4, .inl (cy 0, 7, .inl z32)), (q5, .inl (cy 2, 1024, .inl z32)), (q6, .inl (cy 2, 1024, .inl z32)), (q7, .inl (cy 0, 40, .inl z32)), (q8, .inl (cy 0, 40, .inl z32))]
  refine n_aload C 0 dX12_init_72 (q := 73) rfl rfl rfl ?_
  refine n_bipush C (v := 40) dX12_init_73 (q := 75) rfl (by decide) ?_
  refine n_newZ C kA_Z (N' := 40) (by decide) (by decide) (Nat.le_of_ble_eq_true rfl) (Nat.le_of_ble_eq_true rfl) (Nat.le_of_ble_eq_true rfl) dX12_init_75 (q := 77) rfl (fun q9 => ?_)
  refine n_putF C E.2.2.2 (v := .ref q9) (i := 21) 0 rfl rfl kU_X12 tyX12_ok nmX12 (by decide) kF_X12_35 rfl rfl rfl rfl rfl (Nat.le_of_ble_eq_true rfl) dX12_init_77 (q := 80) rfl ?_
  show n_G 1 X D 9 4711 80 [(0, .ref h0)] [] [(h0, .inr (12, [.ref q1, .ref q2, .int 0, .ref q3, .int 0, .ref q4, .int 0, .int 0, .int 0, .int 0, .int 0, .int 0, .int 0, .int 0, .int 0, .int 0, .int 0, .ref q5, .ref q6, .ref q7, .ref q8, .ref q9, .null, .null, .null, .null, .int 0, .null, .null, .null, .null])), (q1, .inl (cy 0, 1208, .inl z32)), (q2, .inl (cy 0, 1208, .inl z32)), (q3, .inl (cy 0, 120, .inl z32)), (q4, .inl (cy 0, 7, .inl z32)), (q5, .inl (cy 2, 1024, .inl z32)), (q6, .inl (cy 2, 1024, .inl z32)), (q7, .inl (cy 0, 40, .inl z32)), (q8, .inl (cy 0, 40, .inl z32)), (q9, .inl (cy 2, 40, .inl z32))]
  refine n_aload C 0 dX12_init_80 (q := 81) rfl rfl rfl ?_
  refine n_bipush C (v := 40) dX12_init_81 (q := 83) rfl (by decide) ?_
  refine n_newI C kA_I (N' := 40) (by decide) (by decide) (Nat.le_of_ble_eq_true rfl) (Nat.le_of_ble_eq_true rfl) (Nat.le_of_ble_eq_true rfl) dX12_init_83 (q := 85) rfl (fun q10 => ?_)
  refine n_putF C E.2.2.2 (v := .ref q10) (i := 22) 0 rfl rfl kU_X12 tyX12_ok nmX12 (by decide) kF_X12_38 rfl rfl rfl rfl rfl (Nat.le_of_ble_eq_true rfl) dX12_init_85 (q := 88) rfl ?_
  show n_G 1 X D 10 4751 88 [(0, .ref h0)] [] [(h0, .inr (12, [.ref q1, .ref q2, .int 0, .ref q3, .int 0, .ref q4, .int 0, .int 0, .int 0, .int 0, .int 0, .int 0, .int 0, .int 0, .int 0, .int 0, .int 0, .ref q5, .ref q6, .ref q7, .ref q8, .ref q9, .ref q10, .null, .null, .null, .int 0, .null, .null, .null, .null])), (q1, .inl (cy 0, 1208, .inl z32)), (q2, .inl (cy 0, 1208, .inl z32)), (q3, .inl (cy 0, 120, .inl z32)), (q4, .inl (cy 0, 7, .inl z32)), (q5, .inl (cy 2, 1024, .inl z32)), (q6, .inl (cy 2, 1024, .inl z32)), (q7, .inl (cy 0, 40, .inl z32)), (q8, .inl (cy 0, 40, .inl z32)), (q9, .inl (cy 2, 40, .inl z32)), (q10, .inl (cy 0, 40, .inl z32))]
  refine n_aload C 0 dX12_init_88 (q := 89) rfl rfl rfl ?_
  refine n_sipush C (v := 1024) dX12_init_89 (q := 92) rfl (by decide) ?_
  refine n_newI C kA_I (N' := 1024) (by decide) (by decide) (Nat.le_of_ble_eq_true rfl) (Nat.le_of_ble_eq_true rfl) (Nat.le_of_ble_eq_true rfl) dX12_init_92 (q := 94) rfl (fun q11 => ?_)
  refine n_putF C E.2.2.2 (v := .ref q11) (i := 23) 0 rfl rfl kU_X12 tyX12_ok nmX12 (by decide) kF_X12_41 rfl rfl rfl rfl rfl (Nat.le_of_ble_eq_true rfl) dX12_init_94 (q := 97) rfl ?_
  show n_G 1 X D 11 5775 97 [(0, .ref h0)] [] [(h0, .inr (12, [.ref q1, .ref q2, .int 0, .ref q3, .int 0, .ref q4, .int 0, .int 0, .int 0, .int 0, .int 0, .int 0, .int 0, .int 0, .int 0, .int 0, .int 0, .ref q5, .ref q6, .ref q7, .ref q8, .ref q9, .ref q10, .ref q11, .null, .null, .int 0, .null, .null, .null, .null])), (q1, .inl (cy 0, 1208, .inl z32)), (q2, .inl (cy 0, 1208, .inl z32)), (q3, .inl (cy 0, 120, .inl z32)), (q4, .inl (cy 0, 7, .inl z32)), (q5, .inl (cy 2, 1024, .inl z32)), (q6, .inl (cy 2, 1024, .inl z32)), (q7, .inl (cy 0, 40, .inl z32)), (q8, .inl (cy 0, 40, .inl z32)), (q9, .inl (cy 2, 40, .inl z32)), (q10, .inl (cy 0, 40, .inl z32)), (q11, .inl (cy 0, 1024, .inl z32))]
  refine n_aload C 0 dX12_init_97 (q := 98) rfl rfl rfl ?_
  refine n_sipush C (v := 200) dX12_init_98 (q := 101) rfl (by decide) ?_
  refine n_newI C kA_I (N' := 200) (by decide) (by decide) (Nat.le_of_ble_eq_true rfl) (Nat.le_of_ble_eq_true rfl) (Nat.le_of_ble_eq_true rfl) dX12_init_101 (q := 103) rfl (fun q12 => ?_)
  refine n_putF C E.2.2.2 (v := .ref q12) (i := 24) 0 rfl rfl kU_X12 tyX12_ok nmX12 (by decide) kF_X12_44 rfl rfl rfl rfl rfl (Nat.le_of_ble_eq_true rfl) dX12_init_103 (q := 106) rfl ?_
  show n_G 1 X D 12 5975 106 [(0, .ref h0)] [] [(h0, .inr (12, [.ref q1, .ref q2, .int 0, .ref q3, .int 0, .ref q4, .int 0, .int 0, .int 0, .int 0, .int 0, .int 0, .int 0, .int 0, .int 0, .int 0, .int 0, .ref q5, .ref q6, .ref q7, .ref q8, .ref q9, .ref q10, .ref q11, .ref q12, .null, .int 0, .null, .null, .null, .null])), (q1, .inl (cy 0, 1208, .inl z32)), (q2, .inl (cy 0, 1208, .inl z32)), (q3, .inl (cy 0, 120, .inl z32)), (q4, .inl (cy 0, 7, .inl z32)), (q5, .inl (cy 2, 1024, .inl z32)), (q6, .inl (cy 2, 1024, .inl z32)), (q7, .inl (cy 0, 40, .inl z32)), (q8, .inl (cy 0, 40, .inl z32)), (q9, .inl (cy 2, 40, .inl z32)), (q10, .inl (cy 0, 40, .inl z32)), (q11, .inl (cy 0, 1024, .inl z32)), (q12, .inl (cy 0, 200, .inl z32))]
  refine n_aload C 0 dX12_init_106 (q := 107) rfl rfl rfl ?_
  refine n_sipush C (v := 200) dX12_init_107 (q := 110) rfl (by decide) ?_
  refine n_newI C kA_I (N' := 200) (by decide) (by decide) (Nat.le_of_ble_eq_true rfl) (Nat.le_of_ble_eq_true rfl) (Nat.le_of_ble_eq_true rfl) dX12_init_110 (q := 112) rfl (fun q13 => ?_)
  refine n_putF C E.2.2.2 (v := .ref q13) (i := 25) 0 rfl rfl kU_X12 tyX12_ok nmX12 (by decide) kF_X12_47 rfl rfl rfl rfl rfl (Nat.le_of_ble_eq_true rfl) dX12_init_112 (q := 115) rfl ?_
  show n_G 1 X D 13 6175 115 [(0, .ref h0)] [] [(h0, .inr (12, [.ref q1, .ref q2, .int 0, .ref q3, .int 0, .ref q4, .int 0, .int 0, .int 0, .int 0, .int 0, .int 0, .int 0, .int 0, .int 0, .int 0, .int 0, .ref q5, .ref q6, .ref q7, .ref q8, .ref q9, .ref q10, .ref q11, .ref q12, .ref q13, .int 0, .null, .null, .null, .null])), (q1, .inl (cy 0, 1208, .inl z32)), (q2, .inl (cy 0, 1208, .inl z32)), (q3, .inl (cy 0, 120, .inl z32)), (q4, .inl (cy 0, 7, .inl z32)), (q5, .inl (cy 2, 1024, .inl z32)), (q6, .inl (cy 2, 1024, .inl z32)), (q7, .inl (cy 0, 40, .inl z32)), (q8, .inl (cy 0, 40, .inl z32)), (q9, .inl (cy 2, 40, .inl z32)), (q10, .inl (cy 0, 40, .inl z32)), (q11, .inl (cy 0, 1024, .inl z32)), (q12, .inl (cy 0, 200, .inl z32)), (q13, .inl (cy 0, 200, .inl z32))]
  refine n_aload C 0 dX12_init_115 (q := 116) rfl rfl rfl ?_
  refine n_iconst C (v := 4) dX12_init_116 (q := 117) rfl (by decide) ?_
  refine n_newI C kA_I (N' := 4) (by decide) (by decide) (Nat.le_of_ble_eq_true rfl) (Nat.le_of_ble_eq_true rfl) (Nat.le_of_ble_eq_true rfl) dX12_init_117 (q := 119) rfl (fun q14 => ?_)
  refine n_putF C E.2.2.2 (v := .ref q14) (i := 27) 0 rfl rfl kU_X12 tyX12_ok nmX12 (by decide) kF_X12_50 rfl rfl rfl rfl rfl (Nat.le_of_ble_eq_true rfl) dX12_init_119 (q := 122) rfl ?_
  show n_G 1 X D 14 6179 122 [(0, .ref h0)] [] [(h0, .inr (12, [.ref q1, .ref q2, .int 0, .ref q3, .int 0, .ref q4, .int 0, .int 0, .int 0, .int 0, .int 0, .int 0, .int 0, .int 0, .int 0, .int 0, .int 0, .ref q5, .ref q6, .ref q7, .ref q8, .ref q9, .ref q10, .ref q11, .ref q12, .ref q13, .int 0, .ref q14, .null, .null, .null])), (q1, .inl (cy 0, 1208, .inl z32)), (q2, .inl (cy 0, 1208, .inl z32)), (q3, .inl (cy 0, 120, .inl z32)), (q4, .inl (cy 0, 7, .inl z32)), (q5, .inl (cy 2, 1024, .inl z32)), (q6, .inl (cy 2, 1024, .inl z32)), (q7, .inl (cy 0, 40, .inl z32)), (q8, .inl (cy 0, 40, .inl z32)), (q9, .inl (cy 2, 40, .inl z32)), (q10, .inl (cy 0, 40, .inl z32)), (q11, .inl (cy 0, 1024, .inl z32)), (q12, .inl (cy 0, 200, .inl z32)), (q13, .inl (cy 0, 200, .inl z32)), (q14, .inl (cy 0, 4, .inl z32))]
  refine n_aload C 0 dX12_init_122 (q := 123) rfl rfl rfl ?_
  refine n_iconst C (v := 4) dX12_init_123 (q := 124) rfl (by decide) ?_
  refine n_newI C kA_I (N' := 4) (by decide) (by decide) (Nat.le_of_ble_eq_true rfl) (Nat.le_of_ble_eq_true rfl) (Nat.le_of_ble_eq_true rfl) dX12_init_124 (q := 126) rfl (fun q15 => ?_)
  refine n_putF C E.2.2.2 (v := .ref q15) (i := 28) 0 rfl rfl kU_X12 tyX12_ok nmX12 (by decide) kF_X12_53 rfl rfl rfl rfl rfl (Nat.le_of_ble_eq_true rfl) dX12_init_126 (q := 129) rfl ?_
  show n_G 1 X D 15 6183 129 [(0, .ref h0)] [] [(h0, .inr (12, [.ref q1, .ref q2, .int 0, .ref q3, .int 0, .ref q4, .int 0, .int 0, .int 0, .int 0, .int 0, .int 0, .int 0, .int 0, .int 0, .int 0, .int 0, .ref q5, .ref q6, .ref q7, .ref q8, .ref q9, .ref q10, .ref q11, .ref q12, .ref q13, .int 0, .ref q14, .ref q15, .null, .null])), (q1, .inl (cy 0, 1208, .inl z32)), (q2, .inl (cy 0, 1208, .inl z32)), (q3, .inl (cy 0, 120, .inl z32)), (q4, .inl (cy 0, 7, .inl z32)), (q5, .inl (cy 2, 1024, .inl z32)), (q6, .inl (cy 2, 1024, .inl z32)), (q7, .inl (cy 0, 40, .inl z32)), (q8, .inl (cy 0, 40, .inl z32)), (q9, .inl (cy 2, 40, .inl z32)), (q10, .inl (cy 0, 40, .inl z32)), (q11, .inl (cy 0, 1024, .inl z32)), (q12, .inl (cy 0, 200, .inl z32)), (q13, .inl (cy 0, 200, .inl z32)), (q14, .inl (cy 0, 4, .inl z32)), (q15, .inl (cy 0, 4, .inl z32))]
  refine n_aload C 0 dX12_init_129 (q := 130) rfl rfl rfl ?_
  refine n_sipush C (v := 160) dX12_init_130 (q := 133) rfl (by decide) ?_
  refine n_newJ C kA_J (N' := 160) (by decide) (by decide) (Nat.le_of_ble_eq_true rfl) (Nat.le_of_ble_eq_true rfl) (Nat.le_of_ble_eq_true rfl) dX12_init_133 (q := 135) rfl (fun q16 => ?_)
  refine n_putF C E.2.2.2 (v := .ref q16) (i := 29) 0 rfl rfl kU_X12 tyX12_ok nmX12 (by decide) kF_X12_56 rfl rfl rfl rfl rfl (Nat.le_of_ble_eq_true rfl) dX12_init_135 (q := 138) rfl ?_
  show n_G 1 X D 16 6343 138 [(0, .ref h0)] [] [(h0, .inr (12, [.ref q1, .ref q2, .int 0, .ref q3, .int 0, .ref q4, .int 0, .int 0, .int 0, .int 0, .int 0, .int 0, .int 0, .int 0, .int 0, .int 0, .int 0, .ref q5, .ref q6, .ref q7, .ref q8, .ref q9, .ref q10, .ref q11, .ref q12, .ref q13, .int 0, .ref q14, .ref q15, .ref q16, .null])), (q1, .inl (cy 0, 1208, .inl z32)), (q2, .inl (cy 0, 1208, .inl z32)), (q3, .inl (cy 0, 120, .inl z32)), (q4, .inl (cy 0, 7, .inl z32)), (q5, .inl (cy 2, 1024, .inl z32)), (q6, .inl (cy 2, 1024, .inl z32)), (q7, .inl (cy 0, 40, .inl z32)), (q8, .inl (cy 0, 40, .inl z32)), (q9, .inl (cy 2, 40, .inl z32)), (q10, .inl (cy 0, 40, .inl z32)), (q11, .inl (cy 0, 1024, .inl z32)), (q12, .inl (cy 0, 200, .inl z32)), (q13, .inl (cy 0, 200, .inl z32)), (q14, .inl (cy 0, 4, .inl z32)), (q15, .inl (cy 0, 4, .inl z32)), (q16, .inl (cy 1, 160, .inr (.inl z64)))]
  refine n_aload C 0 dX12_init_138 (q := 139) rfl rfl rfl ?_
  refine n_bipush C (v := 40) dX12_init_139 (q := 141) rfl (by decide) ?_
  refine n_newJ C kA_J (N' := 40) (by decide) (by decide) (Nat.le_of_ble_eq_true rfl) (Nat.le_of_ble_eq_true rfl) (Nat.le_of_ble_eq_true rfl) dX12_init_141 (q := 143) rfl (fun q17 => ?_)
  refine n_putF C E.2.2.2 (v := .ref q17) (i := 30) 0 rfl rfl kU_X12 tyX12_ok nmX12 (by decide) kF_X12_60 rfl rfl rfl rfl rfl (Nat.le_of_ble_eq_true rfl) dX12_init_143 (q := 146) rfl ?_
  show n_G 1 X D 17 6383 146 [(0, .ref h0)] [] [(h0, .inr (12, [.ref q1, .ref q2, .int 0, .ref q3, .int 0, .ref q4, .int 0, .int 0, .int 0, .int 0, .int 0, .int 0, .int 0, .int 0, .int 0, .int 0, .int 0, .ref q5, .ref q6, .ref q7, .ref q8, .ref q9, .ref q10, .ref q11, .ref q12, .ref q13, .int 0, .ref q14, .ref q15, .ref q16, .ref q17])), (q1, .inl (cy 0, 1208, .inl z32)), (q2, .inl (cy 0, 1208, .inl z32)), (q3, .inl (cy 0, 120, .inl z32)), (q4, .inl (cy 0, 7, .inl z32)), (q5, .inl (cy 2, 1024, .inl z32)), (q6, .inl (cy 2, 1024, .inl z32)), (q7, .inl (cy 0, 40, .inl z32)), (q8, .inl (cy 0, 40, .inl z32)), (q9, .inl (cy 2, 40, .inl z32)), (q10, .inl (cy 0, 40, .inl z32)), (q11, .inl (cy 0, 1024, .inl z32)), (q12, .inl (cy 0, 200, .inl z32)), (q13, .inl (cy 0, 200, .inl z32)), (q14, .inl (cy 0, 4, .inl z32)), (q15, .inl (cy 0, 4, .inl z32)), (q16, .inl (cy 1, 160, .inr (.inl z64))), (q17, .inl (cy 1, 40, .inr (.inl z64)))]
  refine n_aload C 0 dX12_init_146 (q := 147) rfl rfl rfl ?_
  refine n_get C (i := 0) 0 rfl rfl kU_X12 (by decide) kF_X12_7 rfl dX12_init_147 (q := 150) rfl ?_
  refine n_iconst C (v := 2) dX12_init_150 (q := 151) rfl (by decide) ?_
  refine n_iconst C (v := (-1)) dX12_init_151 (q := 152) rfl (by decide) ?_
  refine n_iast C (j := 2) 1 rfl (by unfold vp_in; decide) (by decide) dX12_init_152 (q := 153) rfl ?_
  show n_G 1 X D 17 6383 153 [(0, .ref h0)] [] [(h0, .inr (12, [.ref q1, .ref q2, .int 0, .ref q3, .int 0, .ref q4, .int 0, .int 0, .int 0, .int 0, .int 0, .int 0, .int 0, .int 0, .int 0, .int 0, .int 0, .ref q5, .ref q6, .ref q7, .ref q8, .ref q9, .ref q10, .ref q11, .ref q12, .ref q13, .int 0, .ref q14, .ref q15, .ref q16, .ref q17])), (q1, .inl (cy 0, 1208, .inl (upd z32 2 (-1)))), (q2, .inl (cy 0, 1208, .inl z32)), (q3, .inl (cy 0, 120, .inl z32)), (q4, .inl (cy 0, 7, .inl z32)), (q5, .inl (cy 2, 1024, .inl z32)), (q6, .inl (cy 2, 1024, .inl z32)), (q7, .inl (cy 0, 40, .inl z32)), (q8, .inl (cy 0, 40, .inl z32)), (q9, .inl (cy 2, 40, .inl z32)), (q10, .inl (cy 0, 40, .inl z32)), (q11, .inl (cy 0, 1024, .inl z32)), (q12, .inl (cy 0, 200, .inl z32)), (q13, .inl (cy 0, 200, .inl z32)), (q14, .inl (cy 0, 4, .inl z32)), (q15, .inl (cy 0, 4, .inl z32)), (q16, .inl (cy 1, 160, .inr (.inl z64))), (q17, .inl (cy 1, 40, .inr (.inl z64)))]
  exact n_vret C E rfl rfl ⟨q1, q2, q3, q4, q5, q6, q7, q8, q9, q10, q11, q12, q13, q14, q15, q16, q17, rfl⟩ dX12_init_153
def at_X9 (cy : Nat → ClassId) (h0 : Nat) (w : va_W) : Prop := ∃ q1 q2 q3 q4 q5 q6 : Nat, w = [(h0, .inr (9, [.ref q1, .ref q3, .int 0, .ref q4, .ref q5, .ref q6, .int 0, .int 0])), (q1, .inr (8, [.ref q2, .int 0])), (q2, .inl (cy 0, 120, .inl z32)), (q3, .inl (cy 0, 120, .inl z32)), (q4, .inl (cy 0, 121, .inl z32)), (q5, .inl (cy 0, 121, .inl z32)), (q6, .inl (cy 0, 121, .inl z32))]
def rm_X9 : Room := { frames := 2, cells := 6, slots := 605, locals := 32 }
theorem c_X9 {l : Launch} {D : va_G} {cy : Nat → ClassId} (h0 : Nat) : n_R l D cy rm_X9 yX9_init cX9_init 1 h0 9 [.null, .null, .int 0, .null, .null, .null, .int 0, .int 0] 6 605 (at_X9 cy h0) := by
  refine n_R_of (own := RX9) (by decide +kernel) rfl rfl (by decide) (fun X C Z E => ?_)
  refine n_aload C 0 dX9_init_0 (q := 1) rfl rfl rfl ?_
  refine n_obj C kO_X9 dX9_init_1 (q := 4) rfl kO_I kO_C (Nat.le_of_ble_eq_true rfl) (Nat.le_of_ble_eq_true rfl) ?_
  refine n_aload C 0 dX9_init_4 (q := 5) rfl rfl rfl ?_
  refine n_new C (ci := 8) (index := 9) tyX8 [.null, .int 0] rfl kU_X8 tyX8_ok kL_X9_9 kZ_X8 kN_X8 (by decide) (Nat.le_of_ble_eq_true rfl) (Nat.le_of_ble_eq_true rfl) dX9_init_5 (q := 8) rfl (fun q1 => ?_)
  refine n_dup C dX9_init_8 (q := 9) rfl rfl ?_
  refine n_callN C Z (c_X8 q1) rfl rfl ⟨Nat.le_of_ble_eq_true rfl, Nat.le_of_ble_eq_true rfl⟩ (Nat.le_of_ble_eq_true rfl) (Nat.le_of_ble_eq_true rfl) (List.mem_of_getElem? (i := 10) rfl) kI_X8_init kN_X8 kC_X8_init kD_X8_init rfl (Nat.le_of_ble_eq_true rfl) dX9_init_9 (q := 12) rfl ?_
  rintro _ ⟨q2, rfl⟩
  show n_G 1 X D 2 122 12 [(0, .ref h0)] [.ref q1, .ref h0] [(h0, .inr (9, [.null, .null, .int 0, .null, .null, .null, .int 0, .int 0])), (q1, .inr (8, [.ref q2, .int 0])), (q2, .inl (cy 0, 120, .inl z32))]
  refine n_putF C E.2.2.2 (v := .ref q1) (i := 0) 0 rfl rfl kU_X9 tyX9_ok nmX9 (by decide) kF_X9_12 rfl rfl rfl rfl rfl (Nat.le_of_ble_eq_true rfl) dX9_init_12 (q := 15) rfl ?_
  show n_G 1 X D 2 122 15 [(0, .ref h0)] [] [(h0, .inr (9, [.ref q1, .null, .int 0, .null, .null, .null, .int 0, .int 0])), (q1, .inr (8, [.ref q2, .int 0])), (q2, .inl (cy 0, 120, .inl z32))]
  refine n_aload C 0 dX9_init_15 (q := 16) rfl rfl rfl ?_
  refine n_bipush C (v := 120) dX9_init_16 (q := 18) rfl (by decide) ?_
  refine n_newI C kA_I (N' := 120) (by decide) (by decide) (Nat.le_of_ble_eq_true rfl) (Nat.le_of_ble_eq_true rfl) (Nat.le_of_ble_eq_true rfl) dX9_init_18 (q := 20) rfl (fun q3 => ?_)
  refine n_putF C E.2.2.2 (v := .ref q3) (i := 1) 0 rfl rfl kU_X9 tyX9_ok nmX9 (by decide) kF_X9_18 rfl rfl rfl rfl rfl (Nat.le_of_ble_eq_true rfl) dX9_init_20 (q := 23) rfl ?_
  show n_G 1 X D 3 242 23 [(0, .ref h0)] [] [(h0, .inr (9, [.ref q1, .ref q3, .int 0, .null, .null, .null, .int 0, .int 0])), (q1, .inr (8, [.ref q2, .int 0])), (q2, .inl (cy 0, 120, .inl z32)), (q3, .inl (cy 0, 120, .inl z32))]
  refine n_aload C 0 dX9_init_23 (q := 24) rfl rfl rfl ?_
  refine n_bipush C (v := 121) dX9_init_24 (q := 26) rfl (by decide) ?_
  refine n_newI C kA_I (N' := 121) (by decide) (by decide) (Nat.le_of_ble_eq_true rfl) (Nat.le_of_ble_eq_true rfl) (Nat.le_of_ble_eq_true rfl) dX9_init_26 (q := 28) rfl (fun q4 => ?_)
  refine n_putF C E.2.2.2 (v := .ref q4) (i := 3) 0 rfl rfl kU_X9 tyX9_ok nmX9 (by decide) kF_X9_22 rfl rfl rfl rfl rfl (Nat.le_of_ble_eq_true rfl) dX9_init_28 (q := 31) rfl ?_
  show n_G 1 X D 4 363 31 [(0, .ref h0)] [] [(h0, .inr (9, [.ref q1, .ref q3, .int 0, .ref q4, .null, .null, .int 0, .int 0])), (q1, .inr (8, [.ref q2, .int 0])), (q2, .inl (cy 0, 120, .inl z32)), (q3, .inl (cy 0, 120, .inl z32)), (q4, .inl (cy 0, 121, .inl z32))]
  refine n_aload C 0 dX9_init_31 (q := 32) rfl rfl rfl ?_
  refine n_bipush C (v := 121) dX9_init_32 (q := 34) rfl (by decide) ?_
  refine n_newI C kA_I (N' := 121) (by decide) (by decide) (Nat.le_of_ble_eq_true rfl) (Nat.le_of_ble_eq_true rfl) (Nat.le_of_ble_eq_true rfl) dX9_init_34 (q := 36) rfl (fun q5 => ?_)
  refine n_putF C E.2.2.2 (v := .ref q5) (i := 4) 0 rfl rfl kU_X9 tyX9_ok nmX9 (by decide) kF_X9_25 rfl rfl rfl rfl rfl (Nat.le_of_ble_eq_true rfl) dX9_init_36 (q := 39) rfl ?_
  show n_G 1 X D 5 484 39 [(0, .ref h0)] [] [(h0, .inr (9, [.ref q1, .ref q3, .int 0, .ref q4, .ref q5, .null, .int 0, .int 0])), (q1, .inr (8, [.ref q2, .int 0])), (q2, .inl (cy 0, 120, .inl z32)), (q3, .inl (cy 0, 120, .inl z32)), (q4, .inl (cy 0, 121, .inl z32)), (q5, .inl (cy 0, 121, .inl z32))]
  refine n_aload C 0 dX9_init_39 (q := 40) rfl rfl rfl ?_
  refine n_bipush C (v := 121) dX9_init_40 (q := 42) rfl (by decide) ?_
  refine n_newI C kA_I (N' := 121) (by decide) (by decide) (Nat.le_of_ble_eq_true rfl) (Nat.le_of_ble_eq_true rfl) (Nat.le_of_ble_eq_true rfl) dX9_init_42 (q := 44) rfl (fun q6 => ?_)
  refine n_putF C E.2.2.2 (v := .ref q6) (i := 5) 0 rfl rfl kU_X9 tyX9_ok nmX9 (by decide) kF_X9_28 rfl rfl rfl rfl rfl (Nat.le_of_ble_eq_true rfl) dX9_init_44 (q := 47) rfl ?_
  show n_G 1 X D 6 605 47 [(0, .ref h0)] [] [(h0, .inr (9, [.ref q1, .ref q3, .int 0, .ref q4, .ref q5, .ref q6, .int 0, .int 0])), (q1, .inr (8, [.ref q2, .int 0])), (q2, .inl (cy 0, 120, .inl z32)), (q3, .inl (cy 0, 120, .inl z32)), (q4, .inl (cy 0, 121, .inl z32)), (q5, .inl (cy 0, 121, .inl z32)), (q6, .inl (cy 0, 121, .inl z32))]
  exact n_vret C E rfl rfl ⟨q1, q2, q3, q4, q5, q6, rfl⟩ dX9_init_47
def at_X10 (cy : Nat → ClassId) (h0 : Nat) (w : va_W) : Prop := ∃ q1 q2 : Nat, w = [(h0, .inr (10, [.int 0, .int (-1), .int 0, .ref q1, .ref q2])), (q1, .inl (cy 0, 8, .inl z32)), (q2, .inl (cy 4, 8, .inr (.inr (.inr (.inr (fun j => some (q2 + 1 + j))))))), (q2 + 1 + 0, .inl (cy 0, 120, .inl z32)), (q2 + 1 + 1, .inl (cy 0, 120, .inl z32)), (q2 + 1 + 2, .inl (cy 0, 120, .inl z32)), (q2 + 1 + 3, .inl (cy 0, 120, .inl z32)), (q2 + 1 + 4, .inl (cy 0, 120, .inl z32)), (q2 + 1 + 5, .inl (cy 0, 120, .inl z32)), (q2 + 1 + 6, .inl (cy 0, 120, .inl z32)), (q2 + 1 + 7, .inl (cy 0, 120, .inl z32))]
def rm_X10 : Room := { frames := 1, cells := 10, slots := 976, locals := 12 }
theorem c_X10 {l : Launch} {D : va_G} {cy : Nat → ClassId} (h0 : Nat) : n_R l D cy rm_X10 yX10_init cX10_init 1 h0 10 [.int 0, .int 0, .int 0, .null, .null] 10 976 (at_X10 cy h0) := by
  refine n_R_of (own := RX10) (by decide +kernel) rfl rfl (by decide) (fun X C Z E => ?_)
  refine n_aload C 0 dX10_init_0 (q := 1) rfl rfl rfl ?_
  refine n_obj C kO_X10 dX10_init_1 (q := 4) rfl kO_I kO_C (Nat.le_of_ble_eq_true rfl) (Nat.le_of_ble_eq_true rfl) ?_
  refine n_aload C 0 dX10_init_4 (q := 5) rfl rfl rfl ?_
  refine n_iconst C (v := (-1)) dX10_init_5 (q := 6) rfl (by decide) ?_
  refine n_put C (v := .int (-1)) (i := 1) 0 rfl rfl kU_X10 tyX10_ok nmX10 (by decide) kF_X10_9 rfl rfl rfl rfl (Nat.le_of_ble_eq_true rfl) dX10_init_6 (q := 9) rfl ?_
  show n_G 1 X D 0 0 9 [(0, .ref h0)] [] [(h0, .inr (10, [.int 0, .int (-1), .int 0, .null, .null]))]
  refine n_aload C 0 dX10_init_9 (q := 10) rfl rfl rfl ?_
  refine n_bipush C (v := 8) dX10_init_10 (q := 12) rfl (by decide) ?_
  refine n_newI C kA_I (N' := 8) (by decide) (by decide) (Nat.le_of_ble_eq_true rfl) (Nat.le_of_ble_eq_true rfl) (Nat.le_of_ble_eq_true rfl) dX10_init_12 (q := 14) rfl (fun q1 => ?_)
  refine n_putF C E.2.2.2 (v := .ref q1) (i := 3) 0 rfl rfl kU_X10 tyX10_ok nmX10 (by decide) kF_X10_15 rfl rfl rfl rfl rfl (Nat.le_of_ble_eq_true rfl) dX10_init_14 (q := 17) rfl ?_
  show n_G 1 X D 1 8 17 [(0, .ref h0)] [] [(h0, .inr (10, [.int 0, .int (-1), .int 0, .ref q1, .null])), (q1, .inl (cy 0, 8, .inl z32))]
  refine n_aload C 0 dX10_init_17 (q := 18) rfl rfl rfl ?_
  refine n_bipush C (v := 8) dX10_init_18 (q := 20) rfl (by decide) ?_
  refine n_bipush C (v := 120) dX10_init_20 (q := 22) rfl (by decide) ?_
  refine n_multi C Z (N := 8) (M := 120) kL_X10_19 kA_I (by decide) (by decide) (by decide) (by decide) (Nat.le_of_ble_eq_true rfl) (Nat.le_of_ble_eq_true rfl) (Nat.le_of_ble_eq_true rfl) (Nat.le_of_ble_eq_true rfl) (Nat.le_of_ble_eq_true rfl) dX10_init_22 (q := 26) rfl (fun q2 => ?_)
  refine n_putF C E.2.2.2 (v := .ref q2) (i := 4) 0 rfl rfl kU_X10 tyX10_ok nmX10 (by decide) kF_X10_21 rfl rfl rfl rfl rfl (Nat.le_of_ble_eq_true rfl) dX10_init_26 (q := 29) rfl ?_
  show n_G 1 X D 10 976 29 [(0, .ref h0)] [] [(h0, .inr (10, [.int 0, .int (-1), .int 0, .ref q1, .ref q2])), (q1, .inl (cy 0, 8, .inl z32)), (q2, .inl (cy 4, 8, .inr (.inr (.inr (.inr (fun j => some (q2 + 1 + j))))))), (q2 + 1 + 0, .inl (cy 0, 120, .inl z32)), (q2 + 1 + 1, .inl (cy 0, 120, .inl z32)), (q2 + 1 + 2, .inl (cy 0, 120, .inl z32)), (q2 + 1 + 3, .inl (cy 0, 120, .inl z32)), (q2 + 1 + 4, .inl (cy 0, 120, .inl z32)), (q2 + 1 + 5, .inl (cy 0, 120, .inl z32)), (q2 + 1 + 6, .inl (cy 0, 120, .inl z32)), (q2 + 1 + 7, .inl (cy 0, 120, .inl z32))]
  exact n_vret C E rfl rfl ⟨q1, q2, rfl⟩ dX10_init_29
