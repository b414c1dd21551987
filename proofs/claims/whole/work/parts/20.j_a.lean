def f_J6_bitCount_0f7a4 (x0 : Int32) (M : g_M) : Option (Int32) :=
  (some (x0 - (((Int32.toUInt32 x0 >>> (Int32.toUInt32 1 &&& Int32.toUInt32 31)).toInt32) &&& 1431655765))).bind fun y1 => (some ((y1 &&& 858993459) + (((Int32.toUInt32 y1 >>> (Int32.toUInt32 2 &&& Int32.toUInt32 31)).toInt32) &&& 858993459))).bind fun y2 => (some ((y2 + ((Int32.toUInt32 y2 >>> (Int32.toUInt32 4 &&& Int32.toUInt32 31)).toInt32)) &&& 252645135)).bind fun y3 => (some (y3 + ((Int32.toUInt32 y3 >>> (Int32.toUInt32 8 &&& Int32.toUInt32 31)).toInt32))).bind fun y4 => (some (y4 + ((Int32.toUInt32 y4 >>> (Int32.toUInt32 16 &&& Int32.toUInt32 31)).toInt32))).bind fun y5 => some (y5 &&& 63)
set_option maxRecDepth 100000 in
theorem m_J6_bitCount_0f7a4 {l : Launch} {Y : g_Y} {x0 : Int32} {M : g_M} {p : Int32} (h : f_J6_bitCount_0f7a4 x0 M = some p) : g_R l Y (0) yJ6_bitCount_0f7a4 cJ6_bitCount_0f7a4 1 (some .int) [.int x0] M (some (.int p)) M := by
  unfold f_J6_bitCount_0f7a4 at h
  refine g_R_of kP_J6 rfl (Nat.le_of_ble_eq_true rfl) (fun X C E => ?_)
  show g_G 1 X Y 0 [(0, .int x0)] [] M
  refine g_iload_n C 0 dJ6_bitCount_0f7a4_0 (q := 1) rfl rfl rfl ?_
  refine g_iload_n C 0 dJ6_bitCount_0f7a4_1 (q := 2) rfl rfl rfl ?_
  refine g_iconst C (v := 1) dJ6_bitCount_0f7a4_2 (q := 3) rfl (by decide) ?_
  refine g_iushr C dJ6_bitCount_0f7a4_3 (q := 4) rfl ?_
  refine g_ldcw C (v := 1431655765) kK_J6_265 dJ6_bitCount_0f7a4_4 (q := 7) rfl ?_
  refine g_iand C dJ6_bitCount_0f7a4_7 (q := 8) rfl ?_
  refine g_isub C dJ6_bitCount_0f7a4_8 (q := 9) rfl ?_
  obtain ⟨y1, hy1, h⟩ := g_bind h
  refine g_top hy1 ?_
  refine g_istore_n C dJ6_bitCount_0f7a4_9 (q := 10) rfl rfl (by decide) (lv' := [(0, .int y1)]) rfl ?_
  refine g_iload_n C 0 dJ6_bitCount_0f7a4_10 (q := 11) rfl rfl rfl ?_
  refine g_ldcw C (v := 858993459) kK_J6_266 dJ6_bitCount_0f7a4_11 (q := 14) rfl ?_
  refine g_iand C dJ6_bitCount_0f7a4_14 (q := 15) rfl ?_
  refine g_iload_n C 0 dJ6_bitCount_0f7a4_15 (q := 16) rfl rfl rfl ?_
  refine g_iconst C (v := 2) dJ6_bitCount_0f7a4_16 (q := 17) rfl (by decide) ?_
  refine g_iushr C dJ6_bitCount_0f7a4_17 (q := 18) rfl ?_
  refine g_ldcw C (v := 858993459) kK_J6_266 dJ6_bitCount_0f7a4_18 (q := 21) rfl ?_
  refine g_iand C dJ6_bitCount_0f7a4_21 (q := 22) rfl ?_
  refine g_iadd C dJ6_bitCount_0f7a4_22 (q := 23) rfl ?_
  obtain ⟨y2, hy2, h⟩ := g_bind h
  refine g_top hy2 ?_
  refine g_istore_n C dJ6_bitCount_0f7a4_23 (q := 24) rfl rfl (by decide) (lv' := [(0, .int y2)]) rfl ?_
  refine g_iload_n C 0 dJ6_bitCount_0f7a4_24 (q := 25) rfl rfl rfl ?_
  refine g_iload_n C 0 dJ6_bitCount_0f7a4_25 (q := 26) rfl rfl rfl ?_
  refine g_iconst C (v := 4) dJ6_bitCount_0f7a4_26 (q := 27) rfl (by decide) ?_
  refine g_iushr C dJ6_bitCount_0f7a4_27 (q := 28) rfl ?_
  refine g_iadd C dJ6_bitCount_0f7a4_28 (q := 29) rfl ?_
  refine g_ldcw C (v := 252645135) kK_J6_267 dJ6_bitCount_0f7a4_29 (q := 32) rfl ?_
  refine g_iand C dJ6_bitCount_0f7a4_32 (q := 33) rfl ?_
  obtain ⟨y3, hy3, h⟩ := g_bind h
  refine g_top hy3 ?_
  refine g_istore_n C dJ6_bitCount_0f7a4_33 (q := 34) rfl rfl (by decide) (lv' := [(0, .int y3)]) rfl ?_
  refine g_iload_n C 0 dJ6_bitCount_0f7a4_34 (q := 35) rfl rfl rfl ?_
  refine g_iload_n C 0 dJ6_bitCount_0f7a4_35 (q := 36) rfl rfl rfl ?_
  refine g_bipush C (v := 8) dJ6_bitCount_0f7a4_36 (q := 38) rfl (by decide) ?_
  refine g_iushr C dJ6_bitCount_0f7a4_38 (q := 39) rfl ?_
  refine g_iadd C dJ6_bitCount_0f7a4_39 (q := 40) rfl ?_
  obtain ⟨y4, hy4, h⟩ := g_bind h
  refine g_top hy4 ?_
  refine g_istore_n C dJ6_bitCount_0f7a4_40 (q := 41) rfl rfl (by decide) (lv' := [(0, .int y4)]) rfl ?_
  refine g_iload_n C 0 dJ6_bitCount_0f7a4_41 (q := 42) rfl rfl rfl ?_
  refine g_iload_n C 0 dJ6_bitCount_0f7a4_42 (q := 43) rfl rfl rfl ?_
  refine g_bipush C (v := 16) dJ6_bitCount_0f7a4_43 (q := 45) rfl (by decide) ?_
  refine g_iushr C dJ6_bitCount_0f7a4_45 (q := 46) rfl ?_
  refine g_iadd C dJ6_bitCount_0f7a4_46 (q := 47) rfl ?_
  obtain ⟨y5, hy5, h⟩ := g_bind h
  refine g_top hy5 ?_
  refine g_istore_n C dJ6_bitCount_0f7a4_47 (q := 48) rfl rfl (by decide) (lv' := [(0, .int y5)]) rfl ?_
  refine g_iload_n C 0 dJ6_bitCount_0f7a4_48 (q := 49) rfl rfl rfl ?_
  refine g_bipush C (v := 63) dJ6_bitCount_0f7a4_49 (q := 51) rfl (by decide) ?_
  refine g_iand C dJ6_bitCount_0f7a4_51 (q := 52) rfl ?_
  obtain rfl := Option.some.inj h
  exact g_iret C E dJ6_bitCount_0f7a4_52
def f_J6_numberOfTrailingZeros_0f7a4_62 (x0 : Int32) (x1 : Int32) (M : g_M) : Option (Int32) :=
  (if x0 ≤ 4 then (some (x1 + ((Int32.toUInt32 x0 >>> (Int32.toUInt32 1 &&& Int32.toUInt32 31)).toInt32))) else ((some ((Int32.toUInt32 x0 >>> (Int32.toUInt32 2 &&& Int32.toUInt32 31)).toInt32)).bind fun y1 => some ((x1 + 2) + ((Int32.toUInt32 y1 >>> (Int32.toUInt32 1 &&& Int32.toUInt32 31)).toInt32))))
set_option maxRecDepth 100000 in
theorem t_J6_numberOfTrailingZeros_0f7a4_62 {l : Launch} {X : g_X} {Y : g_Y} {p : Int32} {M : g_M} (C : g_C l (g_rm (0)) RJ6 cJ6_numberOfTrailingZeros_0f7a4 2 X Y) (E : g_E (some .int) X Y (some (.int p)) M) (x0 : Int32) (x1 : Int32) (h : f_J6_numberOfTrailingZeros_0f7a4_62 x0 x1 M = some p) : g_G 2 X Y 62 [(0, .int x0), (1, .int x1)] [] M := by
  unfold f_J6_numberOfTrailingZeros_0f7a4_62 at h
  refine g_iload_n C 0 dJ6_numberOfTrailingZeros_0f7a4_62 (q := 63) rfl rfl rfl ?_
  refine g_iconst C (v := 4) dJ6_numberOfTrailingZeros_0f7a4_63 (q := 64) rfl (by decide) ?_
  have hif := g_if h
  clear h
  refine g_icmp_le C dJ6_numberOfTrailingZeros_0f7a4_64 (q := 67) (tgt := 74) rfl (by decide) (fun c => ?_) (fun c => ?_)
  · have h := hif.1 c
    clear hif
    refine g_iload_n C 1 dJ6_numberOfTrailingZeros_0f7a4_74 (q := 75) rfl rfl rfl ?_
    refine g_iload_n C 0 dJ6_numberOfTrailingZeros_0f7a4_75 (q := 76) rfl rfl rfl ?_
    refine g_iconst C (v := 1) dJ6_numberOfTrailingZeros_0f7a4_76 (q := 77) rfl (by decide) ?_
    refine g_iushr C dJ6_numberOfTrailingZeros_0f7a4_77 (q := 78) rfl ?_
    refine g_iadd C dJ6_numberOfTrailingZeros_0f7a4_78 (q := 79) rfl ?_
    obtain rfl := Option.some.inj h
    exact g_iret C E dJ6_numberOfTrailingZeros_0f7a4_79
  · have h := hif.2 c
    clear hif
    refine g_iinc C (k := 1) (v := x1 + 2) dJ6_numberOfTrailingZeros_0f7a4_67 (q := 70) rfl rfl rfl (by decide) (lv' := [(1, .int (x1 + 2)), (0, .int x0)]) rfl ?_
    refine g_iload_n C 1 dJ6_numberOfTrailingZeros_0f7a4_70 (q := 71) rfl rfl rfl ?_
    refine g_iconst C (v := 2) dJ6_numberOfTrailingZeros_0f7a4_71 (q := 72) rfl (by decide) ?_
    refine g_iushr C dJ6_numberOfTrailingZeros_0f7a4_72 (q := 73) rfl ?_
    obtain ⟨y1, hy1, h⟩ := g_bind h
    refine g_top hy1 ?_
    refine g_istore_n C dJ6_numberOfTrailingZeros_0f7a4_73 (q := 74) rfl rfl (by decide) (lv' := [(0, .int y1), (1, .int (x1 + 2))]) rfl ?_
    refine g_iload_n C 1 dJ6_numberOfTrailingZeros_0f7a4_74 (q := 75) rfl rfl rfl ?_
    refine g_iload_n C 0 dJ6_numberOfTrailingZeros_0f7a4_75 (q := 76) rfl rfl rfl ?_
    refine g_iconst C (v := 1) dJ6_numberOfTrailingZeros_0f7a4_76 (q := 77) rfl (by decide) ?_
    refine g_iushr C dJ6_numberOfTrailingZeros_0f7a4_77 (q := 78) rfl ?_
    refine g_iadd C dJ6_numberOfTrailingZeros_0f7a4_78 (q := 79) rfl ?_
    obtain rfl := Option.some.inj h
    exact g_iret C E dJ6_numberOfTrailingZeros_0f7a4_79
def f_J6_numberOfTrailingZeros_0f7a4_49 (x0 : Int32) (x1 : Int32) (M : g_M) : Option (Int32) :=
  (if x0 ≤ 16 then (f_J6_numberOfTrailingZeros_0f7a4_62 x0 x1 M) else ((some ((Int32.toUInt32 x0 >>> (Int32.toUInt32 4 &&& Int32.toUInt32 31)).toInt32)).bind fun y2 => f_J6_numberOfTrailingZeros_0f7a4_62 y2 (x1 + 4) M))
set_option maxRecDepth 100000 in
theorem t_J6_numberOfTrailingZeros_0f7a4_49 {l : Launch} {X : g_X} {Y : g_Y} {p : Int32} {M : g_M} (C : g_C l (g_rm (0)) RJ6 cJ6_numberOfTrailingZeros_0f7a4 2 X Y) (E : g_E (some .int) X Y (some (.int p)) M) (x0 : Int32) (x1 : Int32) (h : f_J6_numberOfTrailingZeros_0f7a4_49 x0 x1 M = some p) : g_G 2 X Y 49 [(0, .int x0), (1, .int x1)] [] M := by
  unfold f_J6_numberOfTrailingZeros_0f7a4_49 at h
  refine g_iload_n C 0 dJ6_numberOfTrailingZeros_0f7a4_49 (q := 50) rfl rfl rfl ?_
  refine g_bipush C (v := 16) dJ6_numberOfTrailingZeros_0f7a4_50 (q := 52) rfl (by decide) ?_
  have hif := g_if h
  clear h
  refine g_icmp_le C dJ6_numberOfTrailingZeros_0f7a4_52 (q := 55) (tgt := 62) rfl (by decide) (fun c => ?_) (fun c => ?_)
  · have h := hif.1 c
    clear hif
    refine g_sub [0, 1] (lv' := [(0, .int x0), (1, .int x1)]) rfl ?_
    exact t_J6_numberOfTrailingZeros_0f7a4_62 C E x0 x1 h
  · have h := hif.2 c
    clear hif
    refine g_iinc C (k := 1) (v := x1 + 4) dJ6_numberOfTrailingZeros_0f7a4_55 (q := 58) rfl rfl rfl (by decide) (lv' := [(1, .int (x1 + 4)), (0, .int x0)]) rfl ?_
    refine g_iload_n C 1 dJ6_numberOfTrailingZeros_0f7a4_58 (q := 59) rfl rfl rfl ?_
    refine g_iconst C (v := 4) dJ6_numberOfTrailingZeros_0f7a4_59 (q := 60) rfl (by decide) ?_
    refine g_iushr C dJ6_numberOfTrailingZeros_0f7a4_60 (q := 61) rfl ?_
    obtain ⟨y2, hy2, h⟩ := g_bind h
    refine g_top hy2 ?_
    refine g_istore_n C dJ6_numberOfTrailingZeros_0f7a4_61 (q := 62) rfl rfl (by decide) (lv' := [(0, .int y2), (1, .int (x1 + 4))]) rfl ?_
    refine g_sub [0, 1] (lv' := [(0, .int y2), (1, .int (x1 + 4))]) rfl ?_
    exact t_J6_numberOfTrailingZeros_0f7a4_62 C E y2 (x1 + 4) h
def f_J6_numberOfTrailingZeros_0f7a4_34 (x0 : Int32) (x1 : Int32) (M : g_M) : Option (Int32) :=
  (if x0 ≤ 256 then (f_J6_numberOfTrailingZeros_0f7a4_49 x0 x1 M) else ((some ((Int32.toUInt32 x0 >>> (Int32.toUInt32 8 &&& Int32.toUInt32 31)).toInt32)).bind fun y3 => f_J6_numberOfTrailingZeros_0f7a4_49 y3 (x1 + 8) M))
set_option maxRecDepth 100000 in
theorem t_J6_numberOfTrailingZeros_0f7a4_34 {l : Launch} {X : g_X} {Y : g_Y} {p : Int32} {M : g_M} (C : g_C l (g_rm (0)) RJ6 cJ6_numberOfTrailingZeros_0f7a4 2 X Y) (E : g_E (some .int) X Y (some (.int p)) M) (x0 : Int32) (x1 : Int32) (h : f_J6_numberOfTrailingZeros_0f7a4_34 x0 x1 M = some p) : g_G 2 X Y 34 [(0, .int x0), (1, .int x1)] [] M := by
  unfold f_J6_numberOfTrailingZeros_0f7a4_34 at h
  refine g_iload_n C 0 dJ6_numberOfTrailingZeros_0f7a4_34 (q := 35) rfl rfl rfl ?_
  refine g_sipush C (v := 256) dJ6_numberOfTrailingZeros_0f7a4_35 (q := 38) rfl (by decide) ?_
  have hif := g_if h
  clear h
  refine g_icmp_le C dJ6_numberOfTrailingZeros_0f7a4_38 (q := 41) (tgt := 49) rfl (by decide) (fun c => ?_) (fun c => ?_)
  · have h := hif.1 c
    clear hif
    refine g_sub [0, 1] (lv' := [(0, .int x0), (1, .int x1)]) rfl ?_
    exact t_J6_numberOfTrailingZeros_0f7a4_49 C E x0 x1 h
  · have h := hif.2 c
    clear hif
    refine g_iinc C (k := 1) (v := x1 + 8) dJ6_numberOfTrailingZeros_0f7a4_41 (q := 44) rfl rfl rfl (by decide) (lv' := [(1, .int (x1 + 8)), (0, .int x0)]) rfl ?_
    refine g_iload_n C 1 dJ6_numberOfTrailingZeros_0f7a4_44 (q := 45) rfl rfl rfl ?_
    refine g_bipush C (v := 8) dJ6_numberOfTrailingZeros_0f7a4_45 (q := 47) rfl (by decide) ?_
    refine g_iushr C dJ6_numberOfTrailingZeros_0f7a4_47 (q := 48) rfl ?_
    obtain ⟨y3, hy3, h⟩ := g_bind h
    refine g_top hy3 ?_
    refine g_istore_n C dJ6_numberOfTrailingZeros_0f7a4_48 (q := 49) rfl rfl (by decide) (lv' := [(0, .int y3), (1, .int (x1 + 8))]) rfl ?_
    refine g_sub [0, 1] (lv' := [(0, .int y3), (1, .int (x1 + 8))]) rfl ?_
    exact t_J6_numberOfTrailingZeros_0f7a4_49 C E y3 (x1 + 8) h
def f_J6_numberOfTrailingZeros_0f7a4 (x0 : Int32) (M : g_M) : Option (Int32) :=
  (if 0 < ((x0 ^^^ (-1)) &&& (x0 - 1)) then ((if ((x0 ^^^ (-1)) &&& (x0 - 1)) ≤ 65536 then (f_J6_numberOfTrailingZeros_0f7a4_34 ((x0 ^^^ (-1)) &&& (x0 - 1)) 1 M) else ((some ((Int32.toUInt32 ((x0 ^^^ (-1)) &&& (x0 - 1)) >>> (Int32.toUInt32 16 &&& Int32.toUInt32 31)).toInt32)).bind fun y4 => f_J6_numberOfTrailingZeros_0f7a4_34 y4 (1 + 16) M))) else (some (((x0 ^^^ (-1)) &&& (x0 - 1)) &&& 32)))
set_option maxRecDepth 100000 in
theorem m_J6_numberOfTrailingZeros_0f7a4 {l : Launch} {Y : g_Y} {x0 : Int32} {M : g_M} {p : Int32} (h : f_J6_numberOfTrailingZeros_0f7a4 x0 M = some p) : g_R l Y (0) yJ6_numberOfTrailingZeros_0f7a4 cJ6_numberOfTrailingZeros_0f7a4 2 (some .int) [.int x0] M (some (.int p)) M := by
  unfold f_J6_numberOfTrailingZeros_0f7a4 at h
  refine g_R_of kP_J6 rfl (Nat.le_of_ble_eq_true rfl) (fun X C E => ?_)
  show g_G 2 X Y 0 [(0, .int x0)] [] M
  refine g_iload_n C 0 dJ6_numberOfTrailingZeros_0f7a4_0 (q := 1) rfl rfl rfl ?_
  refine g_iconst C (v := (-1)) dJ6_numberOfTrailingZeros_0f7a4_1 (q := 2) rfl (by decide) ?_
  refine g_ixor C dJ6_numberOfTrailingZeros_0f7a4_2 (q := 3) rfl ?_
  refine g_iload_n C 0 dJ6_numberOfTrailingZeros_0f7a4_3 (q := 4) rfl rfl rfl ?_
  refine g_iconst C (v := 1) dJ6_numberOfTrailingZeros_0f7a4_4 (q := 5) rfl (by decide) ?_
  refine g_isub C dJ6_numberOfTrailingZeros_0f7a4_5 (q := 6) rfl ?_
  refine g_iand C dJ6_numberOfTrailingZeros_0f7a4_6 (q := 7) rfl ?_
  refine g_istore_n C dJ6_numberOfTrailingZeros_0f7a4_7 (q := 8) rfl rfl (by decide) (lv' := [(0, .int ((x0 ^^^ (-1)) &&& (x0 - 1)))]) rfl ?_
  refine g_iload_n C 0 dJ6_numberOfTrailingZeros_0f7a4_8 (q := 9) rfl rfl rfl ?_
  have hif := g_if h
  clear h
  refine g_if_gt C dJ6_numberOfTrailingZeros_0f7a4_9 (q := 12) (tgt := 17) rfl (by decide) (fun c => ?_) (fun c => ?_)
  · have h := hif.1 c
    clear hif
    refine g_iconst C (v := 1) dJ6_numberOfTrailingZeros_0f7a4_17 (q := 18) rfl (by decide) ?_
    refine g_istore_n C dJ6_numberOfTrailingZeros_0f7a4_18 (q := 19) rfl rfl (by decide) (lv' := [(1, .int 1), (0, .int ((x0 ^^^ (-1)) &&& (x0 - 1)))]) rfl ?_
    refine g_iload_n C 1 dJ6_numberOfTrailingZeros_0f7a4_19 (q := 20) rfl rfl rfl ?_
    refine g_ldcw C (v := 65536) kK_J6_264 dJ6_numberOfTrailingZeros_0f7a4_20 (q := 23) rfl ?_
    have hif := g_if h
    clear h
    refine g_icmp_le C dJ6_numberOfTrailingZeros_0f7a4_23 (q := 26) (tgt := 34) rfl (by decide) (fun c => ?_) (fun c => ?_)
    · have h := hif.1 c
      clear hif
      refine g_sub [1, 0] (lv' := [(0, .int ((x0 ^^^ (-1)) &&& (x0 - 1))), (1, .int 1)]) rfl ?_
      exact t_J6_numberOfTrailingZeros_0f7a4_34 C E ((x0 ^^^ (-1)) &&& (x0 - 1)) 1 h
    · have h := hif.2 c
      clear hif
      refine g_iinc C (k := 0) (v := 1 + 16) dJ6_numberOfTrailingZeros_0f7a4_26 (q := 29) rfl rfl rfl (by decide) (lv' := [(1, .int (1 + 16)), (0, .int ((x0 ^^^ (-1)) &&& (x0 - 1)))]) rfl ?_
      refine g_iload_n C 1 dJ6_numberOfTrailingZeros_0f7a4_29 (q := 30) rfl rfl rfl ?_
      refine g_bipush C (v := 16) dJ6_numberOfTrailingZeros_0f7a4_30 (q := 32) rfl (by decide) ?_
      refine g_iushr C dJ6_numberOfTrailingZeros_0f7a4_32 (q := 33) rfl ?_
      obtain ⟨y4, hy4, h⟩ := g_bind h
      refine g_top hy4 ?_
      refine g_istore_n C dJ6_numberOfTrailingZeros_0f7a4_33 (q := 34) rfl rfl (by decide) (lv' := [(0, .int y4), (1, .int (1 + 16))]) rfl ?_
      refine g_sub [0, 1] (lv' := [(0, .int y4), (1, .int (1 + 16))]) rfl ?_
      exact t_J6_numberOfTrailingZeros_0f7a4_34 C E y4 (1 + 16) h
  · have h := hif.2 c
    clear hif
    refine g_iload_n C 0 dJ6_numberOfTrailingZeros_0f7a4_12 (q := 13) rfl rfl rfl ?_
    refine g_bipush C (v := 32) dJ6_numberOfTrailingZeros_0f7a4_13 (q := 15) rfl (by decide) ?_
    refine g_iand C dJ6_numberOfTrailingZeros_0f7a4_15 (q := 16) rfl ?_
    obtain rfl := Option.some.inj h
    exact g_iret C E dJ6_numberOfTrailingZeros_0f7a4_16
def F_J7_fill_53178_5_5 (k20 : g_M → Option (g_M)) (k : Int32 → Int32 → Int32 → g_M → Option (g_M)) (x1 : Int32) (x2 : Int32) (x3 : Int32) (M : g_M) : Option (g_M) :=
  (if x3 ≤ x2 then (k20 M) else ((g_st M 5 10 x2 x1).bind fun M1 => k x1 (x2 + 1) x3 M1))
set_option maxRecDepth 100000 in
theorem t_J7_fill_53178_5_5 {l : Launch} {X : g_X} {Y : g_Y} {p : g_M} {k20 : g_M → Option (g_M)} (C : g_C l (g_rm (0)) RJ7 cJ7_fill_53178 4 X Y) (E : g_E none X Y none p) (hk20 : ∀ (M : g_M), k20 M = some p → g_G 4 X Y 20 [] [] M) (n : Nat) : ∀ (x1 : Int32) (x2 : Int32) (x3 : Int32) (M : g_M), g_lp3 (F_J7_fill_53178_5_5 k20) n x1 x2 x3 M = some p → g_G 4 X Y 5 [(0, g_r Y 5), (1, .int x1), (2, .int x2), (3, .int x3)] [] M := by
  induction n with
  | zero => intro x1 x2 x3 M h; exact (g_nn h).elim
  | succ n ih =>
    intro x1 x2 x3 M h
    have h : F_J7_fill_53178_5_5 k20 (g_lp3 (F_J7_fill_53178_5_5 k20) n) x1 x2 x3 M = some p := h
    generalize g_lp3 (F_J7_fill_53178_5_5 k20) n = k at h ih
    unfold F_J7_fill_53178_5_5 at h
    refine g_iload_n C 2 dJ7_fill_53178_5 (q := 6) rfl rfl rfl ?_
    refine g_iload_n C 3 dJ7_fill_53178_6 (q := 7) rfl rfl rfl ?_
    have hif := g_if h
    clear h
    refine g_icmp_ge C dJ7_fill_53178_7 (q := 10) (tgt := 20) rfl (by decide) (fun c => ?_) (fun c => ?_)
    · have h := hif.1 c
      clear hif
      refine g_sub [] (lv' := []) rfl ?_
      exact hk20 M h
    · have h := hif.2 c
      clear hif
      refine g_aload_n C 0 dJ7_fill_53178_10 (q := 11) rfl rfl rfl ?_
      refine g_iload_n C 2 dJ7_fill_53178_11 (q := 12) rfl rfl rfl ?_
      refine g_iload_n C 1 dJ7_fill_53178_12 (q := 13) rfl rfl rfl ?_
      obtain ⟨M1, hM1, h⟩ := g_bind h
      refine g_iast C (k := 5) (n := 10) (by decide) (fun a => gc_5 Y a _) hM1 dJ7_fill_53178_13 (q := 14) rfl ?_
      refine g_iinc C (k := 2) (v := x2 + 1) dJ7_fill_53178_14 (q := 17) rfl rfl rfl (by decide) (lv' := [(2, .int (x2 + 1)), (0, g_r Y 5), (1, .int x1), (3, .int x3)]) rfl ?_
      refine g_goto C dJ7_fill_53178_17 (tgt := 5) (by decide) ?_
      refine g_sub [1, 2, 0, 3] (lv' := [(0, g_r Y 5), (1, .int x1), (2, .int (x2 + 1)), (3, .int x3)]) rfl ?_
      exact ih x1 (x2 + 1) x3 M1 h
theorem r_J7_fill_53178_5_5 {p : g_M} {k20 : g_M → Option (g_M)} (hk20 : ∀ (M : g_M), k20 M = some p → g_fr [5] [] M p) (n : Nat) : ∀ (x1 : Int32) (x2 : Int32) (x3 : Int32) (M : g_M), g_lp3 (F_J7_fill_53178_5_5 k20) n x1 x2 x3 M = some p → g_fr [5] [] M p := by
  induction n with
  | zero => intro x1 x2 x3 M h; exact (g_nn h).elim
  | succ n ih =>
    intro x1 x2 x3 M h
    have h : F_J7_fill_53178_5_5 k20 (g_lp3 (F_J7_fill_53178_5_5 k20) n) x1 x2 x3 M = some p := h
    generalize g_lp3 (F_J7_fill_53178_5_5 k20) n = k at h ih
    unfold F_J7_fill_53178_5_5 at h
    have hf := g_fr.rfl (S := [5]) (T := []) (M := M)
    rcases g_ifs h with h | h
    · exact hf.trans (hk20 M h)
    · obtain ⟨M1, hM1, h⟩ := g_bind h
      have hf := hf.st hM1 (by decide)
      exact hf.trans (ih x1 (x2 + 1) x3 M1 h)
def f_J7_fill_53178_5 (x1 : Int32) (M : g_M) : Option (g_M) :=
  g_lp3 (F_J7_fill_53178_5_5 (fun (M : g_M) => some M)) 20000000 x1 0 10 M
set_option maxRecDepth 100000 in
theorem m_J7_fill_53178_5 {l : Launch} {Y : g_Y} {x1 : Int32} {M : g_M} {p : g_M} (h : f_J7_fill_53178_5 x1 M = some p) : g_R l Y (0) yJ7_fill_53178 cJ7_fill_53178 4 none [g_r Y 5, .int x1] M none p := by
  unfold f_J7_fill_53178_5 at h
  refine g_R_of kP_J7 rfl (Nat.le_of_ble_eq_true rfl) (fun X C E => ?_)
  show g_G 4 X Y 0 [(0, g_r Y 5), (1, .int x1)] [] M
  refine g_iconst C (v := 0) dJ7_fill_53178_0 (q := 1) rfl (by decide) ?_
  refine g_istore_n C dJ7_fill_53178_1 (q := 2) rfl rfl (by decide) (lv' := [(2, .int 0), (0, g_r Y 5), (1, .int x1)]) rfl ?_
  refine g_aload_n C 1 dJ7_fill_53178_2 (q := 3) rfl rfl rfl ?_
  refine g_alen C (k := 5) (n := 10) (t := 0) (v := 10) (by decide) (gc_5 Y _ _) rfl (by decide) dJ7_fill_53178_3 (q := 4) rfl ?_
  refine g_istore_n C dJ7_fill_53178_4 (q := 5) rfl rfl (by decide) (lv' := [(3, .int 10), (2, .int 0), (0, g_r Y 5), (1, .int x1)]) rfl ?_
  refine g_sub [2, 3, 1, 0] (lv' := [(0, g_r Y 5), (1, .int x1), (2, .int 0), (3, .int 10)]) rfl ?_
  refine t_J7_fill_53178_5_5 C E ?_ 20000000 x1 0 10 M h
  · intro M h
    try dsimp only at h
    obtain rfl := Option.some.inj h
    exact g_vret C E dJ7_fill_53178_20
theorem r_J7_fill_53178_5 {x1 : Int32} {M : g_M} {p : g_M} (h : f_J7_fill_53178_5 x1 M = some p) : g_fr [5] [] M p := by
  unfold f_J7_fill_53178_5 at h
  have hf := g_fr.rfl (S := [5]) (T := []) (M := M)
  refine hf.trans (r_J7_fill_53178_5_5 ?_ 20000000 x1 0 10 M h)
  · intro M h
    try dsimp only at h
    have hf := g_fr.rfl (S := [5]) (T := []) (M := M)
    obtain rfl := Option.some.inj h
    exact hf
def F_J7_fill_d0a16_6 (o : Nat) (k22 : g_M → Option (g_M)) (k : Int64 → Int32 → Int32 → g_M → Option (g_M)) (x1 : Int64) (x3 : Int32) (x4 : Int32) (M : g_M) : Option (g_M) :=
  (if x4 ≤ x3 then (k22 M) else ((g_stl M (55 + o) 40 x3 x1).bind fun M1 => k x1 (x3 + 1) x4 M1))
set_option maxRecDepth 100000 in
theorem t_J7_fill_d0a16_6 {l : Launch} {X : g_X} {Y : g_Y} {p : g_M} {k22 : g_M → Option (g_M)} (o : Nat) (C : g_C l (g_rm (0)) RJ7 cJ7_fill_d0a16 5 X Y) (E : g_E none X Y none p) (ho : o < 4) (hk22 : ∀ (M : g_M), k22 M = some p → g_G 5 X Y 22 [] [] M) (n : Nat) : ∀ (x1 : Int64) (x3 : Int32) (x4 : Int32) (M : g_M), g_lp3 (F_J7_fill_d0a16_6 o k22) n x1 x3 x4 M = some p → g_G 5 X Y 6 [(0, g_r Y (55 + o)), (1, .long x1), (3, .int x3), (4, .int x4)] [] M := by
  induction n with
  | zero => intro x1 x3 x4 M h; exact (g_nn h).elim
  | succ n ih =>
    intro x1 x3 x4 M h
    have h : F_J7_fill_d0a16_6 o k22 (g_lp3 (F_J7_fill_d0a16_6 o k22) n) x1 x3 x4 M = some p := h
    generalize g_lp3 (F_J7_fill_d0a16_6 o k22) n = k at h ih
    unfold F_J7_fill_d0a16_6 at h
    refine g_iload_n C 2 dJ7_fill_d0a16_6 (q := 7) rfl rfl rfl ?_
    refine g_iload C 3 dJ7_fill_d0a16_7 (q := 9) rfl rfl ?_
    have hif := g_if h
    clear h
    refine g_icmp_ge C dJ7_fill_d0a16_9 (q := 12) (tgt := 22) rfl (by decide) (fun c => ?_) (fun c => ?_)
    · have h := hif.1 c
      clear hif
      refine g_sub [] (lv' := []) rfl ?_
      exact hk22 M h
    · have h := hif.2 c
      clear hif
      refine g_aload_n C 0 dJ7_fill_d0a16_12 (q := 13) rfl rfl rfl ?_
      refine g_iload_n C 2 dJ7_fill_d0a16_13 (q := 14) rfl rfl rfl ?_
      refine g_lload_n C 1 dJ7_fill_d0a16_14 (q := 15) rfl rfl rfl ?_
      obtain ⟨M1, hM1, h⟩ := g_bind h
      refine g_last C (k := (55 + o)) (n := 40) (by omega) (fun b => gc_nums Y _ b ho) hM1 dJ7_fill_d0a16_15 (q := 16) rfl ?_
      refine g_iinc C (k := 2) (v := x3 + 1) dJ7_fill_d0a16_16 (q := 19) rfl rfl rfl (by decide) (lv' := [(3, .int (x3 + 1)), (0, g_r Y (55 + o)), (1, .long x1), (4, .int x4)]) rfl ?_
      refine g_goto C dJ7_fill_d0a16_19 (tgt := 6) (by decide) ?_
      refine g_sub [1, 2, 0, 3] (lv' := [(0, g_r Y (55 + o)), (1, .long x1), (3, .int (x3 + 1)), (4, .int x4)]) rfl ?_
      exact ih x1 (x3 + 1) x4 M1 h
theorem r_J7_fill_d0a16_6 {p : g_M} {k22 : g_M → Option (g_M)} (o : Nat) (ho : o < 4) (hk22 : ∀ (M : g_M), k22 M = some p → g_fr [55, 56, 57, 58] [] M p) (n : Nat) : ∀ (x1 : Int64) (x3 : Int32) (x4 : Int32) (M : g_M), g_lp3 (F_J7_fill_d0a16_6 o k22) n x1 x3 x4 M = some p → g_fr [55, 56, 57, 58] [] M p := by
  induction n with
  | zero => intro x1 x3 x4 M h; exact (g_nn h).elim
  | succ n ih =>
    intro x1 x3 x4 M h
    have h : F_J7_fill_d0a16_6 o k22 (g_lp3 (F_J7_fill_d0a16_6 o k22) n) x1 x3 x4 M = some p := h
    generalize g_lp3 (F_J7_fill_d0a16_6 o k22) n = k at h ih
    unfold F_J7_fill_d0a16_6 at h
    have hf := g_fr.rfl (S := [55, 56, 57, 58]) (T := []) (M := M)
    rcases g_ifs h with h | h
    · exact hf.trans (hk22 M h)
    · obtain ⟨M1, hM1, h⟩ := g_bind h
      have hf := hf.stl hM1 ((by decide : ∀ z : Nat, z < 4 → (55 + z) ∈ [55, 56, 57, 58]) _ ho)
      exact hf.trans (ih x1 (x3 + 1) x4 M1 h)
def f_J7_fill_d0a16 (o : Nat) (x1 : Int64) (M : g_M) : Option (g_M) :=
  g_lp3 (F_J7_fill_d0a16_6 o (fun (M : g_M) => some M)) 20000000 x1 0 40 M
set_option maxRecDepth 100000 in
theorem m_J7_fill_d0a16 {l : Launch} {Y : g_Y} (o : Nat) (ho : o < 4) {x1 : Int64} {M : g_M} {p : g_M} (h : f_J7_fill_d0a16 o x1 M = some p) : g_R l Y (0) yJ7_fill_d0a16 cJ7_fill_d0a16 5 none [g_r Y (55 + o), .long x1] M none p := by
  unfold f_J7_fill_d0a16 at h
  refine g_R_of kP_J7 rfl (Nat.le_of_ble_eq_true rfl) (fun X C E => ?_)
  show g_G 5 X Y 0 [(0, g_r Y (55 + o)), (1, .long x1)] [] M
  refine g_iconst C (v := 0) dJ7_fill_d0a16_0 (q := 1) rfl (by decide) ?_
  refine g_istore_n C dJ7_fill_d0a16_1 (q := 2) rfl rfl (by decide) (lv' := [(3, .int 0), (0, g_r Y (55 + o)), (1, .long x1)]) rfl ?_
  refine g_aload_n C 1 dJ7_fill_d0a16_2 (q := 3) rfl rfl rfl ?_
  refine g_alen C (k := (55 + o)) (n := 40) (t := 1) (v := 40) (by omega) (gc_nums Y _ _ ho) rfl (by decide) dJ7_fill_d0a16_3 (q := 4) rfl ?_
  refine g_istore C dJ7_fill_d0a16_4 (q := 6) rfl (by decide) (lv' := [(4, .int 40), (3, .int 0), (0, g_r Y (55 + o)), (1, .long x1)]) rfl ?_
  refine g_sub [2, 3, 1, 0] (lv' := [(0, g_r Y (55 + o)), (1, .long x1), (3, .int 0), (4, .int 40)]) rfl ?_
  refine t_J7_fill_d0a16_6 o C E ho ?_ 20000000 x1 0 40 M h
  · intro M h
    try dsimp only at h
    obtain rfl := Option.some.inj h
    exact g_vret C E dJ7_fill_d0a16_22
theorem r_J7_fill_d0a16 (o : Nat) (ho : o < 4) {x1 : Int64} {M : g_M} {p : g_M} (h : f_J7_fill_d0a16 o x1 M = some p) : g_fr [55, 56, 57, 58] [] M p := by
  unfold f_J7_fill_d0a16 at h
  have hf := g_fr.rfl (S := [55, 56, 57, 58]) (T := []) (M := M)
  refine hf.trans (r_J7_fill_d0a16_6 o ho ?_ 20000000 x1 0 40 M h)
  · intro M h
    try dsimp only at h
    have hf := g_fr.rfl (S := [55, 56, 57, 58]) (T := []) (M := M)
    obtain rfl := Option.some.inj h
    exact hf
