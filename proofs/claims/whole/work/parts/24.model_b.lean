def f_X12_isSet (x1 : Int32) (M : g_M) : Option (Int32) :=
  (if x1 < 0 then (some 0) else ((g_ld M 60 1208 0).bind fun v1 => (if (x1 >>> (v1 &&& 31)) = 0 then (some 1) else (some 0))))
set_option maxRecDepth 100000 in
theorem m_X12_isSet {l : Launch} {Y : g_Y} {x1 : Int32} {M : g_M} {p : Int32} (h : f_X12_isSet x1 M = some p) : g_R l Y (0) yX12_isSet cX12_isSet 2 (some .boolean) [g_r Y 59, .int x1] M (some (.int p)) M := by
  unfold f_X12_isSet at h
  refine g_R_of kP_X12 rfl (Nat.le_of_ble_eq_true rfl) (fun X C E => ?_)
  show g_G 2 X Y 0 [(0, g_r Y 59), (1, .int x1)] [] M
  refine g_iload_n C 1 dX12_isSet_0 (q := 1) rfl rfl rfl ?_
  have hif := g_if h
  clear h
  refine g_if_lt C dX12_isSet_1 (q := 4) (tgt := 19) rfl (by decide) (fun c => ?_) (fun c => ?_)
  · have h := hif.1 c
    clear hif
    refine g_iconst C (v := 0) dX12_isSet_19 (q := 20) rfl (by decide) ?_
    obtain rfl := Option.some.inj h
    exact g_zret C (g_bz_lit (by decide)) E dX12_isSet_20
  · have h := hif.2 c
    clear hif
    refine g_iload_n C 1 dX12_isSet_4 (q := 5) rfl rfl rfl ?_
    refine g_aload_n C 0 dX12_isSet_5 (q := 6) rfl rfl rfl ?_
    refine g_get C (k := 59) (i := 0) (by decide) (gc_59 Y _ _) rfl kU_X12 (by decide) kF_X12_7 rfl dX12_isSet_6 (q := 9) rfl ?_
    refine g_iconst C (v := 0) dX12_isSet_9 (q := 10) rfl (by decide) ?_
    obtain ⟨v1, hv1, h⟩ := g_bind h
    refine g_iald C (k := 60) (n := 1208) (by decide) (gc_60 Y _ _) hv1 dX12_isSet_10 (q := 11) rfl ?_
    refine g_ishr C dX12_isSet_11 (q := 12) rfl ?_
    have hif := g_if h
    clear h
    refine g_if_ne C dX12_isSet_12 (q := 15) (tgt := 19) rfl (by decide) (fun c => ?_) (fun c => ?_)
    · have h := hif.2 c
      clear hif
      refine g_iconst C (v := 0) dX12_isSet_19 (q := 20) rfl (by decide) ?_
      obtain rfl := Option.some.inj h
      exact g_zret C (g_bz_lit (by decide)) E dX12_isSet_20
    · have h := hif.1 c
      clear hif
      refine g_iconst C (v := 1) dX12_isSet_15 (q := 16) rfl (by decide) ?_
      refine g_goto C dX12_isSet_16 (tgt := 20) (by decide) ?_
      obtain rfl := Option.some.inj h
      exact g_zret C (g_bz_lit (by decide)) E dX12_isSet_20
def f_X12_isKey (x0 : Int32) (M : g_M) : Option (Int32) :=
  (f_X12_in x0 0 23 M).bind fun p1 => (g_bz p1).bind fun z2 => some z2
set_option maxRecDepth 100000 in
theorem m_X12_isKey {l : Launch} {Y : g_Y} {x0 : Int32} {M : g_M} {p : Int32} (h : f_X12_isKey x0 M = some p) : g_R l Y (1) yX12_isKey cX12_isKey 1 (some .boolean) [.int x0] M (some (.int p)) M := by
  unfold f_X12_isKey at h
  refine g_R_of kP_X12 rfl (Nat.le_of_ble_eq_true rfl) (fun X C E => ?_)
  show g_G 1 X Y 0 [(0, .int x0)] [] M
  refine g_iload_n C 0 dX12_isKey_0 (q := 1) rfl rfl rfl ?_
  refine g_iconst C (v := 0) dX12_isKey_1 (q := 2) rfl (by decide) ?_
  refine g_bipush C (v := 23) dX12_isKey_2 (q := 4) rfl (by decide) ?_
  obtain ⟨p1, hp1, h⟩ := g_bind h
  refine g_callS C (as := [.int x0, .int 0, .int 23]) (st := []) (m_X12_in hp1) (g_hR (by decide)) (by decide) kM_X12_64 kT_X12_in kN_X12 kC_X12_in kD_X12_in rfl (Nat.le_of_ble_eq_true rfl) dX12_isKey_4 (q := 7) rfl ?_
  show g_G 1 X Y 7 [(0, .int x0)] [.int p1] M
  obtain ⟨z2, hz2, h⟩ := g_bind h
  obtain rfl := Option.some.inj h
  exact g_zret C hz2 E dX12_isKey_7
def f_X12_hang (x1 : Int32) (x2 : Int32) (M : g_M) : Option (Int32) :=
  (g_ld M 60 1208 ((40 + (4 * x1)) + x2)).bind fun v1 => some v1
set_option maxRecDepth 100000 in
theorem m_X12_hang {l : Launch} {Y : g_Y} {x1 : Int32} {x2 : Int32} {M : g_M} {p : Int32} (h : f_X12_hang x1 x2 M = some p) : g_R l Y (0) yX12_hang cX12_hang 3 (some .int) [g_r Y 59, .int x1, .int x2] M (some (.int p)) M := by
  unfold f_X12_hang at h
  refine g_R_of kP_X12 rfl (Nat.le_of_ble_eq_true rfl) (fun X C E => ?_)
  show g_G 3 X Y 0 [(0, g_r Y 59), (1, .int x1), (2, .int x2)] [] M
  refine g_aload_n C 0 dX12_hang_0 (q := 1) rfl rfl rfl ?_
  refine g_get C (k := 59) (i := 0) (by decide) (gc_59 Y _ _) rfl kU_X12 (by decide) kF_X12_7 rfl dX12_hang_1 (q := 4) rfl ?_
  refine g_bipush C (v := 40) dX12_hang_4 (q := 6) rfl (by decide) ?_
  refine g_iconst C (v := 4) dX12_hang_6 (q := 7) rfl (by decide) ?_
  refine g_iload_n C 1 dX12_hang_7 (q := 8) rfl rfl rfl ?_
  refine g_imul C dX12_hang_8 (q := 9) rfl ?_
  refine g_iadd C dX12_hang_9 (q := 10) rfl ?_
  refine g_iload_n C 2 dX12_hang_10 (q := 11) rfl rfl rfl ?_
  refine g_iadd C dX12_hang_11 (q := 12) rfl ?_
  obtain ⟨v1, hv1, h⟩ := g_bind h
  refine g_iald C (k := 60) (n := 1208) (by decide) (gc_60 Y _ _) hv1 dX12_hang_12 (q := 13) rfl ?_
  obtain rfl := Option.some.inj h
  exact g_iret C E dX12_hang_13
def f_X12_mayBy (x1 : Int32) (x2 : Int32) (M : g_M) : Option (Int32 × g_M) :=
  (g_ld M 60 1208 (240 + x1)).bind fun v1 => (f_X12_reads (248 + (120 * x1)) v1 x2 M).bind fun p2 => (g_bz p2.1).bind fun z3 => some (z3, p2.2)
set_option maxRecDepth 100000 in
theorem m_X12_mayBy {l : Launch} {Y : g_Y} {x1 : Int32} {x2 : Int32} {M : g_M} {p : Int32 × g_M} (h : f_X12_mayBy x1 x2 M = some p) : g_R l Y (201) yX12_mayBy cX12_mayBy 3 (some .boolean) [g_r Y 59, .int x1, .int x2] M (some (.int p.1)) p.2 := by
  unfold f_X12_mayBy at h
  refine g_R_of kP_X12 rfl (Nat.le_of_ble_eq_true rfl) (fun X C E => ?_)
  show g_G 3 X Y 0 [(0, g_r Y 59), (1, .int x1), (2, .int x2)] [] M
  refine g_aload_n C 0 dX12_mayBy_0 (q := 1) rfl rfl rfl ?_
  refine g_sipush C (v := 248) dX12_mayBy_1 (q := 4) rfl (by decide) ?_
  refine g_bipush C (v := 120) dX12_mayBy_4 (q := 6) rfl (by decide) ?_
  refine g_iload_n C 1 dX12_mayBy_6 (q := 7) rfl rfl rfl ?_
  refine g_imul C dX12_mayBy_7 (q := 8) rfl ?_
  refine g_iadd C dX12_mayBy_8 (q := 9) rfl ?_
  refine g_aload_n C 0 dX12_mayBy_9 (q := 10) rfl rfl rfl ?_
  refine g_get C (k := 59) (i := 0) (by decide) (gc_59 Y _ _) rfl kU_X12 (by decide) kF_X12_7 rfl dX12_mayBy_10 (q := 13) rfl ?_
  refine g_sipush C (v := 240) dX12_mayBy_13 (q := 16) rfl (by decide) ?_
  refine g_iload_n C 1 dX12_mayBy_16 (q := 17) rfl rfl rfl ?_
  refine g_iadd C dX12_mayBy_17 (q := 18) rfl ?_
  obtain ⟨v1, hv1, h⟩ := g_bind h
  refine g_iald C (k := 60) (n := 1208) (by decide) (gc_60 Y _ _) hv1 dX12_mayBy_18 (q := 19) rfl ?_
  refine g_iload_n C 2 dX12_mayBy_19 (q := 20) rfl rfl rfl ?_
  obtain ⟨p2, hp2, h⟩ := g_bind h
  refine g_callV C (k := 59) (as := [.int (248 + (120 * x1)), .int v1, .int x2]) (st := []) (m_X12_reads hp2) (g_hR (by decide)) (by decide) (by decide) (gc_59 Y _ _) rfl kM_X12_187 kI_X12_reads kS_X12_reads kN_X12 kC_X12_reads kD_X12_reads rfl (Nat.le_of_ble_eq_true rfl) dX12_mayBy_20 (q := 23) rfl ?_
  show g_G 3 X Y 23 [(0, g_r Y 59), (1, .int x1), (2, .int x2)] [.int p2.1] p2.2
  obtain ⟨z3, hz3, h⟩ := g_bind h
  obtain rfl := Option.some.inj h
  exact g_zret C hz3 E dX12_mayBy_23
theorem r_X12_mayBy {x1 : Int32} {x2 : Int32} {M : g_M} {p : Int32 × g_M} (h : f_X12_mayBy x1 x2 M = some p) : g_fr [] [(59, 6), (59, 7), (59, 8), (59, 9), (59, 10), (59, 11), (59, 12), (59, 13), (59, 14), (59, 15), (59, 16)] M p.2 := by
  unfold f_X12_mayBy at h
  have hf := g_fr.rfl (S := []) (T := [(59, 6), (59, 7), (59, 8), (59, 9), (59, 10), (59, 11), (59, 12), (59, 13), (59, 14), (59, 15), (59, 16)]) (M := M)
  obtain ⟨v1, -, h⟩ := g_bind h
  obtain ⟨p2, hp2, h⟩ := g_bind h
  have hf := hf.trans ((r_X12_reads hp2).mono (by decide) (by decide))
  obtain ⟨z3, -, h⟩ := g_bind h
  obtain rfl := Option.some.inj h
  exact hf
def f_X12_elder (x1 : Int32) (M : g_M) : Option (Int32 × g_M) :=
  (f_X12_in x1 0 9 M).bind fun p1 => (if p1 = 0 then ((f_X12_finding 0 M).bind fun p10 => some (p10.1, p10.2)) else ((g_ld M 60 1208 0).bind fun v2 => (if v2 = 10 then ((f_X12_finding 1 M).bind fun p9 => some (p9.1, p9.2)) else ((g_ld M 60 1208 0).bind fun v3 => (g_st M 60 1208 (10 + v3) x1).bind fun M4 => (g_st M4 60 1208 (20 + v3) 0).bind fun M5 => (g_st M5 60 1208 (30 + v3) 0).bind fun M6 => (g_ld M6 60 1208 0).bind fun v7 => (g_st M6 60 1208 0 (v7 + 1)).bind fun M8 => some (v3, M8)))))
set_option maxRecDepth 100000 in
theorem m_X12_elder {l : Launch} {Y : g_Y} {x1 : Int32} {M : g_M} {p : Int32 × g_M} (h : f_X12_elder x1 M = some p) : g_R l Y (1) yX12_elder cX12_elder 3 (some .int) [g_r Y 59, .int x1] M (some (.int p.1)) p.2 := by
  unfold f_X12_elder at h
  refine g_R_of kP_X12 rfl (Nat.le_of_ble_eq_true rfl) (fun X C E => ?_)
  show g_G 3 X Y 0 [(0, g_r Y 59), (1, .int x1)] [] M
  refine g_iload_n C 1 dX12_elder_0 (q := 1) rfl rfl rfl ?_
  refine g_iconst C (v := 0) dX12_elder_1 (q := 2) rfl (by decide) ?_
  refine g_bipush C (v := 9) dX12_elder_2 (q := 4) rfl (by decide) ?_
  obtain ⟨p1, hp1, h⟩ := g_bind h
  refine g_callS C (as := [.int x1, .int 0, .int 9]) (st := []) (m_X12_in hp1) (g_hR (by decide)) (by decide) kM_X12_64 kT_X12_in kN_X12 kC_X12_in kD_X12_in rfl (Nat.le_of_ble_eq_true rfl) dX12_elder_4 (q := 7) rfl ?_
  show g_G 3 X Y 7 [(0, g_r Y 59), (1, .int x1)] [.int p1] M
  have hif := g_if h
  clear h
  refine g_if_ne C dX12_elder_7 (q := 10) (tgt := 16) rfl (by decide) (fun c => ?_) (fun c => ?_)
  · have h := hif.2 c
    clear hif
    refine g_aload_n C 0 dX12_elder_16 (q := 17) rfl rfl rfl ?_
    refine g_get C (k := 59) (i := 0) (by decide) (gc_59 Y _ _) rfl kU_X12 (by decide) kF_X12_7 rfl dX12_elder_17 (q := 20) rfl ?_
    refine g_iconst C (v := 0) dX12_elder_20 (q := 21) rfl (by decide) ?_
    obtain ⟨v2, hv2, h⟩ := g_bind h
    refine g_iald C (k := 60) (n := 1208) (by decide) (gc_60 Y _ _) hv2 dX12_elder_21 (q := 22) rfl ?_
    refine g_bipush C (v := 10) dX12_elder_22 (q := 24) rfl (by decide) ?_
    have hif := g_if h
    clear h
    refine g_icmp_ne C dX12_elder_24 (q := 27) (tgt := 33) rfl (by decide) (fun c => ?_) (fun c => ?_)
    · have h := hif.2 c
      clear hif
      refine g_aload_n C 0 dX12_elder_33 (q := 34) rfl rfl rfl ?_
      refine g_get C (k := 59) (i := 0) (by decide) (gc_59 Y _ _) rfl kU_X12 (by decide) kF_X12_7 rfl dX12_elder_34 (q := 37) rfl ?_
      refine g_iconst C (v := 0) dX12_elder_37 (q := 38) rfl (by decide) ?_
      obtain ⟨v3, hv3, h⟩ := g_bind h
      refine g_iald C (k := 60) (n := 1208) (by decide) (gc_60 Y _ _) hv3 dX12_elder_38 (q := 39) rfl ?_
      refine g_istore_n C dX12_elder_39 (q := 40) rfl rfl (by decide) (lv' := [(2, .int v3), (0, g_r Y 59), (1, .int x1)]) rfl ?_
      refine g_aload_n C 1 dX12_elder_40 (q := 41) rfl rfl rfl ?_
      refine g_get C (k := 59) (i := 0) (by decide) (gc_59 Y _ _) rfl kU_X12 (by decide) kF_X12_7 rfl dX12_elder_41 (q := 44) rfl ?_
      refine g_bipush C (v := 10) dX12_elder_44 (q := 46) rfl (by decide) ?_
      refine g_iload_n C 0 dX12_elder_46 (q := 47) rfl rfl rfl ?_
      refine g_iadd C dX12_elder_47 (q := 48) rfl ?_
      refine g_iload_n C 2 dX12_elder_48 (q := 49) rfl rfl rfl ?_
      obtain ⟨M4, hM4, h⟩ := g_bind h
      refine g_iast C (k := 60) (n := 1208) (by decide) (fun a => gc_60 Y a _) hM4 dX12_elder_49 (q := 50) rfl ?_
      refine g_aload_n C 1 dX12_elder_50 (q := 51) rfl rfl rfl ?_
      refine g_get C (k := 59) (i := 0) (by decide) (gc_59 Y _ _) rfl kU_X12 (by decide) kF_X12_7 rfl dX12_elder_51 (q := 54) rfl ?_
      refine g_bipush C (v := 20) dX12_elder_54 (q := 56) rfl (by decide) ?_
      refine g_iload_n C 0 dX12_elder_56 (q := 57) rfl rfl rfl ?_
      refine g_iadd C dX12_elder_57 (q := 58) rfl ?_
      refine g_iconst C (v := 0) dX12_elder_58 (q := 59) rfl (by decide) ?_
      obtain ⟨M5, hM5, h⟩ := g_bind h
      refine g_iast C (k := 60) (n := 1208) (by decide) (fun a => gc_60 Y a _) hM5 dX12_elder_59 (q := 60) rfl ?_
      refine g_aload_n C 1 dX12_elder_60 (q := 61) rfl rfl rfl ?_
      refine g_get C (k := 59) (i := 0) (by decide) (gc_59 Y _ _) rfl kU_X12 (by decide) kF_X12_7 rfl dX12_elder_61 (q := 64) rfl ?_
      refine g_bipush C (v := 30) dX12_elder_64 (q := 66) rfl (by decide) ?_
      refine g_iload_n C 0 dX12_elder_66 (q := 67) rfl rfl rfl ?_
      refine g_iadd C dX12_elder_67 (q := 68) rfl ?_
      refine g_iconst C (v := 0) dX12_elder_68 (q := 69) rfl (by decide) ?_
      obtain ⟨M6, hM6, h⟩ := g_bind h
      refine g_iast C (k := 60) (n := 1208) (by decide) (fun a => gc_60 Y a _) hM6 dX12_elder_69 (q := 70) rfl ?_
      refine g_aload_n C 1 dX12_elder_70 (q := 71) rfl rfl rfl ?_
      refine g_get C (k := 59) (i := 0) (by decide) (gc_59 Y _ _) rfl kU_X12 (by decide) kF_X12_7 rfl dX12_elder_71 (q := 74) rfl ?_
      refine g_iconst C (v := 0) dX12_elder_74 (q := 75) rfl (by decide) ?_
      refine g_dup2 C dX12_elder_75 (q := 76) rfl rfl rfl ?_
      obtain ⟨v7, hv7, h⟩ := g_bind h
      refine g_iald C (k := 60) (n := 1208) (by decide) (gc_60 Y _ _) hv7 dX12_elder_76 (q := 77) rfl ?_
      refine g_iconst C (v := 1) dX12_elder_77 (q := 78) rfl (by decide) ?_
      refine g_iadd C dX12_elder_78 (q := 79) rfl ?_
      obtain ⟨M8, hM8, h⟩ := g_bind h
      refine g_iast C (k := 60) (n := 1208) (by decide) (fun a => gc_60 Y a _) hM8 dX12_elder_79 (q := 80) rfl ?_
      refine g_iload_n C 0 dX12_elder_80 (q := 81) rfl rfl rfl ?_
      obtain rfl := Option.some.inj h
      exact g_iret C E dX12_elder_81
    · have h := hif.1 c
      clear hif
      refine g_aload_n C 0 dX12_elder_27 (q := 28) rfl rfl rfl ?_
      refine g_iconst C (v := 1) dX12_elder_28 (q := 29) rfl (by decide) ?_
      obtain ⟨p9, hp9, h⟩ := g_bind h
      refine g_callV C (k := 59) (as := [.int 1]) (st := []) (m_X12_finding hp9) (g_hR (by decide)) (by decide) (by decide) (gc_59 Y _ _) rfl kM_X12_190 kI_X12_finding kS_X12_finding kN_X12 kC_X12_finding kD_X12_finding rfl (Nat.le_of_ble_eq_true rfl) dX12_elder_29 (q := 32) rfl ?_
      show g_G 3 X Y 32 [(0, g_r Y 59), (1, .int x1)] [.int p9.1] p9.2
      obtain rfl := Option.some.inj h
      exact g_iret C E dX12_elder_32
  · have h := hif.1 c
    clear hif
    refine g_aload_n C 0 dX12_elder_10 (q := 11) rfl rfl rfl ?_
    refine g_iconst C (v := 0) dX12_elder_11 (q := 12) rfl (by decide) ?_
    obtain ⟨p10, hp10, h⟩ := g_bind h
    refine g_callV C (k := 59) (as := [.int 0]) (st := []) (m_X12_finding hp10) (g_hR (by decide)) (by decide) (by decide) (gc_59 Y _ _) rfl kM_X12_190 kI_X12_finding kS_X12_finding kN_X12 kC_X12_finding kD_X12_finding rfl (Nat.le_of_ble_eq_true rfl) dX12_elder_12 (q := 15) rfl ?_
    show g_G 3 X Y 15 [(0, g_r Y 59), (1, .int x1)] [.int p10.1] p10.2
    obtain rfl := Option.some.inj h
    exact g_iret C E dX12_elder_15
theorem r_X12_elder {x1 : Int32} {M : g_M} {p : Int32 × g_M} (h : f_X12_elder x1 M = some p) : g_fr [60, 63] [] M p.2 := by
  unfold f_X12_elder at h
  have hf := g_fr.rfl (S := [60, 63]) (T := []) (M := M)
  obtain ⟨p1, -, h⟩ := g_bind h
  rcases g_ifs h with h | h
  · obtain ⟨p10, hp10, h⟩ := g_bind h
    have hf := hf.trans ((r_X12_finding hp10).mono (by decide) (by decide))
    obtain rfl := Option.some.inj h
    exact hf
  · obtain ⟨v2, -, h⟩ := g_bind h
    rcases g_ifs h with h | h
    · obtain ⟨p9, hp9, h⟩ := g_bind h
      have hf := hf.trans ((r_X12_finding hp9).mono (by decide) (by decide))
      obtain rfl := Option.some.inj h
      exact hf
    · obtain ⟨v3, -, h⟩ := g_bind h
      obtain ⟨M4, hM4, h⟩ := g_bind h
      have hf := hf.st hM4 (by decide)
      obtain ⟨M5, hM5, h⟩ := g_bind h
      have hf := hf.st hM5 (by decide)
      obtain ⟨M6, hM6, h⟩ := g_bind h
      have hf := hf.st hM6 (by decide)
      obtain ⟨v7, -, h⟩ := g_bind h
      obtain ⟨M8, hM8, h⟩ := g_bind h
      have hf := hf.st hM8 (by decide)
      obtain rfl := Option.some.inj h
      exact hf
def F_X12_lentTo_4 (M : g_M) (k44 : Int32 → Option (Int32)) (k : Int32 → Int32 → Int32 → Option (Int32)) (x1 : Int32) (x2 : Int32) (x3 : Int32) : Option (Int32) :=
  (g_ld M 60 1208 4).bind fun v1 => (if v1 ≤ x3 then (k44 x2) else ((g_ld M 60 1208 (200 + (2 * x3))).bind fun v2 => (if v2 = x1 then (k x1 (x2 + 1) (x3 + 1)) else (k x1 (x2 + 0) (x3 + 1)))))
set_option maxRecDepth 100000 in
theorem t_X12_lentTo_4 {l : Launch} {X : g_X} {Y : g_Y} {p : Int32} {M : g_M} {k44 : Int32 → Option (Int32)} (C : g_C l (g_rm (0)) RX12 cX12_lentTo 4 X Y) (E : g_E (some .int) X Y (some (.int p)) M) (hk44 : ∀ (x2 : Int32), k44 x2 = some p → g_G 4 X Y 44 [(2, .int x2)] [] M) (n : Nat) : ∀ (x1 : Int32) (x2 : Int32) (x3 : Int32), g_lq3 (F_X12_lentTo_4 M k44) n x1 x2 x3 = some p → g_G 4 X Y 4 [(0, g_r Y 59), (1, .int x1), (2, .int x2), (3, .int x3)] [] M := by
  induction n with
  | zero => intro x1 x2 x3 h; exact (g_nn h).elim
  | succ n ih =>
    intro x1 x2 x3 h
    have h : F_X12_lentTo_4 M k44 (g_lq3 (F_X12_lentTo_4 M k44) n) x1 x2 x3 = some p := h
    generalize g_lq3 (F_X12_lentTo_4 M k44) n = k at h ih
    unfold F_X12_lentTo_4 at h
    refine g_iload_n C 3 dX12_lentTo_4 (q := 5) rfl rfl rfl ?_
    refine g_aload_n C 0 dX12_lentTo_5 (q := 6) rfl rfl rfl ?_
    refine g_get C (k := 59) (i := 0) (by decide) (gc_59 Y _ _) rfl kU_X12 (by decide) kF_X12_7 rfl dX12_lentTo_6 (q := 9) rfl ?_
    refine g_iconst C (v := 4) dX12_lentTo_9 (q := 10) rfl (by decide) ?_
    obtain ⟨v1, hv1, h⟩ := g_bind h
    refine g_iald C (k := 60) (n := 1208) (by decide) (gc_60 Y _ _) hv1 dX12_lentTo_10 (q := 11) rfl ?_
    have hif := g_if h
    clear h
    refine g_icmp_ge C dX12_lentTo_11 (q := 14) (tgt := 44) rfl (by decide) (fun c => ?_) (fun c => ?_)
    · have h := hif.1 c
      clear hif
      refine g_sub [2] (lv' := [(2, .int x2)]) rfl ?_
      exact hk44 x2 h
    · have h := hif.2 c
      clear hif
      refine g_iload_n C 2 dX12_lentTo_14 (q := 15) rfl rfl rfl ?_
      refine g_aload_n C 0 dX12_lentTo_15 (q := 16) rfl rfl rfl ?_
      refine g_get C (k := 59) (i := 0) (by decide) (gc_59 Y _ _) rfl kU_X12 (by decide) kF_X12_7 rfl dX12_lentTo_16 (q := 19) rfl ?_
      refine g_sipush C (v := 200) dX12_lentTo_19 (q := 22) rfl (by decide) ?_
      refine g_iconst C (v := 2) dX12_lentTo_22 (q := 23) rfl (by decide) ?_
      refine g_iload_n C 3 dX12_lentTo_23 (q := 24) rfl rfl rfl ?_
      refine g_imul C dX12_lentTo_24 (q := 25) rfl ?_
      refine g_iadd C dX12_lentTo_25 (q := 26) rfl ?_
      obtain ⟨v2, hv2, h⟩ := g_bind h
      refine g_iald C (k := 60) (n := 1208) (by decide) (gc_60 Y _ _) hv2 dX12_lentTo_26 (q := 27) rfl ?_
      refine g_iload_n C 1 dX12_lentTo_27 (q := 28) rfl rfl rfl ?_
      have hif := g_if h
      clear h
      refine g_icmp_ne C dX12_lentTo_28 (q := 31) (tgt := 35) rfl (by decide) (fun c => ?_) (fun c => ?_)
      · have h := hif.2 c
        clear hif
        refine g_iconst C (v := 0) dX12_lentTo_35 (q := 36) rfl (by decide) ?_
        refine g_iadd C dX12_lentTo_36 (q := 37) rfl ?_
        refine g_istore_n C dX12_lentTo_37 (q := 38) rfl rfl (by decide) (lv' := [(2, .int (x2 + 0)), (0, g_r Y 59), (1, .int x1), (3, .int x3)]) rfl ?_
        refine g_iinc C (k := 3) (v := x3 + 1) dX12_lentTo_38 (q := 41) rfl rfl rfl (by decide) (lv' := [(3, .int (x3 + 1)), (2, .int (x2 + 0)), (0, g_r Y 59), (1, .int x1)]) rfl ?_
        refine g_goto C dX12_lentTo_41 (tgt := 4) (by decide) ?_
        refine g_sub [2, 3, 1, 0] (lv' := [(0, g_r Y 59), (1, .int x1), (2, .int (x2 + 0)), (3, .int (x3 + 1))]) rfl ?_
        exact ih x1 (x2 + 0) (x3 + 1) h
      · have h := hif.1 c
        clear hif
        refine g_iconst C (v := 1) dX12_lentTo_31 (q := 32) rfl (by decide) ?_
        refine g_goto C dX12_lentTo_32 (tgt := 36) (by decide) ?_
        refine g_iadd C dX12_lentTo_36 (q := 37) rfl ?_
        refine g_istore_n C dX12_lentTo_37 (q := 38) rfl rfl (by decide) (lv' := [(2, .int (x2 + 1)), (0, g_r Y 59), (1, .int x1), (3, .int x3)]) rfl ?_
        refine g_iinc C (k := 3) (v := x3 + 1) dX12_lentTo_38 (q := 41) rfl rfl rfl (by decide) (lv' := [(3, .int (x3 + 1)), (2, .int (x2 + 1)), (0, g_r Y 59), (1, .int x1)]) rfl ?_
        refine g_goto C dX12_lentTo_41 (tgt := 4) (by decide) ?_
        refine g_sub [2, 3, 1, 0] (lv' := [(0, g_r Y 59), (1, .int x1), (2, .int (x2 + 1)), (3, .int (x3 + 1))]) rfl ?_
        exact ih x1 (x2 + 1) (x3 + 1) h
def f_X12_lentTo (x1 : Int32) (M : g_M) : Option (Int32) :=
  g_lq3 (F_X12_lentTo_4 M (fun (x2 : Int32) => some x2)) 20000000 x1 0 0
set_option maxRecDepth 100000 in
theorem m_X12_lentTo {l : Launch} {Y : g_Y} {x1 : Int32} {M : g_M} {p : Int32} (h : f_X12_lentTo x1 M = some p) : g_R l Y (0) yX12_lentTo cX12_lentTo 4 (some .int) [g_r Y 59, .int x1] M (some (.int p)) M := by
  unfold f_X12_lentTo at h
  refine g_R_of kP_X12 rfl (Nat.le_of_ble_eq_true rfl) (fun X C E => ?_)
  show g_G 4 X Y 0 [(0, g_r Y 59), (1, .int x1)] [] M
  refine g_iconst C (v := 0) dX12_lentTo_0 (q := 1) rfl (by decide) ?_
  refine g_istore_n C dX12_lentTo_1 (q := 2) rfl rfl (by decide) (lv' := [(2, .int 0), (0, g_r Y 59), (1, .int x1)]) rfl ?_
  refine g_iconst C (v := 0) dX12_lentTo_2 (q := 3) rfl (by decide) ?_
  refine g_istore_n C dX12_lentTo_3 (q := 4) rfl rfl (by decide) (lv' := [(3, .int 0), (2, .int 0), (0, g_r Y 59), (1, .int x1)]) rfl ?_
  refine g_sub [2, 3, 1, 0] (lv' := [(0, g_r Y 59), (1, .int x1), (2, .int 0), (3, .int 0)]) rfl ?_
  refine t_X12_lentTo_4 C E ?_ 20000000 x1 0 0 h
  · intro x2 h
    try dsimp only at h
    refine g_iload_n C 0 dX12_lentTo_44 (q := 45) rfl rfl rfl ?_
    obtain rfl := Option.some.inj h
    exact g_iret C E dX12_lentTo_45
def f_X12_of_17 (M : g_M) : Option (Int32 × g_M) :=
  (f_X12_finding 0 M).bind fun p2 => some (p2.1, p2.2)
set_option maxRecDepth 100000 in
theorem t_X12_of_17 {l : Launch} {X : g_X} {Y : g_Y} {p : Int32 × g_M} (C : g_C l (g_rm (2)) RX12 cX12_of 3 X Y) (E : g_E (some .int) X Y (some (.int p.1)) p.2) (M : g_M) (h : f_X12_of_17 M = some p) : g_G 3 X Y 17 [(0, g_r Y 59)] [] M := by
  unfold f_X12_of_17 at h
  refine g_aload_n C 0 dX12_of_17 (q := 18) rfl rfl rfl ?_
  refine g_iconst C (v := 0) dX12_of_18 (q := 19) rfl (by decide) ?_
  obtain ⟨p2, hp2, h⟩ := g_bind h
  refine g_callV C (k := 59) (as := [.int 0]) (st := []) (m_X12_finding hp2) (g_hR (by decide)) (by decide) (by decide) (gc_59 Y _ _) rfl kM_X12_190 kI_X12_finding kS_X12_finding kN_X12 kC_X12_finding kD_X12_finding rfl (Nat.le_of_ble_eq_true rfl) dX12_of_19 (q := 22) rfl ?_
  show g_G 3 X Y 22 [(0, g_r Y 59)] [.int p2.1] p2.2
  obtain rfl := Option.some.inj h
  exact g_iret C E dX12_of_22
theorem r_X12_of_17 {p : Int32 × g_M} (M : g_M) (h : f_X12_of_17 M = some p) : g_fr [63] [] M p.2 := by
  unfold f_X12_of_17 at h
  have hf := g_fr.rfl (S := [63]) (T := []) (M := M)
  obtain ⟨p2, hp2, h⟩ := g_bind h
  have hf := hf.trans ((r_X12_finding hp2).mono (by decide) (by decide))
  obtain rfl := Option.some.inj h
  exact hf
def f_X12_of (x1 : Int32) (x2 : Int32) (M : g_M) : Option (Int32 × g_M) :=
  (f_X12_isElder x1 M).bind fun p1 => (if p1 = 0 then (f_X12_of_17 M) else ((f_X12_in x2 0 4 M).bind fun p3 => (if p3 = 0 then (f_X12_of_17 M) else ((if x2 = 0 then ((g_ld M 60 1208 (10 + x1)).bind fun v4 => some (v4, M)) else (if x2 = 1 then ((g_ld M 60 1208 (20 + x1)).bind fun v5 => some (v5, M)) else (if x2 = 2 then ((g_ld M 60 1208 (30 + x1)).bind fun v6 => some (v6, M)) else (if x2 = 3 then ((g_ld M 60 1208 (30 + x1)).bind fun v7 => (f_X12_many v7 M).bind fun p8 => some (p8, M)) else (f_X12_lentTo x1 M).bind fun p9 => some (p9, M)))))))))
set_option maxRecDepth 100000 in
theorem m_X12_of {l : Launch} {Y : g_Y} {x1 : Int32} {x2 : Int32} {M : g_M} {p : Int32 × g_M} (h : f_X12_of x1 x2 M = some p) : g_R l Y (2) yX12_of cX12_of 3 (some .int) [g_r Y 59, .int x1, .int x2] M (some (.int p.1)) p.2 := by
  unfold f_X12_of at h
  refine g_R_of kP_X12 rfl (Nat.le_of_ble_eq_true rfl) (fun X C E => ?_)
  show g_G 3 X Y 0 [(0, g_r Y 59), (1, .int x1), (2, .int x2)] [] M
  refine g_aload_n C 0 dX12_of_0 (q := 1) rfl rfl rfl ?_
  refine g_iload_n C 1 dX12_of_1 (q := 2) rfl rfl rfl ?_
  obtain ⟨p1, hp1, h⟩ := g_bind h
  refine g_callV C (k := 59) (as := [.int x1]) (st := []) (m_X12_isElder hp1) (g_hR (by decide)) (by decide) (by decide) (gc_59 Y _ _) rfl kM_X12_193 kI_X12_isElder kS_X12_isElder kN_X12 kC_X12_isElder kD_X12_isElder rfl (Nat.le_of_ble_eq_true rfl) dX12_of_2 (q := 5) rfl ?_
  show g_G 3 X Y 5 [(0, g_r Y 59), (1, .int x1), (2, .int x2)] [.int p1] M
  have hif := g_if h
  clear h
  refine g_if_eq C dX12_of_5 (q := 8) (tgt := 17) rfl (by decide) (fun c => ?_) (fun c => ?_)
  · have h := hif.1 c
    clear hif
    refine g_sub [0] (lv' := [(0, g_r Y 59)]) rfl ?_
    exact t_X12_of_17 C E M h
  · have h := hif.2 c
    clear hif
    refine g_iload_n C 2 dX12_of_8 (q := 9) rfl rfl rfl ?_
    refine g_iconst C (v := 0) dX12_of_9 (q := 10) rfl (by decide) ?_
    refine g_iconst C (v := 4) dX12_of_10 (q := 11) rfl (by decide) ?_
    obtain ⟨p3, hp3, h⟩ := g_bind h
    refine g_callS C (as := [.int x2, .int 0, .int 4]) (st := []) (m_X12_in hp3) (g_hR (by decide)) (by decide) kM_X12_64 kT_X12_in kN_X12 kC_X12_in kD_X12_in rfl (Nat.le_of_ble_eq_true rfl) dX12_of_11 (q := 14) rfl ?_
    show g_G 3 X Y 14 [(0, g_r Y 59), (1, .int x1), (2, .int x2)] [.int p3] M
    have hif := g_if h
    clear h
    refine g_if_ne C dX12_of_14 (q := 17) (tgt := 23) rfl (by decide) (fun c => ?_) (fun c => ?_)
    · have h := hif.2 c
      clear hif
      refine g_iload_n C 2 dX12_of_23 (q := 24) rfl rfl rfl ?_
      by_cases e : x2 = 0
      · rw [if_pos e] at h
        refine g_tabI C (off := 32) (tgt := 56) dX12_of_24 (by rw [e]; decide) (by rw [e]; decide) (by rw [e]; decide) (by decide) ?_
        refine g_aload_n C 0 dX12_of_56 (q := 57) rfl rfl rfl ?_
        refine g_get C (k := 59) (i := 0) (by decide) (gc_59 Y _ _) rfl kU_X12 (by decide) kF_X12_7 rfl dX12_of_57 (q := 60) rfl ?_
        refine g_bipush C (v := 10) dX12_of_60 (q := 62) rfl (by decide) ?_
        refine g_iload_n C 1 dX12_of_62 (q := 63) rfl rfl rfl ?_
        refine g_iadd C dX12_of_63 (q := 64) rfl ?_
        obtain ⟨v4, hv4, h⟩ := g_bind h
        refine g_iald C (k := 60) (n := 1208) (by decide) (gc_60 Y _ _) hv4 dX12_of_64 (q := 65) rfl ?_
        obtain rfl := Option.some.inj h
        exact g_iret C E dX12_of_65
      rw [if_neg e] at h
      have n0 := g_toI (n := 0) (v := 0) (by decide) e
      by_cases e : x2 = 1
      · rw [if_pos e] at h
        refine g_tabI C (off := 42) (tgt := 66) dX12_of_24 (by rw [e]; decide) (by rw [e]; decide) (by rw [e]; decide) (by decide) ?_
        refine g_aload_n C 0 dX12_of_66 (q := 67) rfl rfl rfl ?_
        refine g_get C (k := 59) (i := 0) (by decide) (gc_59 Y _ _) rfl kU_X12 (by decide) kF_X12_7 rfl dX12_of_67 (q := 70) rfl ?_
        refine g_bipush C (v := 20) dX12_of_70 (q := 72) rfl (by decide) ?_
        refine g_iload_n C 1 dX12_of_72 (q := 73) rfl rfl rfl ?_
        refine g_iadd C dX12_of_73 (q := 74) rfl ?_
        obtain ⟨v5, hv5, h⟩ := g_bind h
        refine g_iald C (k := 60) (n := 1208) (by decide) (gc_60 Y _ _) hv5 dX12_of_74 (q := 75) rfl ?_
        obtain rfl := Option.some.inj h
        exact g_iret C E dX12_of_75
      rw [if_neg e] at h
      have n1 := g_toI (n := 1) (v := 1) (by decide) e
      by_cases e : x2 = 2
      · rw [if_pos e] at h
        refine g_tabI C (off := 52) (tgt := 76) dX12_of_24 (by rw [e]; decide) (by rw [e]; decide) (by rw [e]; decide) (by decide) ?_
        refine g_aload_n C 0 dX12_of_76 (q := 77) rfl rfl rfl ?_
        refine g_get C (k := 59) (i := 0) (by decide) (gc_59 Y _ _) rfl kU_X12 (by decide) kF_X12_7 rfl dX12_of_77 (q := 80) rfl ?_
        refine g_bipush C (v := 30) dX12_of_80 (q := 82) rfl (by decide) ?_
        refine g_iload_n C 1 dX12_of_82 (q := 83) rfl rfl rfl ?_
        refine g_iadd C dX12_of_83 (q := 84) rfl ?_
        obtain ⟨v6, hv6, h⟩ := g_bind h
        refine g_iald C (k := 60) (n := 1208) (by decide) (gc_60 Y _ _) hv6 dX12_of_84 (q := 85) rfl ?_
        obtain rfl := Option.some.inj h
        exact g_iret C E dX12_of_85
      rw [if_neg e] at h
      have n2 := g_toI (n := 2) (v := 2) (by decide) e
      by_cases e : x2 = 3
      · rw [if_pos e] at h
        refine g_tabI C (off := 62) (tgt := 86) dX12_of_24 (by rw [e]; decide) (by rw [e]; decide) (by rw [e]; decide) (by decide) ?_
        refine g_aload_n C 0 dX12_of_86 (q := 87) rfl rfl rfl ?_
        refine g_get C (k := 59) (i := 0) (by decide) (gc_59 Y _ _) rfl kU_X12 (by decide) kF_X12_7 rfl dX12_of_87 (q := 90) rfl ?_
        refine g_bipush C (v := 30) dX12_of_90 (q := 92) rfl (by decide) ?_
        refine g_iload_n C 1 dX12_of_92 (q := 93) rfl rfl rfl ?_
        refine g_iadd C dX12_of_93 (q := 94) rfl ?_
        obtain ⟨v7, hv7, h⟩ := g_bind h
        refine g_iald C (k := 60) (n := 1208) (by decide) (gc_60 Y _ _) hv7 dX12_of_94 (q := 95) rfl ?_
        obtain ⟨p8, hp8, h⟩ := g_bind h
        refine g_callS C (as := [.int v7]) (st := []) (m_X12_many hp8) (g_hR (by decide)) (by decide) kM_X12_147 kT_X12_many kN_X12 kC_X12_many kD_X12_many rfl (Nat.le_of_ble_eq_true rfl) dX12_of_95 (q := 98) rfl ?_
        show g_G 3 X Y 98 [(0, g_r Y 59), (1, .int x1), (2, .int x2)] [.int p8] M
        obtain rfl := Option.some.inj h
        exact g_iret C E dX12_of_98
      rw [if_neg e] at h
      have n3 := g_toI (n := 3) (v := 3) (by decide) e
      have hdef : g_G 3 X Y 99 [(0, g_r Y 59), (1, .int x1), (2, .int x2)] [] M := by
        refine g_aload_n C 0 dX12_of_99 (q := 100) rfl rfl rfl ?_
        refine g_iload_n C 1 dX12_of_100 (q := 101) rfl rfl rfl ?_
        obtain ⟨p9, hp9, h⟩ := g_bind h
        refine g_callV C (k := 59) (as := [.int x1]) (st := []) (m_X12_lentTo hp9) (g_hR (by decide)) (by decide) (by decide) (gc_59 Y _ _) rfl kM_X12_196 kI_X12_lentTo kS_X12_lentTo kN_X12 kC_X12_lentTo kD_X12_lentTo rfl (Nat.le_of_ble_eq_true rfl) dX12_of_101 (q := 104) rfl ?_
        show g_G 3 X Y 104 [(0, g_r Y 59), (1, .int x1), (2, .int x2)] [.int p9] M
        obtain rfl := Option.some.inj h
        exact g_iret C E dX12_of_104
      refine g_tabO C (tgt := 99) dX12_of_24 (by omega) (by decide) hdef
    · have h := hif.1 c
      clear hif
      refine g_sub [0] (lv' := [(0, g_r Y 59)]) rfl ?_
      exact t_X12_of_17 C E M h
theorem r_X12_of {x1 : Int32} {x2 : Int32} {M : g_M} {p : Int32 × g_M} (h : f_X12_of x1 x2 M = some p) : g_fr [63] [] M p.2 := by
  unfold f_X12_of at h
  have hf := g_fr.rfl (S := [63]) (T := []) (M := M)
  obtain ⟨p1, -, h⟩ := g_bind h
  rcases g_ifs h with h | h
  · exact hf.trans (r_X12_of_17 M h)
  · obtain ⟨p3, -, h⟩ := g_bind h
    rcases g_ifs h with h | h
    · exact hf.trans (r_X12_of_17 M h)
    · rcases g_ifs h with h | h
      · obtain ⟨v4, -, h⟩ := g_bind h
        obtain rfl := Option.some.inj h
        exact hf
      rcases g_ifs h with h | h
      · obtain ⟨v5, -, h⟩ := g_bind h
        obtain rfl := Option.some.inj h
        exact hf
      rcases g_ifs h with h | h
      · obtain ⟨v6, -, h⟩ := g_bind h
        obtain rfl := Option.some.inj h
        exact hf
      rcases g_ifs h with h | h
      · obtain ⟨v7, -, h⟩ := g_bind h
        obtain ⟨p8, -, h⟩ := g_bind h
        obtain rfl := Option.some.inj h
        exact hf
      obtain ⟨p9, -, h⟩ := g_bind h
      obtain rfl := Option.some.inj h
      exact hf
def f_X12_gone_41 (x1 : Int32) (x3 : Int32) (s0 : Int32) (s1 : Int32) (M : g_M) : Option (Int32 × g_M) :=
  (g_st M 60 1208 s1 s0).bind fun M3 => (g_ld M3 60 1208 (20 + x1)).bind fun v4 => (if x3 = v4 then (some (0, M3)) else (some (1, M3)))
set_option maxRecDepth 100000 in
theorem t_X12_gone_41 {l : Launch} {X : g_X} {Y : g_Y} {p : Int32 × g_M} (C : g_C l (g_rm (2)) RX12 cX12_gone 4 X Y) (E : g_E (some .int) X Y (some (.int p.1)) p.2) (x1 : Int32) (x3 : Int32) (s0 : Int32) (s1 : Int32) (M : g_M) (h : f_X12_gone_41 x1 x3 s0 s1 M = some p) : g_G 4 X Y 41 [(0, g_r Y 59), (1, .int x1), (3, .int x3)] [.int s0, .int s1, g_r Y 60] M := by
  unfold f_X12_gone_41 at h
  obtain ⟨M3, hM3, h⟩ := g_bind h
  refine g_iast C (k := 60) (n := 1208) (by decide) (fun a => gc_60 Y a _) hM3 dX12_gone_41 (q := 42) rfl ?_
  refine g_iload_n C 2 dX12_gone_42 (q := 43) rfl rfl rfl ?_
  refine g_aload_n C 0 dX12_gone_43 (q := 44) rfl rfl rfl ?_
  refine g_get C (k := 59) (i := 0) (by decide) (gc_59 Y _ _) rfl kU_X12 (by decide) kF_X12_7 rfl dX12_gone_44 (q := 47) rfl ?_
  refine g_bipush C (v := 20) dX12_gone_47 (q := 49) rfl (by decide) ?_
  refine g_iload_n C 1 dX12_gone_49 (q := 50) rfl rfl rfl ?_
  refine g_iadd C dX12_gone_50 (q := 51) rfl ?_
  obtain ⟨v4, hv4, h⟩ := g_bind h
  refine g_iald C (k := 60) (n := 1208) (by decide) (gc_60 Y _ _) hv4 dX12_gone_51 (q := 52) rfl ?_
  have hif := g_if h
  clear h
  refine g_icmp_ne C dX12_gone_52 (q := 55) (tgt := 59) rfl (by decide) (fun c => ?_) (fun c => ?_)
  · have h := hif.2 c
    clear hif
    refine g_iconst C (v := 1) dX12_gone_59 (q := 60) rfl (by decide) ?_
    obtain rfl := Option.some.inj h
    exact g_iret C E dX12_gone_60
  · have h := hif.1 c
    clear hif
    refine g_iconst C (v := 0) dX12_gone_55 (q := 56) rfl (by decide) ?_
    refine g_goto C dX12_gone_56 (tgt := 60) (by decide) ?_
    obtain rfl := Option.some.inj h
    exact g_iret C E dX12_gone_60
theorem r_X12_gone_41 {p : Int32 × g_M} (x1 : Int32) (x3 : Int32) (s0 : Int32) (s1 : Int32) (M : g_M) (h : f_X12_gone_41 x1 x3 s0 s1 M = some p) : g_fr [60, 63] [] M p.2 := by
  unfold f_X12_gone_41 at h
  have hf := g_fr.rfl (S := [60, 63]) (T := []) (M := M)
  obtain ⟨M3, hM3, h⟩ := g_bind h
  have hf := hf.st hM3 (by decide)
  obtain ⟨v4, -, h⟩ := g_bind h
  rcases g_ifs h with h | h
  · obtain rfl := Option.some.inj h
    exact hf
  · obtain rfl := Option.some.inj h
    exact hf
def f_X12_gone (x1 : Int32) (x2 : Int32) (M : g_M) : Option (Int32 × g_M) :=
  (f_X12_isElder x1 M).bind fun p1 => (if p1 = 0 then ((f_X12_finding 0 M).bind fun p5 => some (p5.1, p5.2)) else ((g_ld M 60 1208 (20 + x1)).bind fun v2 => (if x2 = 0 then (f_X12_gone_41 x1 v2 0 (20 + x1) M) else (f_X12_gone_41 x1 v2 1 (20 + x1) M))))
set_option maxRecDepth 100000 in
theorem m_X12_gone {l : Launch} {Y : g_Y} {x1 : Int32} {x2 : Int32} {M : g_M} {p : Int32 × g_M} (h : f_X12_gone x1 x2 M = some p) : g_R l Y (2) yX12_gone cX12_gone 4 (some .int) [g_r Y 59, .int x1, .int x2] M (some (.int p.1)) p.2 := by
  unfold f_X12_gone at h
  refine g_R_of kP_X12 rfl (Nat.le_of_ble_eq_true rfl) (fun X C E => ?_)
  show g_G 4 X Y 0 [(0, g_r Y 59), (1, .int x1), (2, .int x2)] [] M
  refine g_aload_n C 0 dX12_gone_0 (q := 1) rfl rfl rfl ?_
  refine g_iload_n C 1 dX12_gone_1 (q := 2) rfl rfl rfl ?_
  obtain ⟨p1, hp1, h⟩ := g_bind h
  refine g_callV C (k := 59) (as := [.int x1]) (st := []) (m_X12_isElder hp1) (g_hR (by decide)) (by decide) (by decide) (gc_59 Y _ _) rfl kM_X12_193 kI_X12_isElder kS_X12_isElder kN_X12 kC_X12_isElder kD_X12_isElder rfl (Nat.le_of_ble_eq_true rfl) dX12_gone_2 (q := 5) rfl ?_
  show g_G 4 X Y 5 [(0, g_r Y 59), (1, .int x1), (2, .int x2)] [.int p1] M
  have hif := g_if h
  clear h
  refine g_if_ne C dX12_gone_5 (q := 8) (tgt := 14) rfl (by decide) (fun c => ?_) (fun c => ?_)
  · have h := hif.2 c
    clear hif
    refine g_aload_n C 0 dX12_gone_14 (q := 15) rfl rfl rfl ?_
    refine g_get C (k := 59) (i := 0) (by decide) (gc_59 Y _ _) rfl kU_X12 (by decide) kF_X12_7 rfl dX12_gone_15 (q := 18) rfl ?_
    refine g_bipush C (v := 20) dX12_gone_18 (q := 20) rfl (by decide) ?_
    refine g_iload_n C 1 dX12_gone_20 (q := 21) rfl rfl rfl ?_
    refine g_iadd C dX12_gone_21 (q := 22) rfl ?_
    obtain ⟨v2, hv2, h⟩ := g_bind h
    refine g_iald C (k := 60) (n := 1208) (by decide) (gc_60 Y _ _) hv2 dX12_gone_22 (q := 23) rfl ?_
    refine g_istore_n C dX12_gone_23 (q := 24) rfl rfl (by decide) (lv' := [(3, .int v2), (0, g_r Y 59), (1, .int x1), (2, .int x2)]) rfl ?_
    refine g_aload_n C 1 dX12_gone_24 (q := 25) rfl rfl rfl ?_
    refine g_get C (k := 59) (i := 0) (by decide) (gc_59 Y _ _) rfl kU_X12 (by decide) kF_X12_7 rfl dX12_gone_25 (q := 28) rfl ?_
    refine g_bipush C (v := 20) dX12_gone_28 (q := 30) rfl (by decide) ?_
    refine g_iload_n C 2 dX12_gone_30 (q := 31) rfl rfl rfl ?_
    refine g_iadd C dX12_gone_31 (q := 32) rfl ?_
    refine g_iload_n C 3 dX12_gone_32 (q := 33) rfl rfl rfl ?_
    have hif := g_if h
    clear h
    refine g_if_eq C dX12_gone_33 (q := 36) (tgt := 40) rfl (by decide) (fun c => ?_) (fun c => ?_)
    · have h := hif.1 c
      clear hif
      refine g_iconst C (v := 0) dX12_gone_40 (q := 41) rfl (by decide) ?_
      refine g_sub [1, 2, 0] (lv' := [(0, g_r Y 59), (1, .int x1), (3, .int v2)]) rfl ?_
      exact t_X12_gone_41 C E x1 v2 0 (20 + x1) M h
    · have h := hif.2 c
      clear hif
      refine g_iconst C (v := 1) dX12_gone_36 (q := 37) rfl (by decide) ?_
      refine g_goto C dX12_gone_37 (tgt := 41) (by decide) ?_
      refine g_sub [1, 2, 0] (lv' := [(0, g_r Y 59), (1, .int x1), (3, .int v2)]) rfl ?_
      exact t_X12_gone_41 C E x1 v2 1 (20 + x1) M h
  · have h := hif.1 c
    clear hif
    refine g_aload_n C 0 dX12_gone_8 (q := 9) rfl rfl rfl ?_
    refine g_iconst C (v := 0) dX12_gone_9 (q := 10) rfl (by decide) ?_
    obtain ⟨p5, hp5, h⟩ := g_bind h
    refine g_callV C (k := 59) (as := [.int 0]) (st := []) (m_X12_finding hp5) (g_hR (by decide)) (by decide) (by decide) (gc_59 Y _ _) rfl kM_X12_190 kI_X12_finding kS_X12_finding kN_X12 kC_X12_finding kD_X12_finding rfl (Nat.le_of_ble_eq_true rfl) dX12_gone_10 (q := 13) rfl ?_
    show g_G 4 X Y 13 [(0, g_r Y 59), (1, .int x1), (2, .int x2)] [.int p5.1] p5.2
    obtain rfl := Option.some.inj h
    exact g_iret C E dX12_gone_13
theorem r_X12_gone {x1 : Int32} {x2 : Int32} {M : g_M} {p : Int32 × g_M} (h : f_X12_gone x1 x2 M = some p) : g_fr [60, 63] [] M p.2 := by
  unfold f_X12_gone at h
  have hf := g_fr.rfl (S := [60, 63]) (T := []) (M := M)
  obtain ⟨p1, -, h⟩ := g_bind h
  rcases g_ifs h with h | h
  · obtain ⟨p5, hp5, h⟩ := g_bind h
    have hf := hf.trans ((r_X12_finding hp5).mono (by decide) (by decide))
    obtain rfl := Option.some.inj h
    exact hf
  · obtain ⟨v2, -, h⟩ := g_bind h
    rcases g_ifs h with h | h
    · exact hf.trans (r_X12_gone_41 x1 v2 0 (20 + x1) M h)
    · exact hf.trans (r_X12_gone_41 x1 v2 1 (20 + x1) M h)
def F_X12_feed_36 (k75 : g_M → Option (Int32 × g_M)) (k : Int32 → Int32 → g_M → Option (Int32 × g_M)) (x1 : Int32) (x3 : Int32) (M : g_M) : Option (Int32 × g_M) :=
  (if x3 < 0 then (k75 M) else ((g_st M 62 120 (M.1 59 4) ((x1 >>> ((8 * x3) &&& 31)) &&& 255)).bind fun M2 => (some (g_u M2 59 4 ((M2.1 59 4) + 1))).bind fun M3 => k x1 (x3 + (-1)) M3))
set_option maxRecDepth 100000 in
theorem t_X12_feed_36 {l : Launch} {X : g_X} {Y : g_Y} {p : Int32 × g_M} {k75 : g_M → Option (Int32 × g_M)} (C : g_C l (g_rm (1)) RX12 cX12_feed 4 X Y) (E : g_E (some .int) X Y (some (.int p.1)) p.2) (hk75 : ∀ (M : g_M), k75 M = some p → g_G 4 X Y 75 [(0, g_r Y 59)] [] M) (n : Nat) : ∀ (x1 : Int32) (x3 : Int32) (M : g_M), g_lp2 (F_X12_feed_36 k75) n x1 x3 M = some p → g_G 4 X Y 36 [(0, g_r Y 59), (1, .int x1), (3, .int x3)] [] M := by
  induction n with
  | zero => intro x1 x3 M h; exact (g_nn h).elim
  | succ n ih =>
    intro x1 x3 M h
    have h : F_X12_feed_36 k75 (g_lp2 (F_X12_feed_36 k75) n) x1 x3 M = some p := h
    generalize g_lp2 (F_X12_feed_36 k75) n = k at h ih
    unfold F_X12_feed_36 at h
    refine g_iload_n C 2 dX12_feed_36 (q := 37) rfl rfl rfl ?_
    have hif := g_if h
    clear h
    refine g_if_lt C dX12_feed_37 (q := 40) (tgt := 75) rfl (by decide) (fun c => ?_) (fun c => ?_)
    · have h := hif.1 c
      clear hif
      refine g_sub [0] (lv' := [(0, g_r Y 59)]) rfl ?_
      exact hk75 M h
    · have h := hif.2 c
      clear hif
      refine g_aload_n C 0 dX12_feed_40 (q := 41) rfl rfl rfl ?_
      refine g_get C (k := 59) (i := 3) (by decide) (gc_59 Y _ _) rfl kU_X12 (by decide) kF_X12_16 rfl dX12_feed_41 (q := 44) rfl ?_
      refine g_aload_n C 0 dX12_feed_44 (q := 45) rfl rfl rfl ?_
      refine g_get C (k := 59) (i := 4) (by decide) (gc_59 Y _ _) rfl kU_X12 (by decide) kF_X12_199 rfl dX12_feed_45 (q := 48) rfl ?_
      refine g_iload_n C 1 dX12_feed_48 (q := 49) rfl rfl rfl ?_
      refine g_bipush C (v := 8) dX12_feed_49 (q := 51) rfl (by decide) ?_
      refine g_iload_n C 2 dX12_feed_51 (q := 52) rfl rfl rfl ?_
      refine g_imul C dX12_feed_52 (q := 53) rfl ?_
      refine g_ishr C dX12_feed_53 (q := 54) rfl ?_
      refine g_sipush C (v := 255) dX12_feed_54 (q := 57) rfl (by decide) ?_
      refine g_iand C dX12_feed_57 (q := 58) rfl ?_
      obtain ⟨M2, hM2, h⟩ := g_bind h
      refine g_iast C (k := 62) (n := 120) (by decide) (fun a => gc_62 Y a _) hM2 dX12_feed_58 (q := 59) rfl ?_
      refine g_aload_n C 0 dX12_feed_59 (q := 60) rfl rfl rfl ?_
      refine g_dup C dX12_feed_60 (q := 61) rfl rfl ?_
      refine g_get C (k := 59) (i := 4) (by decide) (gc_59 Y _ _) rfl kU_X12 (by decide) kF_X12_199 rfl dX12_feed_61 (q := 64) rfl ?_
      refine g_iconst C (v := 1) dX12_feed_64 (q := 65) rfl (by decide) ?_
      refine g_iadd C dX12_feed_65 (q := 66) rfl ?_
      obtain ⟨M3, hM3, h⟩ := g_bind h
      refine g_put C (k := 59) (i := 4) (ty := .int) (by decide) (gc_59 Y _ _) (gp_59_4 Y _ _ _) rfl kU_X12 tyX12_ok nmX12 (by decide) kF_X12_199 rfl rfl rfl rfl (Nat.le_of_ble_eq_true rfl) dX12_feed_66 (q := 69) rfl ?_
      refine g_mem hM3 ?_
      refine g_iinc C (k := 2) (v := x3 + (-1)) dX12_feed_69 (q := 72) rfl rfl rfl (by decide) (lv' := [(3, .int (x3 + (-1))), (0, g_r Y 59), (1, .int x1)]) rfl ?_
      refine g_goto C dX12_feed_72 (tgt := 36) (by decide) ?_
      refine g_sub [1, 2, 0] (lv' := [(0, g_r Y 59), (1, .int x1), (3, .int (x3 + (-1)))]) rfl ?_
      exact ih x1 (x3 + (-1)) M3 h
theorem r_X12_feed_36 {p : Int32 × g_M} {k75 : g_M → Option (Int32 × g_M)} (hk75 : ∀ (M : g_M), k75 M = some p → g_fr [62, 63] [(59, 4)] M p.2) (n : Nat) : ∀ (x1 : Int32) (x3 : Int32) (M : g_M), g_lp2 (F_X12_feed_36 k75) n x1 x3 M = some p → g_fr [62, 63] [(59, 4)] M p.2 := by
  induction n with
  | zero => intro x1 x3 M h; exact (g_nn h).elim
  | succ n ih =>
    intro x1 x3 M h
    have h : F_X12_feed_36 k75 (g_lp2 (F_X12_feed_36 k75) n) x1 x3 M = some p := h
    generalize g_lp2 (F_X12_feed_36 k75) n = k at h ih
    unfold F_X12_feed_36 at h
    have hf := g_fr.rfl (S := [62, 63]) (T := [(59, 4)]) (M := M)
    rcases g_ifs h with h | h
    · exact hf.trans (hk75 M h)
    · obtain ⟨M2, hM2, h⟩ := g_bind h
      have hf := hf.st hM2 (by decide)
      obtain ⟨M3, hM3, h⟩ := g_bind h
      have hf := hf.pu hM3 (by decide)
      exact hf.trans (ih x1 (x3 + (-1)) M3 h)
def f_X12_feed (x1 : Int32) (x2 : Int32) (M : g_M) : Option (Int32 × g_M) :=
  (f_X12_in x2 1 4 M).bind fun p1 => (if p1 = 0 then ((f_X12_finding 0 M).bind fun p5 => some (p5.1, p5.2)) else ((if ((M.1 59 4) + x2) ≤ 120 then (g_lp2 (F_X12_feed_36 (fun (M : g_M) => some (M.1 59 4, M))) 20000000 x1 (x2 - 1) M) else ((f_X12_finding 1 M).bind fun p4 => some (p4.1, p4.2)))))
set_option maxRecDepth 100000 in
theorem m_X12_feed {l : Launch} {Y : g_Y} {x1 : Int32} {x2 : Int32} {M : g_M} {p : Int32 × g_M} (h : f_X12_feed x1 x2 M = some p) : g_R l Y (1) yX12_feed cX12_feed 4 (some .int) [g_r Y 59, .int x1, .int x2] M (some (.int p.1)) p.2 := by
  unfold f_X12_feed at h
  refine g_R_of kP_X12 rfl (Nat.le_of_ble_eq_true rfl) (fun X C E => ?_)
  show g_G 4 X Y 0 [(0, g_r Y 59), (1, .int x1), (2, .int x2)] [] M
  refine g_iload_n C 2 dX12_feed_0 (q := 1) rfl rfl rfl ?_
  refine g_iconst C (v := 1) dX12_feed_1 (q := 2) rfl (by decide) ?_
  refine g_iconst C (v := 4) dX12_feed_2 (q := 3) rfl (by decide) ?_
  obtain ⟨p1, hp1, h⟩ := g_bind h
  refine g_callS C (as := [.int x2, .int 1, .int 4]) (st := []) (m_X12_in hp1) (g_hR (by decide)) (by decide) kM_X12_64 kT_X12_in kN_X12 kC_X12_in kD_X12_in rfl (Nat.le_of_ble_eq_true rfl) dX12_feed_3 (q := 6) rfl ?_
  show g_G 4 X Y 6 [(0, g_r Y 59), (1, .int x1), (2, .int x2)] [.int p1] M
  have hif := g_if h
  clear h
  refine g_if_ne C dX12_feed_6 (q := 9) (tgt := 15) rfl (by decide) (fun c => ?_) (fun c => ?_)
  · have h := hif.2 c
    clear hif
    refine g_aload_n C 0 dX12_feed_15 (q := 16) rfl rfl rfl ?_
    refine g_get C (k := 59) (i := 4) (by decide) (gc_59 Y _ _) rfl kU_X12 (by decide) kF_X12_199 rfl dX12_feed_16 (q := 19) rfl ?_
    refine g_iload_n C 2 dX12_feed_19 (q := 20) rfl rfl rfl ?_
    refine g_iadd C dX12_feed_20 (q := 21) rfl ?_
    refine g_bipush C (v := 120) dX12_feed_21 (q := 23) rfl (by decide) ?_
    have hif := g_if h
    clear h
    refine g_icmp_le C dX12_feed_23 (q := 26) (tgt := 32) rfl (by decide) (fun c => ?_) (fun c => ?_)
    · have h := hif.1 c
      clear hif
      refine g_iload_n C 2 dX12_feed_32 (q := 33) rfl rfl rfl ?_
      refine g_iconst C (v := 1) dX12_feed_33 (q := 34) rfl (by decide) ?_
      refine g_isub C dX12_feed_34 (q := 35) rfl ?_
      refine g_istore_n C dX12_feed_35 (q := 36) rfl rfl (by decide) (lv' := [(3, .int (x2 - 1)), (0, g_r Y 59), (1, .int x1), (2, .int x2)]) rfl ?_
      refine g_sub [1, 2, 0] (lv' := [(0, g_r Y 59), (1, .int x1), (3, .int (x2 - 1))]) rfl ?_
      refine t_X12_feed_36 C E ?_ 20000000 x1 (x2 - 1) M h
      · intro M h
        try dsimp only at h
        refine g_aload_n C 0 dX12_feed_75 (q := 76) rfl rfl rfl ?_
        refine g_get C (k := 59) (i := 4) (by decide) (gc_59 Y _ _) rfl kU_X12 (by decide) kF_X12_199 rfl dX12_feed_76 (q := 79) rfl ?_
        obtain rfl := Option.some.inj h
        exact g_iret C E dX12_feed_79
    · have h := hif.2 c
      clear hif
      refine g_aload_n C 0 dX12_feed_26 (q := 27) rfl rfl rfl ?_
      refine g_iconst C (v := 1) dX12_feed_27 (q := 28) rfl (by decide) ?_
      obtain ⟨p4, hp4, h⟩ := g_bind h
      refine g_callV C (k := 59) (as := [.int 1]) (st := []) (m_X12_finding hp4) (g_hR (by decide)) (by decide) (by decide) (gc_59 Y _ _) rfl kM_X12_190 kI_X12_finding kS_X12_finding kN_X12 kC_X12_finding kD_X12_finding rfl (Nat.le_of_ble_eq_true rfl) dX12_feed_28 (q := 31) rfl ?_
      show g_G 4 X Y 31 [(0, g_r Y 59), (1, .int x1), (2, .int x2)] [.int p4.1] p4.2
      obtain rfl := Option.some.inj h
      exact g_iret C E dX12_feed_31
  · have h := hif.1 c
    clear hif
    refine g_aload_n C 0 dX12_feed_9 (q := 10) rfl rfl rfl ?_
    refine g_iconst C (v := 0) dX12_feed_10 (q := 11) rfl (by decide) ?_
    obtain ⟨p5, hp5, h⟩ := g_bind h
    refine g_callV C (k := 59) (as := [.int 0]) (st := []) (m_X12_finding hp5) (g_hR (by decide)) (by decide) (by decide) (gc_59 Y _ _) rfl kM_X12_190 kI_X12_finding kS_X12_finding kN_X12 kC_X12_finding kD_X12_finding rfl (Nat.le_of_ble_eq_true rfl) dX12_feed_11 (q := 14) rfl ?_
    show g_G 4 X Y 14 [(0, g_r Y 59), (1, .int x1), (2, .int x2)] [.int p5.1] p5.2
    obtain rfl := Option.some.inj h
    exact g_iret C E dX12_feed_14
theorem r_X12_feed {x1 : Int32} {x2 : Int32} {M : g_M} {p : Int32 × g_M} (h : f_X12_feed x1 x2 M = some p) : g_fr [62, 63] [(59, 4)] M p.2 := by
  unfold f_X12_feed at h
  have hf := g_fr.rfl (S := [62, 63]) (T := [(59, 4)]) (M := M)
  obtain ⟨p1, -, h⟩ := g_bind h
  rcases g_ifs h with h | h
  · obtain ⟨p5, hp5, h⟩ := g_bind h
    have hf := hf.trans ((r_X12_finding hp5).mono (by decide) (by decide))
    obtain rfl := Option.some.inj h
    exact hf
  · rcases g_ifs h with h | h
    · refine hf.trans (r_X12_feed_36 ?_ 20000000 x1 (x2 - 1) M h)
      · intro M h
        try dsimp only at h
        have hf := g_fr.rfl (S := [62, 63]) (T := [(59, 4)]) (M := M)
        obtain rfl := Option.some.inj h
        exact hf
    · obtain ⟨p4, hp4, h⟩ := g_bind h
      have hf := hf.trans ((r_X12_finding hp4).mono (by decide) (by decide))
      obtain rfl := Option.some.inj h
      exact hf
def f_X12_wipe (M : g_M) : Option (Int32 × g_M) :=
  (some (g_u M 59 4 0)).bind fun M1 => some (M.1 59 4, M1)
set_option maxRecDepth 100000 in
theorem m_X12_wipe {l : Launch} {Y : g_Y} {M : g_M} {p : Int32 × g_M} (h : f_X12_wipe M = some p) : g_R l Y (0) yX12_wipe cX12_wipe 2 (some .int) [g_r Y 59] M (some (.int p.1)) p.2 := by
  unfold f_X12_wipe at h
  refine g_R_of kP_X12 rfl (Nat.le_of_ble_eq_true rfl) (fun X C E => ?_)
  show g_G 2 X Y 0 [(0, g_r Y 59)] [] M
  refine g_aload_n C 0 dX12_wipe_0 (q := 1) rfl rfl rfl ?_
  refine g_get C (k := 59) (i := 4) (by decide) (gc_59 Y _ _) rfl kU_X12 (by decide) kF_X12_199 rfl dX12_wipe_1 (q := 4) rfl ?_
  refine g_istore_n C dX12_wipe_4 (q := 5) rfl rfl (by decide) (lv' := [(1, .int (M.1 59 4)), (0, g_r Y 59)]) rfl ?_
  refine g_aload_n C 1 dX12_wipe_5 (q := 6) rfl rfl rfl ?_
  refine g_iconst C (v := 0) dX12_wipe_6 (q := 7) rfl (by decide) ?_
  obtain ⟨M1, hM1, h⟩ := g_bind h
  refine g_put C (k := 59) (i := 4) (ty := .int) (by decide) (gc_59 Y _ _) (gp_59_4 Y _ _ _) rfl kU_X12 tyX12_ok nmX12 (by decide) kF_X12_199 rfl rfl rfl rfl (Nat.le_of_ble_eq_true rfl) dX12_wipe_7 (q := 10) rfl ?_
  refine g_mem hM1 ?_
  refine g_iload_n C 0 dX12_wipe_10 (q := 11) rfl rfl rfl ?_
  obtain rfl := Option.some.inj h
  exact g_iret C E dX12_wipe_11
theorem r_X12_wipe {M : g_M} {p : Int32 × g_M} (h : f_X12_wipe M = some p) : g_fr [] [(59, 4)] M p.2 := by
  unfold f_X12_wipe at h
  have hf := g_fr.rfl (S := []) (T := [(59, 4)]) (M := M)
  obtain ⟨M1, hM1, h⟩ := g_bind h
  have hf := hf.pu hM1 (by decide)
  obtain rfl := Option.some.inj h
  exact hf
def F_X12_text_65 (k100 : Int32 → g_M → Option (Int32 × g_M)) (k : Int32 → Int32 → g_M → Option (Int32 × g_M)) (x2 : Int32) (x3 : Int32) (M : g_M) : Option (Int32 × g_M) :=
  (if (M.1 59 4) ≤ x3 then (k100 x2 M) else ((g_ld M 62 120 x3).bind fun v5 => (g_st M 60 1208 ((248 + (120 * x2)) + x3) v5).bind fun M6 => k x2 (x3 + 1) M6))
set_option maxRecDepth 100000 in
theorem t_X12_text_65 {l : Launch} {X : g_X} {Y : g_Y} {p : Int32 × g_M} {k100 : Int32 → g_M → Option (Int32 × g_M)} (C : g_C l (g_rm (201)) RX12 cX12_text 4 X Y) (E : g_E (some .int) X Y (some (.int p.1)) p.2) (hk100 : ∀ (x2 : Int32) (M : g_M), k100 x2 M = some p → g_G 4 X Y 100 [(0, g_r Y 59), (2, .int x2)] [] M) (n : Nat) : ∀ (x2 : Int32) (x3 : Int32) (M : g_M), g_lp2 (F_X12_text_65 k100) n x2 x3 M = some p → g_G 4 X Y 65 [(0, g_r Y 59), (2, .int x2), (3, .int x3)] [] M := by
  induction n with
  | zero => intro x2 x3 M h; exact (g_nn h).elim
  | succ n ih =>
    intro x2 x3 M h
    have h : F_X12_text_65 k100 (g_lp2 (F_X12_text_65 k100) n) x2 x3 M = some p := h
    generalize g_lp2 (F_X12_text_65 k100) n = k at h ih
    unfold F_X12_text_65 at h
    refine g_iload_n C 2 dX12_text_65 (q := 66) rfl rfl rfl ?_
    refine g_aload_n C 0 dX12_text_66 (q := 67) rfl rfl rfl ?_
    refine g_get C (k := 59) (i := 4) (by decide) (gc_59 Y _ _) rfl kU_X12 (by decide) kF_X12_199 rfl dX12_text_67 (q := 70) rfl ?_
    have hif := g_if h
    clear h
    refine g_icmp_ge C dX12_text_70 (q := 73) (tgt := 100) rfl (by decide) (fun c => ?_) (fun c => ?_)
    · have h := hif.1 c
      clear hif
      refine g_sub [0, 1] (lv' := [(0, g_r Y 59), (2, .int x2)]) rfl ?_
      exact hk100 x2 M h
    · have h := hif.2 c
      clear hif
      refine g_aload_n C 0 dX12_text_73 (q := 74) rfl rfl rfl ?_
      refine g_get C (k := 59) (i := 0) (by decide) (gc_59 Y _ _) rfl kU_X12 (by decide) kF_X12_7 rfl dX12_text_74 (q := 77) rfl ?_
      refine g_sipush C (v := 248) dX12_text_77 (q := 80) rfl (by decide) ?_
      refine g_bipush C (v := 120) dX12_text_80 (q := 82) rfl (by decide) ?_
      refine g_iload_n C 1 dX12_text_82 (q := 83) rfl rfl rfl ?_
      refine g_imul C dX12_text_83 (q := 84) rfl ?_
      refine g_iadd C dX12_text_84 (q := 85) rfl ?_
      refine g_iload_n C 2 dX12_text_85 (q := 86) rfl rfl rfl ?_
      refine g_iadd C dX12_text_86 (q := 87) rfl ?_
      refine g_aload_n C 0 dX12_text_87 (q := 88) rfl rfl rfl ?_
      refine g_get C (k := 59) (i := 3) (by decide) (gc_59 Y _ _) rfl kU_X12 (by decide) kF_X12_16 rfl dX12_text_88 (q := 91) rfl ?_
      refine g_iload_n C 2 dX12_text_91 (q := 92) rfl rfl rfl ?_
      obtain ⟨v5, hv5, h⟩ := g_bind h
      refine g_iald C (k := 62) (n := 120) (by decide) (gc_62 Y _ _) hv5 dX12_text_92 (q := 93) rfl ?_
      obtain ⟨M6, hM6, h⟩ := g_bind h
      refine g_iast C (k := 60) (n := 1208) (by decide) (fun a => gc_60 Y a _) hM6 dX12_text_93 (q := 94) rfl ?_
      refine g_iinc C (k := 2) (v := x3 + 1) dX12_text_94 (q := 97) rfl rfl rfl (by decide) (lv' := [(3, .int (x3 + 1)), (0, g_r Y 59), (2, .int x2)]) rfl ?_
      refine g_goto C dX12_text_97 (tgt := 65) (by decide) ?_
      refine g_sub [1, 2, 0] (lv' := [(0, g_r Y 59), (2, .int x2), (3, .int (x3 + 1))]) rfl ?_
      exact ih x2 (x3 + 1) M6 h
theorem r_X12_text_65 {p : Int32 × g_M} {k100 : Int32 → g_M → Option (Int32 × g_M)} (hk100 : ∀ (x2 : Int32) (M : g_M), k100 x2 M = some p → g_fr [60, 63] [(59, 4), (59, 6), (59, 7), (59, 8), (59, 9), (59, 10), (59, 11), (59, 12), (59, 13), (59, 14), (59, 15), (59, 16)] M p.2) (n : Nat) : ∀ (x2 : Int32) (x3 : Int32) (M : g_M), g_lp2 (F_X12_text_65 k100) n x2 x3 M = some p → g_fr [60, 63] [(59, 4), (59, 6), (59, 7), (59, 8), (59, 9), (59, 10), (59, 11), (59, 12), (59, 13), (59, 14), (59, 15), (59, 16)] M p.2 := by
  induction n with
  | zero => intro x2 x3 M h; exact (g_nn h).elim
  | succ n ih =>
    intro x2 x3 M h
    have h : F_X12_text_65 k100 (g_lp2 (F_X12_text_65 k100) n) x2 x3 M = some p := h
    generalize g_lp2 (F_X12_text_65 k100) n = k at h ih
    unfold F_X12_text_65 at h
    have hf := g_fr.rfl (S := [60, 63]) (T := [(59, 4), (59, 6), (59, 7), (59, 8), (59, 9), (59, 10), (59, 11), (59, 12), (59, 13), (59, 14), (59, 15), (59, 16)]) (M := M)
    rcases g_ifs h with h | h
    · exact hf.trans (hk100 x2 M h)
    · obtain ⟨v5, -, h⟩ := g_bind h
      obtain ⟨M6, hM6, h⟩ := g_bind h
      have hf := hf.st hM6 (by decide)
      exact hf.trans (ih x2 (x3 + 1) M6 h)
def f_X12_text (M : g_M) : Option (Int32 × g_M) :=
  (g_ld M 60 1208 1).bind fun v1 => (if v1 = 8 then ((f_X12_finding 1 M).bind fun p13 => some (p13.1, p13.2)) else ((f_X12_reads 0 (M.1 59 4) 0 M).bind fun p2 => (if (p2.2.1 59 16) = 0 then ((g_ld p2.2 60 1208 1).bind fun v3 => (g_st p2.2 60 1208 (240 + v3) (p2.2.1 59 4)).bind fun M4 => g_lp2 (F_X12_text_65 (fun (x2 : Int32) (M : g_M) => (some (g_u M 59 4 0)).bind fun M7 => (g_ld M7 60 1208 1).bind fun v8 => (g_st M7 60 1208 1 (v8 + 1)).bind fun M9 => (if x2 = 0 then ((g_st M9 60 1208 2 0).bind fun M12 => some (x2, M12)) else ((g_ld M9 60 1208 2).bind fun v10 => (g_st M9 60 1208 2 v10).bind fun M11 => some (x2, M11))))) 20000000 v3 0 M4) else (some ((-1) - (p2.2.1 59 12), p2.2)))))
set_option maxRecDepth 100000 in
theorem m_X12_text {l : Launch} {Y : g_Y} {M : g_M} {p : Int32 × g_M} (h : f_X12_text M = some p) : g_R l Y (201) yX12_text cX12_text 4 (some .int) [g_r Y 59] M (some (.int p.1)) p.2 := by
  unfold f_X12_text at h
  refine g_R_of kP_X12 rfl (Nat.le_of_ble_eq_true rfl) (fun X C E => ?_)
  show g_G 4 X Y 0 [(0, g_r Y 59)] [] M
  refine g_aload_n C 0 dX12_text_0 (q := 1) rfl rfl rfl ?_
  refine g_get C (k := 59) (i := 0) (by decide) (gc_59 Y _ _) rfl kU_X12 (by decide) kF_X12_7 rfl dX12_text_1 (q := 4) rfl ?_
  refine g_iconst C (v := 1) dX12_text_4 (q := 5) rfl (by decide) ?_
  obtain ⟨v1, hv1, h⟩ := g_bind h
  refine g_iald C (k := 60) (n := 1208) (by decide) (gc_60 Y _ _) hv1 dX12_text_5 (q := 6) rfl ?_
  refine g_bipush C (v := 8) dX12_text_6 (q := 8) rfl (by decide) ?_
  have hif := g_if h
  clear h
  refine g_icmp_ne C dX12_text_8 (q := 11) (tgt := 17) rfl (by decide) (fun c => ?_) (fun c => ?_)
  · have h := hif.2 c
    clear hif
    refine g_aload_n C 0 dX12_text_17 (q := 18) rfl rfl rfl ?_
    refine g_iconst C (v := 0) dX12_text_18 (q := 19) rfl (by decide) ?_
    refine g_aload_n C 0 dX12_text_19 (q := 20) rfl rfl rfl ?_
    refine g_get C (k := 59) (i := 4) (by decide) (gc_59 Y _ _) rfl kU_X12 (by decide) kF_X12_199 rfl dX12_text_20 (q := 23) rfl ?_
    refine g_iconst C (v := 0) dX12_text_23 (q := 24) rfl (by decide) ?_
    obtain ⟨p2, hp2, h⟩ := g_bind h
    refine g_callV C (k := 59) (as := [.int 0, .int (M.1 59 4), .int 0]) (st := []) (m_X12_reads hp2) (g_hR (by decide)) (by decide) (by decide) (gc_59 Y _ _) rfl kM_X12_187 kI_X12_reads kS_X12_reads kN_X12 kC_X12_reads kD_X12_reads rfl (Nat.le_of_ble_eq_true rfl) dX12_text_24 (q := 27) rfl ?_
    show g_G 4 X Y 27 [(0, g_r Y 59)] [.int p2.1] p2.2
    refine g_istore_n C dX12_text_27 (q := 28) rfl rfl (by decide) (lv' := [(1, .int p2.1), (0, g_r Y 59)]) rfl ?_
    refine g_aload_n C 1 dX12_text_28 (q := 29) rfl rfl rfl ?_
    refine g_get C (k := 59) (i := 16) (by decide) (gc_59 Y _ _) rfl kU_X12 (by decide) kF_X12_98 rfl dX12_text_29 (q := 32) rfl ?_
    have hif := g_if h
    clear h
    refine g_if_eq C dX12_text_32 (q := 35) (tgt := 42) rfl (by decide) (fun c => ?_) (fun c => ?_)
    · have h := hif.1 c
      clear hif
      refine g_aload_n C 1 dX12_text_42 (q := 43) rfl rfl rfl ?_
      refine g_get C (k := 59) (i := 0) (by decide) (gc_59 Y _ _) rfl kU_X12 (by decide) kF_X12_7 rfl dX12_text_43 (q := 46) rfl ?_
      refine g_iconst C (v := 1) dX12_text_46 (q := 47) rfl (by decide) ?_
      obtain ⟨v3, hv3, h⟩ := g_bind h
      refine g_iald C (k := 60) (n := 1208) (by decide) (gc_60 Y _ _) hv3 dX12_text_47 (q := 48) rfl ?_
      refine g_istore_n C dX12_text_48 (q := 49) rfl rfl (by decide) (lv' := [(2, .int v3), (1, .int p2.1), (0, g_r Y 59)]) rfl ?_
      refine g_aload_n C 2 dX12_text_49 (q := 50) rfl rfl rfl ?_
      refine g_get C (k := 59) (i := 0) (by decide) (gc_59 Y _ _) rfl kU_X12 (by decide) kF_X12_7 rfl dX12_text_50 (q := 53) rfl ?_
      refine g_sipush C (v := 240) dX12_text_53 (q := 56) rfl (by decide) ?_
      refine g_iload_n C 0 dX12_text_56 (q := 57) rfl rfl rfl ?_
      refine g_iadd C dX12_text_57 (q := 58) rfl ?_
      refine g_aload_n C 2 dX12_text_58 (q := 59) rfl rfl rfl ?_
      refine g_get C (k := 59) (i := 4) (by decide) (gc_59 Y _ _) rfl kU_X12 (by decide) kF_X12_199 rfl dX12_text_59 (q := 62) rfl ?_
      obtain ⟨M4, hM4, h⟩ := g_bind h
      refine g_iast C (k := 60) (n := 1208) (by decide) (fun a => gc_60 Y a _) hM4 dX12_text_62 (q := 63) rfl ?_
      refine g_iconst C (v := 0) dX12_text_63 (q := 64) rfl (by decide) ?_
      refine g_istore_n C dX12_text_64 (q := 65) rfl rfl (by decide) (lv' := [(3, .int 0), (2, .int v3), (1, .int p2.1), (0, g_r Y 59)]) rfl ?_
      refine g_sub [3, 1, 0] (lv' := [(0, g_r Y 59), (2, .int v3), (3, .int 0)]) rfl ?_
      refine t_X12_text_65 C E ?_ 20000000 v3 0 M4 h
      · intro x2 M h
        try dsimp only at h
        refine g_aload_n C 0 dX12_text_100 (q := 101) rfl rfl rfl ?_
        refine g_iconst C (v := 0) dX12_text_101 (q := 102) rfl (by decide) ?_
        obtain ⟨M7, hM7, h⟩ := g_bind h
        refine g_put C (k := 59) (i := 4) (ty := .int) (by decide) (gc_59 Y _ _) (gp_59_4 Y _ _ _) rfl kU_X12 tyX12_ok nmX12 (by decide) kF_X12_199 rfl rfl rfl rfl (Nat.le_of_ble_eq_true rfl) dX12_text_102 (q := 105) rfl ?_
        refine g_mem hM7 ?_
        refine g_aload_n C 0 dX12_text_105 (q := 106) rfl rfl rfl ?_
        refine g_get C (k := 59) (i := 0) (by decide) (gc_59 Y _ _) rfl kU_X12 (by decide) kF_X12_7 rfl dX12_text_106 (q := 109) rfl ?_
        refine g_iconst C (v := 1) dX12_text_109 (q := 110) rfl (by decide) ?_
        refine g_dup2 C dX12_text_110 (q := 111) rfl rfl rfl ?_
        obtain ⟨v8, hv8, h⟩ := g_bind h
        refine g_iald C (k := 60) (n := 1208) (by decide) (gc_60 Y _ _) hv8 dX12_text_111 (q := 112) rfl ?_
        refine g_iconst C (v := 1) dX12_text_112 (q := 113) rfl (by decide) ?_
        refine g_iadd C dX12_text_113 (q := 114) rfl ?_
        obtain ⟨M9, hM9, h⟩ := g_bind h
        refine g_iast C (k := 60) (n := 1208) (by decide) (fun a => gc_60 Y a _) hM9 dX12_text_114 (q := 115) rfl ?_
        refine g_aload_n C 0 dX12_text_115 (q := 116) rfl rfl rfl ?_
        refine g_get C (k := 59) (i := 0) (by decide) (gc_59 Y _ _) rfl kU_X12 (by decide) kF_X12_7 rfl dX12_text_116 (q := 119) rfl ?_
        refine g_iconst C (v := 2) dX12_text_119 (q := 120) rfl (by decide) ?_
        refine g_iload_n C 1 dX12_text_120 (q := 121) rfl rfl rfl ?_
        have hif := g_if h
        clear h
        refine g_if_ne C dX12_text_121 (q := 124) (tgt := 128) rfl (by decide) (fun c => ?_) (fun c => ?_)
        · have h := hif.2 c
          clear hif
          refine g_aload_n C 0 dX12_text_128 (q := 129) rfl rfl rfl ?_
          refine g_get C (k := 59) (i := 0) (by decide) (gc_59 Y _ _) rfl kU_X12 (by decide) kF_X12_7 rfl dX12_text_129 (q := 132) rfl ?_
          refine g_iconst C (v := 2) dX12_text_132 (q := 133) rfl (by decide) ?_
          obtain ⟨v10, hv10, h⟩ := g_bind h
          refine g_iald C (k := 60) (n := 1208) (by decide) (gc_60 Y _ _) hv10 dX12_text_133 (q := 134) rfl ?_
          obtain ⟨M11, hM11, h⟩ := g_bind h
          refine g_iast C (k := 60) (n := 1208) (by decide) (fun a => gc_60 Y a _) hM11 dX12_text_134 (q := 135) rfl ?_
          refine g_iload_n C 1 dX12_text_135 (q := 136) rfl rfl rfl ?_
          obtain rfl := Option.some.inj h
          exact g_iret C E dX12_text_136
        · have h := hif.1 c
          clear hif
          refine g_iconst C (v := 0) dX12_text_124 (q := 125) rfl (by decide) ?_
          refine g_goto C dX12_text_125 (tgt := 134) (by decide) ?_
          obtain ⟨M12, hM12, h⟩ := g_bind h
          refine g_iast C (k := 60) (n := 1208) (by decide) (fun a => gc_60 Y a _) hM12 dX12_text_134 (q := 135) rfl ?_
          refine g_iload_n C 1 dX12_text_135 (q := 136) rfl rfl rfl ?_
          obtain rfl := Option.some.inj h
          exact g_iret C E dX12_text_136
    · have h := hif.2 c
      clear hif
      refine g_iconst C (v := (-1)) dX12_text_35 (q := 36) rfl (by decide) ?_
      refine g_aload_n C 1 dX12_text_36 (q := 37) rfl rfl rfl ?_
      refine g_get C (k := 59) (i := 12) (by decide) (gc_59 Y _ _) rfl kU_X12 (by decide) kF_X12_82 rfl dX12_text_37 (q := 40) rfl ?_
      refine g_isub C dX12_text_40 (q := 41) rfl ?_
      obtain rfl := Option.some.inj h
      exact g_iret C E dX12_text_41
  · have h := hif.1 c
    clear hif
    refine g_aload_n C 0 dX12_text_11 (q := 12) rfl rfl rfl ?_
    refine g_iconst C (v := 1) dX12_text_12 (q := 13) rfl (by decide) ?_
    obtain ⟨p13, hp13, h⟩ := g_bind h
    refine g_callV C (k := 59) (as := [.int 1]) (st := []) (m_X12_finding hp13) (g_hR (by decide)) (by decide) (by decide) (gc_59 Y _ _) rfl kM_X12_190 kI_X12_finding kS_X12_finding kN_X12 kC_X12_finding kD_X12_finding rfl (Nat.le_of_ble_eq_true rfl) dX12_text_13 (q := 16) rfl ?_
    show g_G 4 X Y 16 [(0, g_r Y 59)] [.int p13.1] p13.2
    obtain rfl := Option.some.inj h
    exact g_iret C E dX12_text_16
theorem r_X12_text {M : g_M} {p : Int32 × g_M} (h : f_X12_text M = some p) : g_fr [60, 63] [(59, 4), (59, 6), (59, 7), (59, 8), (59, 9), (59, 10), (59, 11), (59, 12), (59, 13), (59, 14), (59, 15), (59, 16)] M p.2 := by
  unfold f_X12_text at h
  have hf := g_fr.rfl (S := [60, 63]) (T := [(59, 4), (59, 6), (59, 7), (59, 8), (59, 9), (59, 10), (59, 11), (59, 12), (59, 13), (59, 14), (59, 15), (59, 16)]) (M := M)
  obtain ⟨v1, -, h⟩ := g_bind h
  rcases g_ifs h with h | h
  · obtain ⟨p13, hp13, h⟩ := g_bind h
    have hf := hf.trans ((r_X12_finding hp13).mono (by decide) (by decide))
    obtain rfl := Option.some.inj h
    exact hf
  · obtain ⟨p2, hp2, h⟩ := g_bind h
    have hf := hf.trans ((r_X12_reads hp2).mono (by decide) (by decide))
    rcases g_ifs h with h | h
    · obtain ⟨v3, -, h⟩ := g_bind h
      obtain ⟨M4, hM4, h⟩ := g_bind h
      have hf := hf.st hM4 (by decide)
      refine hf.trans (r_X12_text_65 ?_ 20000000 v3 0 M4 h)
      · intro x2 M h
        try dsimp only at h
        have hf := g_fr.rfl (S := [60, 63]) (T := [(59, 4), (59, 6), (59, 7), (59, 8), (59, 9), (59, 10), (59, 11), (59, 12), (59, 13), (59, 14), (59, 15), (59, 16)]) (M := M)
        obtain ⟨M7, hM7, h⟩ := g_bind h
        have hf := hf.pu hM7 (by decide)
        obtain ⟨v8, -, h⟩ := g_bind h
        obtain ⟨M9, hM9, h⟩ := g_bind h
        have hf := hf.st hM9 (by decide)
        rcases g_ifs h with h | h
        · obtain ⟨M12, hM12, h⟩ := g_bind h
          have hf := hf.st hM12 (by decide)
          obtain rfl := Option.some.inj h
          exact hf
        · obtain ⟨v10, -, h⟩ := g_bind h
          obtain ⟨M11, hM11, h⟩ := g_bind h
          have hf := hf.st hM11 (by decide)
          obtain rfl := Option.some.inj h
          exact hf
    · obtain rfl := Option.some.inj h
      exact hf
def f_X12_use (x1 : Int32) (M : g_M) : Option (Int32 × g_M) :=
  (g_ld M 60 1208 1).bind fun v1 => (f_X12_in x1 0 (v1 - 1) M).bind fun p2 => (if p2 = 0 then ((f_X12_finding 0 M).bind fun p5 => some (p5.1, p5.2)) else ((g_ld M 60 1208 2).bind fun v3 => (g_st M 60 1208 2 x1).bind fun M4 => some (v3, M4)))
set_option maxRecDepth 100000 in
theorem m_X12_use {l : Launch} {Y : g_Y} {x1 : Int32} {M : g_M} {p : Int32 × g_M} (h : f_X12_use x1 M = some p) : g_R l Y (1) yX12_use cX12_use 3 (some .int) [g_r Y 59, .int x1] M (some (.int p.1)) p.2 := by
  unfold f_X12_use at h
  refine g_R_of kP_X12 rfl (Nat.le_of_ble_eq_true rfl) (fun X C E => ?_)
  show g_G 3 X Y 0 [(0, g_r Y 59), (1, .int x1)] [] M
  refine g_iload_n C 1 dX12_use_0 (q := 1) rfl rfl rfl ?_
  refine g_iconst C (v := 0) dX12_use_1 (q := 2) rfl (by decide) ?_
  refine g_aload_n C 0 dX12_use_2 (q := 3) rfl rfl rfl ?_
  refine g_get C (k := 59) (i := 0) (by decide) (gc_59 Y _ _) rfl kU_X12 (by decide) kF_X12_7 rfl dX12_use_3 (q := 6) rfl ?_
  refine g_iconst C (v := 1) dX12_use_6 (q := 7) rfl (by decide) ?_
  obtain ⟨v1, hv1, h⟩ := g_bind h
  refine g_iald C (k := 60) (n := 1208) (by decide) (gc_60 Y _ _) hv1 dX12_use_7 (q := 8) rfl ?_
  refine g_iconst C (v := 1) dX12_use_8 (q := 9) rfl (by decide) ?_
  refine g_isub C dX12_use_9 (q := 10) rfl ?_
  obtain ⟨p2, hp2, h⟩ := g_bind h
  refine g_callS C (as := [.int x1, .int 0, .int (v1 - 1)]) (st := []) (m_X12_in hp2) (g_hR (by decide)) (by decide) kM_X12_64 kT_X12_in kN_X12 kC_X12_in kD_X12_in rfl (Nat.le_of_ble_eq_true rfl) dX12_use_10 (q := 13) rfl ?_
  show g_G 3 X Y 13 [(0, g_r Y 59), (1, .int x1)] [.int p2] M
  have hif := g_if h
  clear h
  refine g_if_ne C dX12_use_13 (q := 16) (tgt := 22) rfl (by decide) (fun c => ?_) (fun c => ?_)
  · have h := hif.2 c
    clear hif
    refine g_aload_n C 0 dX12_use_22 (q := 23) rfl rfl rfl ?_
    refine g_get C (k := 59) (i := 0) (by decide) (gc_59 Y _ _) rfl kU_X12 (by decide) kF_X12_7 rfl dX12_use_23 (q := 26) rfl ?_
    refine g_iconst C (v := 2) dX12_use_26 (q := 27) rfl (by decide) ?_
    obtain ⟨v3, hv3, h⟩ := g_bind h
    refine g_iald C (k := 60) (n := 1208) (by decide) (gc_60 Y _ _) hv3 dX12_use_27 (q := 28) rfl ?_
    refine g_istore_n C dX12_use_28 (q := 29) rfl rfl (by decide) (lv' := [(2, .int v3), (0, g_r Y 59), (1, .int x1)]) rfl ?_
    refine g_aload_n C 1 dX12_use_29 (q := 30) rfl rfl rfl ?_
    refine g_get C (k := 59) (i := 0) (by decide) (gc_59 Y _ _) rfl kU_X12 (by decide) kF_X12_7 rfl dX12_use_30 (q := 33) rfl ?_
    refine g_iconst C (v := 2) dX12_use_33 (q := 34) rfl (by decide) ?_
    refine g_iload_n C 2 dX12_use_34 (q := 35) rfl rfl rfl ?_
    obtain ⟨M4, hM4, h⟩ := g_bind h
    refine g_iast C (k := 60) (n := 1208) (by decide) (fun a => gc_60 Y a _) hM4 dX12_use_35 (q := 36) rfl ?_
    refine g_iload_n C 0 dX12_use_36 (q := 37) rfl rfl rfl ?_
    obtain rfl := Option.some.inj h
    exact g_iret C E dX12_use_37
  · have h := hif.1 c
    clear hif
    refine g_aload_n C 0 dX12_use_16 (q := 17) rfl rfl rfl ?_
    refine g_iconst C (v := 0) dX12_use_17 (q := 18) rfl (by decide) ?_
    obtain ⟨p5, hp5, h⟩ := g_bind h
    refine g_callV C (k := 59) (as := [.int 0]) (st := []) (m_X12_finding hp5) (g_hR (by decide)) (by decide) (by decide) (gc_59 Y _ _) rfl kM_X12_190 kI_X12_finding kS_X12_finding kN_X12 kC_X12_finding kD_X12_finding rfl (Nat.le_of_ble_eq_true rfl) dX12_use_18 (q := 21) rfl ?_
    show g_G 3 X Y 21 [(0, g_r Y 59), (1, .int x1)] [.int p5.1] p5.2
    obtain rfl := Option.some.inj h
    exact g_iret C E dX12_use_21
theorem r_X12_use {x1 : Int32} {M : g_M} {p : Int32 × g_M} (h : f_X12_use x1 M = some p) : g_fr [60, 63] [] M p.2 := by
  unfold f_X12_use at h
  have hf := g_fr.rfl (S := [60, 63]) (T := []) (M := M)
  obtain ⟨v1, -, h⟩ := g_bind h
  obtain ⟨p2, -, h⟩ := g_bind h
  rcases g_ifs h with h | h
  · obtain ⟨p5, hp5, h⟩ := g_bind h
    have hf := hf.trans ((r_X12_finding hp5).mono (by decide) (by decide))
    obtain rfl := Option.some.inj h
    exact hf
  · obtain ⟨v3, -, h⟩ := g_bind h
    obtain ⟨M4, hM4, h⟩ := g_bind h
    have hf := hf.st hM4 (by decide)
    obtain rfl := Option.some.inj h
    exact hf
def f_X12_may_24 (M : g_M) : Option (Int32 × g_M) :=
  (f_X12_finding 0 M).bind fun p3 => some (p3.1, p3.2)
set_option maxRecDepth 100000 in
theorem t_X12_may_24 {l : Launch} {X : g_X} {Y : g_Y} {p : Int32 × g_M} (C : g_C l (g_rm (202)) RX12 cX12_may 3 X Y) (E : g_E (some .int) X Y (some (.int p.1)) p.2) (M : g_M) (h : f_X12_may_24 M = some p) : g_G 3 X Y 24 [(0, g_r Y 59)] [] M := by
  unfold f_X12_may_24 at h
  refine g_aload_n C 0 dX12_may_24 (q := 25) rfl rfl rfl ?_
  refine g_iconst C (v := 0) dX12_may_25 (q := 26) rfl (by decide) ?_
  obtain ⟨p3, hp3, h⟩ := g_bind h
  refine g_callV C (k := 59) (as := [.int 0]) (st := []) (m_X12_finding hp3) (g_hR (by decide)) (by decide) (by decide) (gc_59 Y _ _) rfl kM_X12_190 kI_X12_finding kS_X12_finding kN_X12 kC_X12_finding kD_X12_finding rfl (Nat.le_of_ble_eq_true rfl) dX12_may_26 (q := 29) rfl ?_
  show g_G 3 X Y 29 [(0, g_r Y 59)] [.int p3.1] p3.2
  obtain rfl := Option.some.inj h
  exact g_iret C E dX12_may_29
theorem r_X12_may_24 {p : Int32 × g_M} (M : g_M) (h : f_X12_may_24 M = some p) : g_fr [63] [(59, 6), (59, 7), (59, 8), (59, 9), (59, 10), (59, 11), (59, 12), (59, 13), (59, 14), (59, 15), (59, 16)] M p.2 := by
  unfold f_X12_may_24 at h
  have hf := g_fr.rfl (S := [63]) (T := [(59, 6), (59, 7), (59, 8), (59, 9), (59, 10), (59, 11), (59, 12), (59, 13), (59, 14), (59, 15), (59, 16)]) (M := M)
  obtain ⟨p3, hp3, h⟩ := g_bind h
  have hf := hf.trans ((r_X12_finding hp3).mono (by decide) (by decide))
  obtain rfl := Option.some.inj h
  exact hf
def f_X12_may (x1 : Int32) (x2 : Int32) (M : g_M) : Option (Int32 × g_M) :=
  (g_ld M 60 1208 1).bind fun v1 => (f_X12_in x1 0 (v1 - 1) M).bind fun p2 => (if p2 = 0 then (f_X12_may_24 M) else ((f_X12_isSet x2 M).bind fun p4 => (if p4 = 0 then (f_X12_may_24 M) else ((f_X12_mayBy x1 x2 M).bind fun p5 => (if p5.1 = 0 then (some (0, p5.2)) else (some (1, p5.2)))))))
set_option maxRecDepth 100000 in
theorem m_X12_may {l : Launch} {Y : g_Y} {x1 : Int32} {x2 : Int32} {M : g_M} {p : Int32 × g_M} (h : f_X12_may x1 x2 M = some p) : g_R l Y (202) yX12_may cX12_may 3 (some .int) [g_r Y 59, .int x1, .int x2] M (some (.int p.1)) p.2 := by
  unfold f_X12_may at h
  refine g_R_of kP_X12 rfl (Nat.le_of_ble_eq_true rfl) (fun X C E => ?_)
  show g_G 3 X Y 0 [(0, g_r Y 59), (1, .int x1), (2, .int x2)] [] M
  refine g_iload_n C 1 dX12_may_0 (q := 1) rfl rfl rfl ?_
  refine g_iconst C (v := 0) dX12_may_1 (q := 2) rfl (by decide) ?_
  refine g_aload_n C 0 dX12_may_2 (q := 3) rfl rfl rfl ?_
  refine g_get C (k := 59) (i := 0) (by decide) (gc_59 Y _ _) rfl kU_X12 (by decide) kF_X12_7 rfl dX12_may_3 (q := 6) rfl ?_
  refine g_iconst C (v := 1) dX12_may_6 (q := 7) rfl (by decide) ?_
  obtain ⟨v1, hv1, h⟩ := g_bind h
  refine g_iald C (k := 60) (n := 1208) (by decide) (gc_60 Y _ _) hv1 dX12_may_7 (q := 8) rfl ?_
  refine g_iconst C (v := 1) dX12_may_8 (q := 9) rfl (by decide) ?_
  refine g_isub C dX12_may_9 (q := 10) rfl ?_
  obtain ⟨p2, hp2, h⟩ := g_bind h
  refine g_callS C (as := [.int x1, .int 0, .int (v1 - 1)]) (st := []) (m_X12_in hp2) (g_hR (by decide)) (by decide) kM_X12_64 kT_X12_in kN_X12 kC_X12_in kD_X12_in rfl (Nat.le_of_ble_eq_true rfl) dX12_may_10 (q := 13) rfl ?_
  show g_G 3 X Y 13 [(0, g_r Y 59), (1, .int x1), (2, .int x2)] [.int p2] M
  have hif := g_if h
  clear h
  refine g_if_eq C dX12_may_13 (q := 16) (tgt := 24) rfl (by decide) (fun c => ?_) (fun c => ?_)
  · have h := hif.1 c
    clear hif
    refine g_sub [0] (lv' := [(0, g_r Y 59)]) rfl ?_
    exact t_X12_may_24 C E M h
  · have h := hif.2 c
    clear hif
    refine g_aload_n C 0 dX12_may_16 (q := 17) rfl rfl rfl ?_
    refine g_iload_n C 2 dX12_may_17 (q := 18) rfl rfl rfl ?_
    obtain ⟨p4, hp4, h⟩ := g_bind h
    refine g_callV C (k := 59) (as := [.int x2]) (st := []) (m_X12_isSet hp4) (g_hR (by decide)) (by decide) (by decide) (gc_59 Y _ _) rfl kM_X12_202 kI_X12_isSet kS_X12_isSet kN_X12 kC_X12_isSet kD_X12_isSet rfl (Nat.le_of_ble_eq_true rfl) dX12_may_18 (q := 21) rfl ?_
    show g_G 3 X Y 21 [(0, g_r Y 59), (1, .int x1), (2, .int x2)] [.int p4] M
    have hif := g_if h
    clear h
    refine g_if_ne C dX12_may_21 (q := 24) (tgt := 30) rfl (by decide) (fun c => ?_) (fun c => ?_)
    · have h := hif.2 c
      clear hif
      refine g_aload_n C 0 dX12_may_30 (q := 31) rfl rfl rfl ?_
      refine g_iload_n C 1 dX12_may_31 (q := 32) rfl rfl rfl ?_
      refine g_iload_n C 2 dX12_may_32 (q := 33) rfl rfl rfl ?_
      obtain ⟨p5, hp5, h⟩ := g_bind h
      refine g_callV C (k := 59) (as := [.int x1, .int x2]) (st := []) (m_X12_mayBy hp5) (g_hR (by decide)) (by decide) (by decide) (gc_59 Y _ _) rfl kM_X12_205 kI_X12_mayBy kS_X12_mayBy kN_X12 kC_X12_mayBy kD_X12_mayBy rfl (Nat.le_of_ble_eq_true rfl) dX12_may_33 (q := 36) rfl ?_
      show g_G 3 X Y 36 [(0, g_r Y 59), (1, .int x1), (2, .int x2)] [.int p5.1] p5.2
      have hif := g_if h
      clear h
      refine g_if_eq C dX12_may_36 (q := 39) (tgt := 43) rfl (by decide) (fun c => ?_) (fun c => ?_)
      · have h := hif.1 c
        clear hif
        refine g_iconst C (v := 0) dX12_may_43 (q := 44) rfl (by decide) ?_
        obtain rfl := Option.some.inj h
        exact g_iret C E dX12_may_44
      · have h := hif.2 c
        clear hif
        refine g_iconst C (v := 1) dX12_may_39 (q := 40) rfl (by decide) ?_
        refine g_goto C dX12_may_40 (tgt := 44) (by decide) ?_
        obtain rfl := Option.some.inj h
        exact g_iret C E dX12_may_44
    · have h := hif.1 c
      clear hif
      refine g_sub [0] (lv' := [(0, g_r Y 59)]) rfl ?_
      exact t_X12_may_24 C E M h
theorem r_X12_may {x1 : Int32} {x2 : Int32} {M : g_M} {p : Int32 × g_M} (h : f_X12_may x1 x2 M = some p) : g_fr [63] [(59, 6), (59, 7), (59, 8), (59, 9), (59, 10), (59, 11), (59, 12), (59, 13), (59, 14), (59, 15), (59, 16)] M p.2 := by
  unfold f_X12_may at h
  have hf := g_fr.rfl (S := [63]) (T := [(59, 6), (59, 7), (59, 8), (59, 9), (59, 10), (59, 11), (59, 12), (59, 13), (59, 14), (59, 15), (59, 16)]) (M := M)
  obtain ⟨v1, -, h⟩ := g_bind h
  obtain ⟨p2, -, h⟩ := g_bind h
  rcases g_ifs h with h | h
  · exact hf.trans (r_X12_may_24 M h)
  · obtain ⟨p4, -, h⟩ := g_bind h
    rcases g_ifs h with h | h
    · exact hf.trans (r_X12_may_24 M h)
    · obtain ⟨p5, hp5, h⟩ := g_bind h
      have hf := hf.trans ((r_X12_mayBy hp5).mono (by decide) (by decide))
      rcases g_ifs h with h | h
      · obtain rfl := Option.some.inj h
        exact hf
      · obtain rfl := Option.some.inj h
        exact hf
def f_X12_isPart (x1 : Int32) (M : g_M) : Option (Int32) :=
  (f_X12_all M).bind fun p1 => (if (x1 &&& (p1 ^^^ (-1))) = 0 then (some 1) else (some 0))
set_option maxRecDepth 100000 in
theorem m_X12_isPart {l : Launch} {Y : g_Y} {x1 : Int32} {M : g_M} {p : Int32} (h : f_X12_isPart x1 M = some p) : g_R l Y (1) yX12_isPart cX12_isPart 2 (some .boolean) [g_r Y 59, .int x1] M (some (.int p)) M := by
  unfold f_X12_isPart at h
  refine g_R_of kP_X12 rfl (Nat.le_of_ble_eq_true rfl) (fun X C E => ?_)
  show g_G 2 X Y 0 [(0, g_r Y 59), (1, .int x1)] [] M
  refine g_iload_n C 1 dX12_isPart_0 (q := 1) rfl rfl rfl ?_
  refine g_aload_n C 0 dX12_isPart_1 (q := 2) rfl rfl rfl ?_
  obtain ⟨p1, hp1, h⟩ := g_bind h
  refine g_callV C (k := 59) (as := []) (st := [.int x1]) (m_X12_all hp1) (g_hR (by decide)) (by decide) (by decide) (gc_59 Y _ _) rfl kM_X12_181 kI_X12_all kS_X12_all kN_X12 kC_X12_all kD_X12_all rfl (Nat.le_of_ble_eq_true rfl) dX12_isPart_2 (q := 5) rfl ?_
  show g_G 2 X Y 5 [(0, g_r Y 59), (1, .int x1)] [.int p1, .int x1] M
  refine g_iconst C (v := (-1)) dX12_isPart_5 (q := 6) rfl (by decide) ?_
  refine g_ixor C dX12_isPart_6 (q := 7) rfl ?_
  refine g_iand C dX12_isPart_7 (q := 8) rfl ?_
  have hif := g_if h
  clear h
  refine g_if_ne C dX12_isPart_8 (q := 11) (tgt := 15) rfl (by decide) (fun c => ?_) (fun c => ?_)
  · have h := hif.2 c
    clear hif
    refine g_iconst C (v := 0) dX12_isPart_15 (q := 16) rfl (by decide) ?_
    obtain rfl := Option.some.inj h
    exact g_zret C (g_bz_lit (by decide)) E dX12_isPart_16
  · have h := hif.1 c
    clear hif
    refine g_iconst C (v := 1) dX12_isPart_11 (q := 12) rfl (by decide) ?_
    refine g_goto C dX12_isPart_12 (tgt := 16) (by decide) ?_
    obtain rfl := Option.some.inj h
    exact g_zret C (g_bz_lit (by decide)) E dX12_isPart_16
def F_X12_findMay_7 (k53 : g_M → Option (g_M)) (k : Int32 → Int32 → g_M → Option (g_M)) (x1 : Int32) (x2 : Int32) (M : g_M) : Option (g_M) :=
  (if 1024 ≤ x2 then (k53 M) else ((if (x2 &&& (x1 ^^^ (-1))) = 0 then ((g_ld M 60 1208 2).bind fun v4 => (f_X12_mayBy v4 x2 M).bind fun p5 => (if p5.1 = 0 then ((g_bz 0).bind fun z7 => (g_st p5.2 64 1024 x2 z7).bind fun M6 => k x1 (x2 + 1) M6) else ((g_bz 1).bind fun z9 => (g_st p5.2 64 1024 x2 z9).bind fun M8 => k x1 (x2 + 1) M8))) else ((g_bz 0).bind fun z3 => (g_st M 64 1024 x2 z3).bind fun M2 => k x1 (x2 + 1) M2))))
set_option maxRecDepth 100000 in
theorem t_X12_findMay_7 {l : Launch} {X : g_X} {Y : g_Y} {p : g_M} {k53 : g_M → Option (g_M)} (C : g_C l (g_rm (202)) RX12 cX12_findMay 3 X Y) (E : g_E none X Y none p) (hk53 : ∀ (M : g_M), k53 M = some p → g_G 3 X Y 53 [] [] M) (n : Nat) : ∀ (x1 : Int32) (x2 : Int32) (M : g_M), g_lp2 (F_X12_findMay_7 k53) n x1 x2 M = some p → g_G 3 X Y 7 [(0, g_r Y 59), (1, .int x1), (2, .int x2)] [] M := by
  induction n with
  | zero => intro x1 x2 M h; exact (g_nn h).elim
  | succ n ih =>
    intro x1 x2 M h
    have h : F_X12_findMay_7 k53 (g_lp2 (F_X12_findMay_7 k53) n) x1 x2 M = some p := h
    generalize g_lp2 (F_X12_findMay_7 k53) n = k at h ih
    unfold F_X12_findMay_7 at h
    refine g_iload_n C 2 dX12_findMay_7 (q := 8) rfl rfl rfl ?_
    refine g_sipush C (v := 1024) dX12_findMay_8 (q := 11) rfl (by decide) ?_
    have hif := g_if h
    clear h
    refine g_icmp_ge C dX12_findMay_11 (q := 14) (tgt := 53) rfl (by decide) (fun c => ?_) (fun c => ?_)
    · have h := hif.1 c
      clear hif
      refine g_sub [] (lv' := []) rfl ?_
      exact hk53 M h
    · have h := hif.2 c
      clear hif
      refine g_aload_n C 0 dX12_findMay_14 (q := 15) rfl rfl rfl ?_
      refine g_get C (k := 59) (i := 17) (by decide) (gc_59 Y _ _) rfl kU_X12 (by decide) kF_X12_22 rfl dX12_findMay_15 (q := 18) rfl ?_
      refine g_iload_n C 2 dX12_findMay_18 (q := 19) rfl rfl rfl ?_
      refine g_iload_n C 2 dX12_findMay_19 (q := 20) rfl rfl rfl ?_
      refine g_iload_n C 1 dX12_findMay_20 (q := 21) rfl rfl rfl ?_
      refine g_iconst C (v := (-1)) dX12_findMay_21 (q := 22) rfl (by decide) ?_
      refine g_ixor C dX12_findMay_22 (q := 23) rfl ?_
      refine g_iand C dX12_findMay_23 (q := 24) rfl ?_
      have hif := g_if h
      clear h
      refine g_if_ne C dX12_findMay_24 (q := 27) (tgt := 45) rfl (by decide) (fun c => ?_) (fun c => ?_)
      · have h := hif.2 c
        clear hif
        refine g_iconst C (v := 0) dX12_findMay_45 (q := 46) rfl (by decide) ?_
        obtain ⟨z3, hz3, h⟩ := g_bind h
        obtain ⟨M2, hM2, h⟩ := g_bind h
        refine g_zast C (k := 64) (n := 1024) (by decide) (fun a => gc_64 Y a _) hz3 hM2 dX12_findMay_46 (q := 47) rfl ?_
        refine g_iinc C (k := 2) (v := x2 + 1) dX12_findMay_47 (q := 50) rfl rfl rfl (by decide) (lv' := [(2, .int (x2 + 1)), (0, g_r Y 59), (1, .int x1)]) rfl ?_
        refine g_goto C dX12_findMay_50 (tgt := 7) (by decide) ?_
        refine g_sub [1, 2, 0] (lv' := [(0, g_r Y 59), (1, .int x1), (2, .int (x2 + 1))]) rfl ?_
        exact ih x1 (x2 + 1) M2 h
      · have h := hif.1 c
        clear hif
        refine g_aload_n C 0 dX12_findMay_27 (q := 28) rfl rfl rfl ?_
        refine g_aload_n C 0 dX12_findMay_28 (q := 29) rfl rfl rfl ?_
        refine g_get C (k := 59) (i := 0) (by decide) (gc_59 Y _ _) rfl kU_X12 (by decide) kF_X12_7 rfl dX12_findMay_29 (q := 32) rfl ?_
        refine g_iconst C (v := 2) dX12_findMay_32 (q := 33) rfl (by decide) ?_
        obtain ⟨v4, hv4, h⟩ := g_bind h
        refine g_iald C (k := 60) (n := 1208) (by decide) (gc_60 Y _ _) hv4 dX12_findMay_33 (q := 34) rfl ?_
        refine g_iload_n C 2 dX12_findMay_34 (q := 35) rfl rfl rfl ?_
        obtain ⟨p5, hp5, h⟩ := g_bind h
        refine g_callV C (k := 59) (as := [.int v4, .int x2]) (st := [.int x2, g_r Y 64]) (m_X12_mayBy hp5) (g_hR (by decide)) (by decide) (by decide) (gc_59 Y _ _) rfl kM_X12_205 kI_X12_mayBy kS_X12_mayBy kN_X12 kC_X12_mayBy kD_X12_mayBy rfl (Nat.le_of_ble_eq_true rfl) dX12_findMay_35 (q := 38) rfl ?_
        show g_G 3 X Y 38 [(0, g_r Y 59), (1, .int x1), (2, .int x2)] [.int p5.1, .int x2, g_r Y 64] p5.2
        have hif := g_if h
        clear h
        refine g_if_eq C dX12_findMay_38 (q := 41) (tgt := 45) rfl (by decide) (fun c => ?_) (fun c => ?_)
        · have h := hif.1 c
          clear hif
          refine g_iconst C (v := 0) dX12_findMay_45 (q := 46) rfl (by decide) ?_
          obtain ⟨z7, hz7, h⟩ := g_bind h
          obtain ⟨M6, hM6, h⟩ := g_bind h
          refine g_zast C (k := 64) (n := 1024) (by decide) (fun a => gc_64 Y a _) hz7 hM6 dX12_findMay_46 (q := 47) rfl ?_
          refine g_iinc C (k := 2) (v := x2 + 1) dX12_findMay_47 (q := 50) rfl rfl rfl (by decide) (lv' := [(2, .int (x2 + 1)), (0, g_r Y 59), (1, .int x1)]) rfl ?_
          refine g_goto C dX12_findMay_50 (tgt := 7) (by decide) ?_
          refine g_sub [1, 2, 0] (lv' := [(0, g_r Y 59), (1, .int x1), (2, .int (x2 + 1))]) rfl ?_
          exact ih x1 (x2 + 1) M6 h
        · have h := hif.2 c
          clear hif
          refine g_iconst C (v := 1) dX12_findMay_41 (q := 42) rfl (by decide) ?_
          refine g_goto C dX12_findMay_42 (tgt := 46) (by decide) ?_
          obtain ⟨z9, hz9, h⟩ := g_bind h
          obtain ⟨M8, hM8, h⟩ := g_bind h
          refine g_zast C (k := 64) (n := 1024) (by decide) (fun a => gc_64 Y a _) hz9 hM8 dX12_findMay_46 (q := 47) rfl ?_
          refine g_iinc C (k := 2) (v := x2 + 1) dX12_findMay_47 (q := 50) rfl rfl rfl (by decide) (lv' := [(2, .int (x2 + 1)), (0, g_r Y 59), (1, .int x1)]) rfl ?_
          refine g_goto C dX12_findMay_50 (tgt := 7) (by decide) ?_
          refine g_sub [1, 2, 0] (lv' := [(0, g_r Y 59), (1, .int x1), (2, .int (x2 + 1))]) rfl ?_
          exact ih x1 (x2 + 1) M8 h
theorem r_X12_findMay_7 {p : g_M} {k53 : g_M → Option (g_M)} (hk53 : ∀ (M : g_M), k53 M = some p → g_fr [64] [(59, 6), (59, 7), (59, 8), (59, 9), (59, 10), (59, 11), (59, 12), (59, 13), (59, 14), (59, 15), (59, 16)] M p) (n : Nat) : ∀ (x1 : Int32) (x2 : Int32) (M : g_M), g_lp2 (F_X12_findMay_7 k53) n x1 x2 M = some p → g_fr [64] [(59, 6), (59, 7), (59, 8), (59, 9), (59, 10), (59, 11), (59, 12), (59, 13), (59, 14), (59, 15), (59, 16)] M p := by
  induction n with
  | zero => intro x1 x2 M h; exact (g_nn h).elim
  | succ n ih =>
    intro x1 x2 M h
    have h : F_X12_findMay_7 k53 (g_lp2 (F_X12_findMay_7 k53) n) x1 x2 M = some p := h
    generalize g_lp2 (F_X12_findMay_7 k53) n = k at h ih
    unfold F_X12_findMay_7 at h
    have hf := g_fr.rfl (S := [64]) (T := [(59, 6), (59, 7), (59, 8), (59, 9), (59, 10), (59, 11), (59, 12), (59, 13), (59, 14), (59, 15), (59, 16)]) (M := M)
    rcases g_ifs h with h | h
    · exact hf.trans (hk53 M h)
    · rcases g_ifs h with h | h
      · obtain ⟨v4, -, h⟩ := g_bind h
        obtain ⟨p5, hp5, h⟩ := g_bind h
        have hf := hf.trans ((r_X12_mayBy hp5).mono (by decide) (by decide))
        rcases g_ifs h with h | h
        · obtain ⟨z7, -, h⟩ := g_bind h
          obtain ⟨M6, hM6, h⟩ := g_bind h
          have hf := hf.st hM6 (by decide)
          exact hf.trans (ih x1 (x2 + 1) M6 h)
        · obtain ⟨z9, -, h⟩ := g_bind h
          obtain ⟨M8, hM8, h⟩ := g_bind h
          have hf := hf.st hM8 (by decide)
          exact hf.trans (ih x1 (x2 + 1) M8 h)
      · obtain ⟨z3, -, h⟩ := g_bind h
        obtain ⟨M2, hM2, h⟩ := g_bind h
        have hf := hf.st hM2 (by decide)
        exact hf.trans (ih x1 (x2 + 1) M2 h)
def f_X12_findMay (M : g_M) : Option (g_M) :=
  (f_X12_all M).bind fun p1 => g_lp2 (F_X12_findMay_7 (fun (M : g_M) => some M)) 20000000 p1 0 M
set_option maxRecDepth 100000 in
theorem m_X12_findMay {l : Launch} {Y : g_Y} {M : g_M} {p : g_M} (h : f_X12_findMay M = some p) : g_R l Y (202) yX12_findMay cX12_findMay 3 none [g_r Y 59] M none p := by
  unfold f_X12_findMay at h
  refine g_R_of kP_X12 rfl (Nat.le_of_ble_eq_true rfl) (fun X C E => ?_)
  show g_G 3 X Y 0 [(0, g_r Y 59)] [] M
  refine g_aload_n C 0 dX12_findMay_0 (q := 1) rfl rfl rfl ?_
  obtain ⟨p1, hp1, h⟩ := g_bind h
  refine g_callV C (k := 59) (as := []) (st := []) (m_X12_all hp1) (g_hR (by decide)) (by decide) (by decide) (gc_59 Y _ _) rfl kM_X12_181 kI_X12_all kS_X12_all kN_X12 kC_X12_all kD_X12_all rfl (Nat.le_of_ble_eq_true rfl) dX12_findMay_1 (q := 4) rfl ?_
  show g_G 3 X Y 4 [(0, g_r Y 59)] [.int p1] M
  refine g_istore_n C dX12_findMay_4 (q := 5) rfl rfl (by decide) (lv' := [(1, .int p1), (0, g_r Y 59)]) rfl ?_
  refine g_iconst C (v := 0) dX12_findMay_5 (q := 6) rfl (by decide) ?_
  refine g_istore_n C dX12_findMay_6 (q := 7) rfl rfl (by decide) (lv' := [(2, .int 0), (1, .int p1), (0, g_r Y 59)]) rfl ?_
  refine g_sub [2, 1, 0] (lv' := [(0, g_r Y 59), (1, .int p1), (2, .int 0)]) rfl ?_
  refine t_X12_findMay_7 C E ?_ 20000000 p1 0 M h
  · intro M h
    try dsimp only at h
    obtain rfl := Option.some.inj h
    exact g_vret C E dX12_findMay_53
theorem r_X12_findMay {M : g_M} {p : g_M} (h : f_X12_findMay M = some p) : g_fr [64] [(59, 6), (59, 7), (59, 8), (59, 9), (59, 10), (59, 11), (59, 12), (59, 13), (59, 14), (59, 15), (59, 16)] M p := by
  unfold f_X12_findMay at h
  have hf := g_fr.rfl (S := [64]) (T := [(59, 6), (59, 7), (59, 8), (59, 9), (59, 10), (59, 11), (59, 12), (59, 13), (59, 14), (59, 15), (59, 16)]) (M := M)
  obtain ⟨p1, -, h⟩ := g_bind h
  refine hf.trans (r_X12_findMay_7 ?_ 20000000 p1 0 M h)
  · intro M h
    try dsimp only at h
    have hf := g_fr.rfl (S := [64]) (T := [(59, 6), (59, 7), (59, 8), (59, 9), (59, 10), (59, 11), (59, 12), (59, 13), (59, 14), (59, 15), (59, 16)]) (M := M)
    obtain rfl := Option.some.inj h
    exact hf
def F_X12_loses_2 (M : g_M) (k47 : Int32 → Option (Int32)) (k55 : Option (Int32)) (k : Int32 → Int32 → Int32 → Option (Int32)) (x1 : Int32) (x2 : Int32) (x3 : Int32) : Option (Int32) :=
  (if 10 ≤ x3 then (k55) else ((if ((x2 >>> (x3 &&& 31)) &&& 1) = 1 then ((if ((x1 >>> (x3 &&& 31)) &&& 1) = 0 then ((g_ld M 64 1024 x1).bind fun v1 => (if v1 = 0 then (k x1 x2 (x3 + 1)) else ((g_ld M 64 1024 (x1 ||| ((1 : Int32) <<< (x3 &&& 31)))).bind fun v2 => (if v2 = 0 then (k47 x3) else (k x1 x2 (x3 + 1)))))) else (k x1 x2 (x3 + 1)))) else (k x1 x2 (x3 + 1)))))
set_option maxRecDepth 100000 in
theorem t_X12_loses_2 {l : Launch} {X : g_X} {Y : g_Y} {p : Int32} {M : g_M} {k47 : Int32 → Option (Int32)} {k55 : Option (Int32)} (C : g_C l (g_rm (0)) RX12 cX12_loses 4 X Y) (E : g_E (some .int) X Y (some (.int p)) M) (hk47 : ∀ (x3 : Int32), k47 x3 = some p → g_G 4 X Y 47 [(3, .int x3)] [] M) (hk55 : k55 = some p → g_G 4 X Y 55 [] [] M) (n : Nat) : ∀ (x1 : Int32) (x2 : Int32) (x3 : Int32), g_lq3 (F_X12_loses_2 M k47 k55) n x1 x2 x3 = some p → g_G 4 X Y 2 [(0, g_r Y 59), (1, .int x1), (2, .int x2), (3, .int x3)] [] M := by
  induction n with
  | zero => intro x1 x2 x3 h; exact (g_nn h).elim
  | succ n ih =>
    intro x1 x2 x3 h
    have h : F_X12_loses_2 M k47 k55 (g_lq3 (F_X12_loses_2 M k47 k55) n) x1 x2 x3 = some p := h
    generalize g_lq3 (F_X12_loses_2 M k47 k55) n = k at h ih
    unfold F_X12_loses_2 at h
    refine g_iload_n C 3 dX12_loses_2 (q := 3) rfl rfl rfl ?_
    refine g_bipush C (v := 10) dX12_loses_3 (q := 5) rfl (by decide) ?_
    have hif := g_if h
    clear h
    refine g_icmp_ge C dX12_loses_5 (q := 8) (tgt := 55) rfl (by decide) (fun c => ?_) (fun c => ?_)
    · have h := hif.1 c
      clear hif
      refine g_sub [] (lv' := []) rfl ?_
      exact hk55 h
    · have h := hif.2 c
      clear hif
      refine g_iload_n C 2 dX12_loses_8 (q := 9) rfl rfl rfl ?_
      refine g_iload_n C 3 dX12_loses_9 (q := 10) rfl rfl rfl ?_
      refine g_ishr C dX12_loses_10 (q := 11) rfl ?_
      refine g_iconst C (v := 1) dX12_loses_11 (q := 12) rfl (by decide) ?_
      refine g_iand C dX12_loses_12 (q := 13) rfl ?_
      refine g_iconst C (v := 1) dX12_loses_13 (q := 14) rfl (by decide) ?_
      have hif := g_if h
      clear h
      refine g_icmp_ne C dX12_loses_14 (q := 17) (tgt := 49) rfl (by decide) (fun c => ?_) (fun c => ?_)
      · have h := hif.2 c
        clear hif
        refine g_iinc C (k := 3) (v := x3 + 1) dX12_loses_49 (q := 52) rfl rfl rfl (by decide) (lv' := [(3, .int (x3 + 1)), (0, g_r Y 59), (1, .int x1), (2, .int x2)]) rfl ?_
        refine g_goto C dX12_loses_52 (tgt := 2) (by decide) ?_
        refine g_sub [1, 2, 3, 0] (lv' := [(0, g_r Y 59), (1, .int x1), (2, .int x2), (3, .int (x3 + 1))]) rfl ?_
        exact ih x1 x2 (x3 + 1) h
      · have h := hif.1 c
        clear hif
        refine g_iload_n C 1 dX12_loses_17 (q := 18) rfl rfl rfl ?_
        refine g_iload_n C 3 dX12_loses_18 (q := 19) rfl rfl rfl ?_
        refine g_ishr C dX12_loses_19 (q := 20) rfl ?_
        refine g_iconst C (v := 1) dX12_loses_20 (q := 21) rfl (by decide) ?_
        refine g_iand C dX12_loses_21 (q := 22) rfl ?_
        have hif := g_if h
        clear h
        refine g_if_ne C dX12_loses_22 (q := 25) (tgt := 49) rfl (by decide) (fun c => ?_) (fun c => ?_)
        · have h := hif.2 c
          clear hif
          refine g_iinc C (k := 3) (v := x3 + 1) dX12_loses_49 (q := 52) rfl rfl rfl (by decide) (lv' := [(3, .int (x3 + 1)), (0, g_r Y 59), (1, .int x1), (2, .int x2)]) rfl ?_
          refine g_goto C dX12_loses_52 (tgt := 2) (by decide) ?_
          refine g_sub [1, 2, 3, 0] (lv' := [(0, g_r Y 59), (1, .int x1), (2, .int x2), (3, .int (x3 + 1))]) rfl ?_
          exact ih x1 x2 (x3 + 1) h
        · have h := hif.1 c
          clear hif
          refine g_aload_n C 0 dX12_loses_25 (q := 26) rfl rfl rfl ?_
          refine g_get C (k := 59) (i := 17) (by decide) (gc_59 Y _ _) rfl kU_X12 (by decide) kF_X12_22 rfl dX12_loses_26 (q := 29) rfl ?_
          refine g_iload_n C 1 dX12_loses_29 (q := 30) rfl rfl rfl ?_
          obtain ⟨v1, hv1, h⟩ := g_bind h
          refine g_zald C (k := 64) (n := 1024) (by decide) (gc_64 Y _ _) hv1 dX12_loses_30 (q := 31) rfl ?_
          have hif := g_if h
          clear h
          refine g_if_eq C dX12_loses_31 (q := 34) (tgt := 49) rfl (by decide) (fun c => ?_) (fun c => ?_)
          · have h := hif.1 c
            clear hif
            refine g_iinc C (k := 3) (v := x3 + 1) dX12_loses_49 (q := 52) rfl rfl rfl (by decide) (lv' := [(3, .int (x3 + 1)), (0, g_r Y 59), (1, .int x1), (2, .int x2)]) rfl ?_
            refine g_goto C dX12_loses_52 (tgt := 2) (by decide) ?_
            refine g_sub [1, 2, 3, 0] (lv' := [(0, g_r Y 59), (1, .int x1), (2, .int x2), (3, .int (x3 + 1))]) rfl ?_
            exact ih x1 x2 (x3 + 1) h
          · have h := hif.2 c
            clear hif
            refine g_aload_n C 0 dX12_loses_34 (q := 35) rfl rfl rfl ?_
            refine g_get C (k := 59) (i := 17) (by decide) (gc_59 Y _ _) rfl kU_X12 (by decide) kF_X12_22 rfl dX12_loses_35 (q := 38) rfl ?_
            refine g_iload_n C 1 dX12_loses_38 (q := 39) rfl rfl rfl ?_
            refine g_iconst C (v := 1) dX12_loses_39 (q := 40) rfl (by decide) ?_
            refine g_iload_n C 3 dX12_loses_40 (q := 41) rfl rfl rfl ?_
            refine g_ishl C dX12_loses_41 (q := 42) rfl ?_
            refine g_ior C dX12_loses_42 (q := 43) rfl ?_
            obtain ⟨v2, hv2, h⟩ := g_bind h
            refine g_zald C (k := 64) (n := 1024) (by decide) (gc_64 Y _ _) hv2 dX12_loses_43 (q := 44) rfl ?_
            have hif := g_if h
            clear h
            refine g_if_ne C dX12_loses_44 (q := 47) (tgt := 49) rfl (by decide) (fun c => ?_) (fun c => ?_)
            · have h := hif.2 c
              clear hif
              refine g_iinc C (k := 3) (v := x3 + 1) dX12_loses_49 (q := 52) rfl rfl rfl (by decide) (lv' := [(3, .int (x3 + 1)), (0, g_r Y 59), (1, .int x1), (2, .int x2)]) rfl ?_
              refine g_goto C dX12_loses_52 (tgt := 2) (by decide) ?_
              refine g_sub [1, 2, 3, 0] (lv' := [(0, g_r Y 59), (1, .int x1), (2, .int x2), (3, .int (x3 + 1))]) rfl ?_
              exact ih x1 x2 (x3 + 1) h
            · have h := hif.1 c
              clear hif
              refine g_sub [3] (lv' := [(3, .int x3)]) rfl ?_
              exact hk47 x3 h
def f_X12_loses (x1 : Int32) (x2 : Int32) (M : g_M) : Option (Int32) :=
  g_lq3 (F_X12_loses_2 M (fun (x3 : Int32) => some x3) (some (-1))) 20000000 x1 x2 0
set_option maxRecDepth 100000 in
theorem m_X12_loses {l : Launch} {Y : g_Y} {x1 : Int32} {x2 : Int32} {M : g_M} {p : Int32} (h : f_X12_loses x1 x2 M = some p) : g_R l Y (0) yX12_loses cX12_loses 4 (some .int) [g_r Y 59, .int x1, .int x2] M (some (.int p)) M := by
  unfold f_X12_loses at h
  refine g_R_of kP_X12 rfl (Nat.le_of_ble_eq_true rfl) (fun X C E => ?_)
  show g_G 4 X Y 0 [(0, g_r Y 59), (1, .int x1), (2, .int x2)] [] M
  refine g_iconst C (v := 0) dX12_loses_0 (q := 1) rfl (by decide) ?_
  refine g_istore_n C dX12_loses_1 (q := 2) rfl rfl (by decide) (lv' := [(3, .int 0), (0, g_r Y 59), (1, .int x1), (2, .int x2)]) rfl ?_
  refine g_sub [1, 2, 3, 0] (lv' := [(0, g_r Y 59), (1, .int x1), (2, .int x2), (3, .int 0)]) rfl ?_
  refine t_X12_loses_2 C E ?_ ?_ 20000000 x1 x2 0 h
  · intro x3 h
    try dsimp only at h
    refine g_iload_n C 0 dX12_loses_47 (q := 48) rfl rfl rfl ?_
    obtain rfl := Option.some.inj h
    exact g_iret C E dX12_loses_48
  · intro  h
    try dsimp only at h
    refine g_iconst C (v := (-1)) dX12_loses_55 (q := 56) rfl (by decide) ?_
    obtain rfl := Option.some.inj h
    exact g_iret C E dX12_loses_56
def F_X12_firstThatLoses_7 (M : g_M) (k31 : Int32 → Option (Int32)) (k39 : Option (Int32)) (k : Int32 → Int32 → Option (Int32)) (x1 : Int32) (x2 : Int32) : Option (Int32) :=
  (if 1024 ≤ x2 then (k39) else ((if (x2 &&& (x1 ^^^ (-1))) = 0 then ((f_X12_loses x2 x1 M).bind fun p2 => (if p2 < 0 then (k x1 (x2 + 1)) else (k31 x2))) else (k x1 (x2 + 1)))))
set_option maxRecDepth 100000 in
theorem t_X12_firstThatLoses_7 {l : Launch} {X : g_X} {Y : g_Y} {p : Int32} {M : g_M} {k31 : Int32 → Option (Int32)} {k39 : Option (Int32)} (C : g_C l (g_rm (1)) RX12 cX12_firstThatLoses 3 X Y) (E : g_E (some .int) X Y (some (.int p)) M) (hk31 : ∀ (x2 : Int32), k31 x2 = some p → g_G 3 X Y 31 [(2, .int x2)] [] M) (hk39 : k39 = some p → g_G 3 X Y 39 [] [] M) (n : Nat) : ∀ (x1 : Int32) (x2 : Int32), g_lq2 (F_X12_firstThatLoses_7 M k31 k39) n x1 x2 = some p → g_G 3 X Y 7 [(0, g_r Y 59), (1, .int x1), (2, .int x2)] [] M := by
  induction n with
  | zero => intro x1 x2 h; exact (g_nn h).elim
  | succ n ih =>
    intro x1 x2 h
    have h : F_X12_firstThatLoses_7 M k31 k39 (g_lq2 (F_X12_firstThatLoses_7 M k31 k39) n) x1 x2 = some p := h
    generalize g_lq2 (F_X12_firstThatLoses_7 M k31 k39) n = k at h ih
    unfold F_X12_firstThatLoses_7 at h
    refine g_iload_n C 2 dX12_firstThatLoses_7 (q := 8) rfl rfl rfl ?_
    refine g_sipush C (v := 1024) dX12_firstThatLoses_8 (q := 11) rfl (by decide) ?_
    have hif := g_if h
    clear h
    refine g_icmp_ge C dX12_firstThatLoses_11 (q := 14) (tgt := 39) rfl (by decide) (fun c => ?_) (fun c => ?_)
    · have h := hif.1 c
      clear hif
      refine g_sub [] (lv' := []) rfl ?_
      exact hk39 h
    · have h := hif.2 c
      clear hif
      refine g_iload_n C 2 dX12_firstThatLoses_14 (q := 15) rfl rfl rfl ?_
      refine g_iload_n C 1 dX12_firstThatLoses_15 (q := 16) rfl rfl rfl ?_
      refine g_iconst C (v := (-1)) dX12_firstThatLoses_16 (q := 17) rfl (by decide) ?_
      refine g_ixor C dX12_firstThatLoses_17 (q := 18) rfl ?_
      refine g_iand C dX12_firstThatLoses_18 (q := 19) rfl ?_
      have hif := g_if h
      clear h
      refine g_if_ne C dX12_firstThatLoses_19 (q := 22) (tgt := 33) rfl (by decide) (fun c => ?_) (fun c => ?_)
      · have h := hif.2 c
        clear hif
        refine g_iinc C (k := 2) (v := x2 + 1) dX12_firstThatLoses_33 (q := 36) rfl rfl rfl (by decide) (lv' := [(2, .int (x2 + 1)), (0, g_r Y 59), (1, .int x1)]) rfl ?_
        refine g_goto C dX12_firstThatLoses_36 (tgt := 7) (by decide) ?_
        refine g_sub [1, 2, 0] (lv' := [(0, g_r Y 59), (1, .int x1), (2, .int (x2 + 1))]) rfl ?_
        exact ih x1 (x2 + 1) h
      · have h := hif.1 c
        clear hif
        refine g_aload_n C 0 dX12_firstThatLoses_22 (q := 23) rfl rfl rfl ?_
        refine g_iload_n C 2 dX12_firstThatLoses_23 (q := 24) rfl rfl rfl ?_
        refine g_iload_n C 1 dX12_firstThatLoses_24 (q := 25) rfl rfl rfl ?_
        obtain ⟨p2, hp2, h⟩ := g_bind h
        refine g_callV C (k := 59) (as := [.int x2, .int x1]) (st := []) (m_X12_loses hp2) (g_hR (by decide)) (by decide) (by decide) (gc_59 Y _ _) rfl kM_X12_209 kI_X12_loses kS_X12_loses kN_X12 kC_X12_loses kD_X12_loses rfl (Nat.le_of_ble_eq_true rfl) dX12_firstThatLoses_25 (q := 28) rfl ?_
        show g_G 3 X Y 28 [(0, g_r Y 59), (1, .int x1), (2, .int x2)] [.int p2] M
        have hif := g_if h
        clear h
        refine g_if_lt C dX12_firstThatLoses_28 (q := 31) (tgt := 33) rfl (by decide) (fun c => ?_) (fun c => ?_)
        · have h := hif.1 c
          clear hif
          refine g_iinc C (k := 2) (v := x2 + 1) dX12_firstThatLoses_33 (q := 36) rfl rfl rfl (by decide) (lv' := [(2, .int (x2 + 1)), (0, g_r Y 59), (1, .int x1)]) rfl ?_
          refine g_goto C dX12_firstThatLoses_36 (tgt := 7) (by decide) ?_
          refine g_sub [1, 2, 0] (lv' := [(0, g_r Y 59), (1, .int x1), (2, .int (x2 + 1))]) rfl ?_
          exact ih x1 (x2 + 1) h
        · have h := hif.2 c
          clear hif
          refine g_sub [2] (lv' := [(2, .int x2)]) rfl ?_
          exact hk31 x2 h
def f_X12_firstThatLoses (M : g_M) : Option (Int32) :=
  (f_X12_all M).bind fun p1 => g_lq2 (F_X12_firstThatLoses_7 M (fun (x2 : Int32) => some x2) (some (-1))) 20000000 p1 0
set_option maxRecDepth 100000 in
theorem m_X12_firstThatLoses {l : Launch} {Y : g_Y} {M : g_M} {p : Int32} (h : f_X12_firstThatLoses M = some p) : g_R l Y (1) yX12_firstThatLoses cX12_firstThatLoses 3 (some .int) [g_r Y 59] M (some (.int p)) M := by
  unfold f_X12_firstThatLoses at h
  refine g_R_of kP_X12 rfl (Nat.le_of_ble_eq_true rfl) (fun X C E => ?_)
  show g_G 3 X Y 0 [(0, g_r Y 59)] [] M
  refine g_aload_n C 0 dX12_firstThatLoses_0 (q := 1) rfl rfl rfl ?_
  obtain ⟨p1, hp1, h⟩ := g_bind h
  refine g_callV C (k := 59) (as := []) (st := []) (m_X12_all hp1) (g_hR (by decide)) (by decide) (by decide) (gc_59 Y _ _) rfl kM_X12_181 kI_X12_all kS_X12_all kN_X12 kC_X12_all kD_X12_all rfl (Nat.le_of_ble_eq_true rfl) dX12_firstThatLoses_1 (q := 4) rfl ?_
  show g_G 3 X Y 4 [(0, g_r Y 59)] [.int p1] M
  refine g_istore_n C dX12_firstThatLoses_4 (q := 5) rfl rfl (by decide) (lv' := [(1, .int p1), (0, g_r Y 59)]) rfl ?_
  refine g_iconst C (v := 0) dX12_firstThatLoses_5 (q := 6) rfl (by decide) ?_
  refine g_istore_n C dX12_firstThatLoses_6 (q := 7) rfl rfl (by decide) (lv' := [(2, .int 0), (1, .int p1), (0, g_r Y 59)]) rfl ?_
  refine g_sub [2, 1, 0] (lv' := [(0, g_r Y 59), (1, .int p1), (2, .int 0)]) rfl ?_
  refine t_X12_firstThatLoses_7 C E ?_ ?_ 20000000 p1 0 h
  · intro x2 h
    try dsimp only at h
    refine g_iload_n C 0 dX12_firstThatLoses_31 (q := 32) rfl rfl rfl ?_
    obtain rfl := Option.some.inj h
    exact g_iret C E dX12_firstThatLoses_32
  · intro  h
    try dsimp only at h
    refine g_iconst C (v := (-1)) dX12_firstThatLoses_39 (q := 40) rfl (by decide) ?_
    obtain rfl := Option.some.inj h
    exact g_iret C E dX12_firstThatLoses_40
def f_X12_more (M : g_M) : Option (Int32 × g_M) :=
  (g_ld M 60 1208 2).bind fun v1 => (if 0 ≤ v1 then ((f_X12_findMay M).bind fun p2 => (f_X12_firstThatLoses p2).bind fun p3 => (if 0 ≤ p3 then ((f_X12_all p2).bind fun p4 => (f_X12_loses p3 p4 p2).bind fun p5 => some ((16 * p3) + p5, p2)) else ((f_X12_finding 3 p2).bind fun p6 => some (p6.1, p6.2)))) else ((f_X12_finding 4 M).bind fun p7 => some (p7.1, p7.2)))
set_option maxRecDepth 100000 in
theorem m_X12_more {l : Launch} {Y : g_Y} {M : g_M} {p : Int32 × g_M} (h : f_X12_more M = some p) : g_R l Y (203) yX12_more cX12_more 2 (some .int) [g_r Y 59] M (some (.int p.1)) p.2 := by
  unfold f_X12_more at h
  refine g_R_of kP_X12 rfl (Nat.le_of_ble_eq_true rfl) (fun X C E => ?_)
  show g_G 2 X Y 0 [(0, g_r Y 59)] [] M
  refine g_aload_n C 0 dX12_more_0 (q := 1) rfl rfl rfl ?_
  refine g_get C (k := 59) (i := 0) (by decide) (gc_59 Y _ _) rfl kU_X12 (by decide) kF_X12_7 rfl dX12_more_1 (q := 4) rfl ?_
  refine g_iconst C (v := 2) dX12_more_4 (q := 5) rfl (by decide) ?_
  obtain ⟨v1, hv1, h⟩ := g_bind h
  refine g_iald C (k := 60) (n := 1208) (by decide) (gc_60 Y _ _) hv1 dX12_more_5 (q := 6) rfl ?_
  have hif := g_if h
  clear h
  refine g_if_ge C dX12_more_6 (q := 9) (tgt := 15) rfl (by decide) (fun c => ?_) (fun c => ?_)
  · have h := hif.1 c
    clear hif
    refine g_aload_n C 0 dX12_more_15 (q := 16) rfl rfl rfl ?_
    obtain ⟨p2, hp2, h⟩ := g_bind h
    refine g_callV C (k := 59) (as := []) (st := []) (m_X12_findMay hp2) (g_hR (by decide)) (by decide) (by decide) (gc_59 Y _ _) rfl kM_X12_213 kI_X12_findMay kS_X12_findMay kN_X12 kC_X12_findMay kD_X12_findMay rfl (Nat.le_of_ble_eq_true rfl) dX12_more_16 (q := 19) rfl ?_
    show g_G 2 X Y 19 [(0, g_r Y 59)] [] p2
    refine g_aload_n C 0 dX12_more_19 (q := 20) rfl rfl rfl ?_
    obtain ⟨p3, hp3, h⟩ := g_bind h
    refine g_callV C (k := 59) (as := []) (st := []) (m_X12_firstThatLoses hp3) (g_hR (by decide)) (by decide) (by decide) (gc_59 Y _ _) rfl kM_X12_216 kI_X12_firstThatLoses kS_X12_firstThatLoses kN_X12 kC_X12_firstThatLoses kD_X12_firstThatLoses rfl (Nat.le_of_ble_eq_true rfl) dX12_more_20 (q := 23) rfl ?_
    show g_G 2 X Y 23 [(0, g_r Y 59)] [.int p3] p2
    refine g_istore_n C dX12_more_23 (q := 24) rfl rfl (by decide) (lv' := [(1, .int p3), (0, g_r Y 59)]) rfl ?_
    refine g_iload_n C 0 dX12_more_24 (q := 25) rfl rfl rfl ?_
    have hif := g_if h
    clear h
    refine g_if_ge C dX12_more_25 (q := 28) (tgt := 36) rfl (by decide) (fun c => ?_) (fun c => ?_)
    · have h := hif.1 c
      clear hif
      refine g_bipush C (v := 16) dX12_more_36 (q := 38) rfl (by decide) ?_
      refine g_iload_n C 0 dX12_more_38 (q := 39) rfl rfl rfl ?_
      refine g_imul C dX12_more_39 (q := 40) rfl ?_
      refine g_aload_n C 1 dX12_more_40 (q := 41) rfl rfl rfl ?_
      refine g_iload_n C 0 dX12_more_41 (q := 42) rfl rfl rfl ?_
      refine g_aload_n C 1 dX12_more_42 (q := 43) rfl rfl rfl ?_
      obtain ⟨p4, hp4, h⟩ := g_bind h
      refine g_callV C (k := 59) (as := []) (st := [.int p3, g_r Y 59, .int (16 * p3)]) (m_X12_all hp4) (g_hR (by decide)) (by decide) (by decide) (gc_59 Y _ _) rfl kM_X12_181 kI_X12_all kS_X12_all kN_X12 kC_X12_all kD_X12_all rfl (Nat.le_of_ble_eq_true rfl) dX12_more_43 (q := 46) rfl ?_
      show g_G 2 X Y 46 [(1, .int p3), (0, g_r Y 59)] [.int p4, .int p3, g_r Y 59, .int (16 * p3)] p2
      obtain ⟨p5, hp5, h⟩ := g_bind h
      refine g_callV C (k := 59) (as := [.int p3, .int p4]) (st := [.int (16 * p3)]) (m_X12_loses hp5) (g_hR (by decide)) (by decide) (by decide) (gc_59 Y _ _) rfl kM_X12_209 kI_X12_loses kS_X12_loses kN_X12 kC_X12_loses kD_X12_loses rfl (Nat.le_of_ble_eq_true rfl) dX12_more_46 (q := 49) rfl ?_
      show g_G 2 X Y 49 [(1, .int p3), (0, g_r Y 59)] [.int p5, .int (16 * p3)] p2
      refine g_iadd C dX12_more_49 (q := 50) rfl ?_
      obtain rfl := Option.some.inj h
      exact g_iret C E dX12_more_50
    · have h := hif.2 c
      clear hif
      refine g_aload_n C 1 dX12_more_28 (q := 29) rfl rfl rfl ?_
      refine g_iconst C (v := 3) dX12_more_29 (q := 30) rfl (by decide) ?_
      obtain ⟨p6, hp6, h⟩ := g_bind h
      refine g_callV C (k := 59) (as := [.int 3]) (st := []) (m_X12_finding hp6) (g_hR (by decide)) (by decide) (by decide) (gc_59 Y _ _) rfl kM_X12_190 kI_X12_finding kS_X12_finding kN_X12 kC_X12_finding kD_X12_finding rfl (Nat.le_of_ble_eq_true rfl) dX12_more_30 (q := 33) rfl ?_
      show g_G 2 X Y 33 [(1, .int p3), (0, g_r Y 59)] [.int p6.1] p6.2
      refine g_goto C dX12_more_33 (tgt := 50) (by decide) ?_
      obtain rfl := Option.some.inj h
      exact g_iret C E dX12_more_50
  · have h := hif.2 c
    clear hif
    refine g_aload_n C 0 dX12_more_9 (q := 10) rfl rfl rfl ?_
    refine g_iconst C (v := 4) dX12_more_10 (q := 11) rfl (by decide) ?_
    obtain ⟨p7, hp7, h⟩ := g_bind h
    refine g_callV C (k := 59) (as := [.int 4]) (st := []) (m_X12_finding hp7) (g_hR (by decide)) (by decide) (by decide) (gc_59 Y _ _) rfl kM_X12_190 kI_X12_finding kS_X12_finding kN_X12 kC_X12_finding kD_X12_finding rfl (Nat.le_of_ble_eq_true rfl) dX12_more_11 (q := 14) rfl ?_
    show g_G 2 X Y 14 [(0, g_r Y 59)] [.int p7.1] p7.2
    obtain rfl := Option.some.inj h
    exact g_iret C E dX12_more_14
theorem r_X12_more {M : g_M} {p : Int32 × g_M} (h : f_X12_more M = some p) : g_fr [63, 64] [(59, 6), (59, 7), (59, 8), (59, 9), (59, 10), (59, 11), (59, 12), (59, 13), (59, 14), (59, 15), (59, 16)] M p.2 := by
  unfold f_X12_more at h
  have hf := g_fr.rfl (S := [63, 64]) (T := [(59, 6), (59, 7), (59, 8), (59, 9), (59, 10), (59, 11), (59, 12), (59, 13), (59, 14), (59, 15), (59, 16)]) (M := M)
  obtain ⟨v1, -, h⟩ := g_bind h
  rcases g_ifs h with h | h
  · obtain ⟨p2, hp2, h⟩ := g_bind h
    have hf := hf.trans ((r_X12_findMay hp2).mono (by decide) (by decide))
    obtain ⟨p3, -, h⟩ := g_bind h
    rcases g_ifs h with h | h
    · obtain ⟨p4, -, h⟩ := g_bind h
      obtain ⟨p5, -, h⟩ := g_bind h
      obtain rfl := Option.some.inj h
      exact hf
    · obtain ⟨p6, hp6, h⟩ := g_bind h
      have hf := hf.trans ((r_X12_finding hp6).mono (by decide) (by decide))
      obtain rfl := Option.some.inj h
      exact hf
  · obtain ⟨p7, hp7, h⟩ := g_bind h
    have hf := hf.trans ((r_X12_finding hp7).mono (by decide) (by decide))
    obtain rfl := Option.some.inj h
    exact hf
def f_X12_isLeast_36 (k : Int32 → Int32 → Int32 → Option (Int32)) (k41 : Int32 → Option (Int32)) (x1 : Int32) (x3 : Int32) (s0 : Int32) (M : g_M) : Option (Int32) :=
  (if x3 = 0 then (k41 s0) else (k x1 s0 ((x3 - 1) &&& x1)))
set_option maxRecDepth 100000 in
theorem t_X12_isLeast_36 {l : Launch} {X : g_X} {Y : g_Y} {p : Int32} {M : g_M} {k : Int32 → Int32 → Int32 → Option (Int32)} {k41 : Int32 → Option (Int32)} (C : g_C l (g_rm (0)) RX12 cX12_isLeast 4 X Y) (E : g_E (some .boolean) X Y (some (.int p)) M) (ih : ∀ (x1 : Int32) (x2 : Int32) (x3 : Int32), k x1 x2 x3 = some p → g_G 4 X Y 13 [(0, g_r Y 59), (1, .int x1), (2, .int x2), (3, .int x3)] [] M) (hk41 : ∀ (x2 : Int32), k41 x2 = some p → g_G 4 X Y 41 [(2, .int x2)] [] M) (x1 : Int32) (x3 : Int32) (s0 : Int32) (h : f_X12_isLeast_36 k k41 x1 x3 s0 M = some p) : g_G 4 X Y 36 [(0, g_r Y 59), (1, .int x1), (3, .int x3)] [.int s0] M := by
  unfold f_X12_isLeast_36 at h
  refine g_istore_n C dX12_isLeast_36 (q := 37) rfl rfl (by decide) (lv' := [(2, .int s0), (0, g_r Y 59), (1, .int x1), (3, .int x3)]) rfl ?_
  refine g_iload_n C 3 dX12_isLeast_37 (q := 38) rfl rfl rfl ?_
  have hif := g_if h
  clear h
  refine g_if_ne C dX12_isLeast_38 (q := 41) (tgt := 43) rfl (by decide) (fun c => ?_) (fun c => ?_)
  · have h := hif.2 c
    clear hif
    refine g_iload_n C 3 dX12_isLeast_43 (q := 44) rfl rfl rfl ?_
    refine g_iconst C (v := 1) dX12_isLeast_44 (q := 45) rfl (by decide) ?_
    refine g_isub C dX12_isLeast_45 (q := 46) rfl ?_
    refine g_iload_n C 2 dX12_isLeast_46 (q := 47) rfl rfl rfl ?_
    refine g_iand C dX12_isLeast_47 (q := 48) rfl ?_
    refine g_istore_n C dX12_isLeast_48 (q := 49) rfl rfl (by decide) (lv' := [(3, .int ((x3 - 1) &&& x1)), (2, .int s0), (0, g_r Y 59), (1, .int x1)]) rfl ?_
    refine g_goto C dX12_isLeast_49 (tgt := 13) (by decide) ?_
    refine g_sub [2, 3, 1, 0] (lv' := [(0, g_r Y 59), (1, .int x1), (2, .int s0), (3, .int ((x3 - 1) &&& x1))]) rfl ?_
    exact ih x1 s0 ((x3 - 1) &&& x1) h
  · have h := hif.1 c
    clear hif
    refine g_sub [0] (lv' := [(2, .int s0)]) rfl ?_
    exact hk41 s0 h
def F_X12_isLeast_13 (M : g_M) (k41 : Int32 → Option (Int32)) (k52 : Int32 → Option (Int32)) (k : Int32 → Int32 → Int32 → Option (Int32)) (x1 : Int32) (x2 : Int32) (x3 : Int32) : Option (Int32) :=
  (if x2 = 0 then (k52 x2) else ((if x3 = x1 then (k52 x2) else ((g_ld M 64 1024 x3).bind fun v2 => (if v2 = 0 then (f_X12_isLeast_36 k k41 x1 x3 1 M) else (f_X12_isLeast_36 k k41 x1 x3 0 M))))))
set_option maxRecDepth 100000 in
theorem t_X12_isLeast_13 {l : Launch} {X : g_X} {Y : g_Y} {p : Int32} {M : g_M} {k41 : Int32 → Option (Int32)} {k52 : Int32 → Option (Int32)} (C : g_C l (g_rm (0)) RX12 cX12_isLeast 4 X Y) (E : g_E (some .boolean) X Y (some (.int p)) M) (hk41 : ∀ (x2 : Int32), k41 x2 = some p → g_G 4 X Y 41 [(2, .int x2)] [] M) (hk52 : ∀ (x2 : Int32), k52 x2 = some p → g_G 4 X Y 52 [(2, .int x2)] [] M) (n : Nat) : ∀ (x1 : Int32) (x2 : Int32) (x3 : Int32), g_lq3 (F_X12_isLeast_13 M k41 k52) n x1 x2 x3 = some p → g_G 4 X Y 13 [(0, g_r Y 59), (1, .int x1), (2, .int x2), (3, .int x3)] [] M := by
  induction n with
  | zero => intro x1 x2 x3 h; exact (g_nn h).elim
  | succ n ih =>
    intro x1 x2 x3 h
    have h : F_X12_isLeast_13 M k41 k52 (g_lq3 (F_X12_isLeast_13 M k41 k52) n) x1 x2 x3 = some p := h
    generalize g_lq3 (F_X12_isLeast_13 M k41 k52) n = k at h ih
    unfold F_X12_isLeast_13 at h
    refine g_iload_n C 2 dX12_isLeast_13 (q := 14) rfl rfl rfl ?_
    have hif := g_if h
    clear h
    refine g_if_eq C dX12_isLeast_14 (q := 17) (tgt := 52) rfl (by decide) (fun c => ?_) (fun c => ?_)
    · have h := hif.1 c
      clear hif
      refine g_sub [2] (lv' := [(2, .int x2)]) rfl ?_
      exact hk52 x2 h
    · have h := hif.2 c
      clear hif
      refine g_iload_n C 3 dX12_isLeast_17 (q := 18) rfl rfl rfl ?_
      refine g_iload_n C 1 dX12_isLeast_18 (q := 19) rfl rfl rfl ?_
      have hif := g_if h
      clear h
      refine g_icmp_eq C dX12_isLeast_19 (q := 22) (tgt := 52) rfl (by decide) (fun c => ?_) (fun c => ?_)
      · have h := hif.1 c
        clear hif
        refine g_sub [2] (lv' := [(2, .int x2)]) rfl ?_
        exact hk52 x2 h
      · have h := hif.2 c
        clear hif
        refine g_aload_n C 0 dX12_isLeast_22 (q := 23) rfl rfl rfl ?_
        refine g_get C (k := 59) (i := 17) (by decide) (gc_59 Y _ _) rfl kU_X12 (by decide) kF_X12_22 rfl dX12_isLeast_23 (q := 26) rfl ?_
        refine g_iload_n C 3 dX12_isLeast_26 (q := 27) rfl rfl rfl ?_
        obtain ⟨v2, hv2, h⟩ := g_bind h
        refine g_zald C (k := 64) (n := 1024) (by decide) (gc_64 Y _ _) hv2 dX12_isLeast_27 (q := 28) rfl ?_
        have hif := g_if h
        clear h
        refine g_if_ne C dX12_isLeast_28 (q := 31) (tgt := 35) rfl (by decide) (fun c => ?_) (fun c => ?_)
        · have h := hif.2 c
          clear hif
          refine g_iconst C (v := 0) dX12_isLeast_35 (q := 36) rfl (by decide) ?_
          refine g_sub [0, 1, 3] (lv' := [(0, g_r Y 59), (1, .int x1), (3, .int x3)]) rfl ?_
          exact t_X12_isLeast_36 C E ih hk41 x1 x3 0 h
        · have h := hif.1 c
          clear hif
          refine g_iconst C (v := 1) dX12_isLeast_31 (q := 32) rfl (by decide) ?_
          refine g_goto C dX12_isLeast_32 (tgt := 36) (by decide) ?_
          refine g_sub [0, 1, 3] (lv' := [(0, g_r Y 59), (1, .int x1), (3, .int x3)]) rfl ?_
          exact t_X12_isLeast_36 C E ih hk41 x1 x3 1 h
def f_X12_isLeast (x1 : Int32) (M : g_M) : Option (Int32) :=
  (g_ld M 64 1024 x1).bind fun v1 => g_lq3 (F_X12_isLeast_13 M (fun (x2 : Int32) => (g_bz x2).bind fun z3 => some z3) (fun (x2 : Int32) => (g_bz x2).bind fun z4 => some z4)) 20000000 x1 v1 ((x1 - 1) &&& x1)
set_option maxRecDepth 100000 in
theorem m_X12_isLeast {l : Launch} {Y : g_Y} {x1 : Int32} {M : g_M} {p : Int32} (h : f_X12_isLeast x1 M = some p) : g_R l Y (0) yX12_isLeast cX12_isLeast 4 (some .boolean) [g_r Y 59, .int x1] M (some (.int p)) M := by
  unfold f_X12_isLeast at h
  refine g_R_of kP_X12 rfl (Nat.le_of_ble_eq_true rfl) (fun X C E => ?_)
  show g_G 4 X Y 0 [(0, g_r Y 59), (1, .int x1)] [] M
  refine g_aload_n C 0 dX12_isLeast_0 (q := 1) rfl rfl rfl ?_
  refine g_get C (k := 59) (i := 17) (by decide) (gc_59 Y _ _) rfl kU_X12 (by decide) kF_X12_22 rfl dX12_isLeast_1 (q := 4) rfl ?_
  refine g_iload_n C 1 dX12_isLeast_4 (q := 5) rfl rfl rfl ?_
  obtain ⟨v1, hv1, h⟩ := g_bind h
  refine g_zald C (k := 64) (n := 1024) (by decide) (gc_64 Y _ _) hv1 dX12_isLeast_5 (q := 6) rfl ?_
  refine g_istore_n C dX12_isLeast_6 (q := 7) rfl rfl (by decide) (lv' := [(2, .int v1), (0, g_r Y 59), (1, .int x1)]) rfl ?_
  refine g_iload_n C 2 dX12_isLeast_7 (q := 8) rfl rfl rfl ?_
  refine g_iconst C (v := 1) dX12_isLeast_8 (q := 9) rfl (by decide) ?_
  refine g_isub C dX12_isLeast_9 (q := 10) rfl ?_
  refine g_iload_n C 2 dX12_isLeast_10 (q := 11) rfl rfl rfl ?_
  refine g_iand C dX12_isLeast_11 (q := 12) rfl ?_
  refine g_istore_n C dX12_isLeast_12 (q := 13) rfl rfl (by decide) (lv' := [(3, .int ((x1 - 1) &&& x1)), (2, .int v1), (0, g_r Y 59), (1, .int x1)]) rfl ?_
  refine g_sub [2, 3, 1, 0] (lv' := [(0, g_r Y 59), (1, .int x1), (2, .int v1), (3, .int ((x1 - 1) &&& x1))]) rfl ?_
  refine t_X12_isLeast_13 C E ?_ ?_ 20000000 x1 v1 ((x1 - 1) &&& x1) h
  · intro x2 h
    try dsimp only at h
    refine g_iload_n C 0 dX12_isLeast_41 (q := 42) rfl rfl rfl ?_
    obtain ⟨z3, hz3, h⟩ := g_bind h
    obtain rfl := Option.some.inj h
    exact g_zret C hz3 E dX12_isLeast_42
  · intro x2 h
    try dsimp only at h
    refine g_iload_n C 0 dX12_isLeast_52 (q := 53) rfl rfl rfl ?_
    obtain ⟨z4, hz4, h⟩ := g_bind h
    obtain rfl := Option.some.inj h
    exact g_zret C hz4 E dX12_isLeast_53
def F_X12_isMost_26 (M : g_M) (k57 : Int32 → Option (Int32)) (k : Int32 → Int32 → Int32 → Int32 → Option (Int32)) (x1 : Int32) (x3 : Int32) (x4 : Int32) (x5 : Int32) : Option (Int32) :=
  (if x3 = 0 then (k57 x3) else ((if x5 ≤ 0 then (k57 x3) else ((g_ld M 64 1024 (x1 ||| x5)).bind fun v2 => k x1 v2 x4 ((x5 - 1) &&& x4)))))
set_option maxRecDepth 100000 in
theorem t_X12_isMost_26 {l : Launch} {X : g_X} {Y : g_Y} {p : Int32} {M : g_M} {k57 : Int32 → Option (Int32)} (C : g_C l (g_rm (0)) RX12 cX12_isMost 6 X Y) (E : g_E (some .boolean) X Y (some (.int p)) M) (hk57 : ∀ (x3 : Int32), k57 x3 = some p → g_G 6 X Y 57 [(3, .int x3)] [] M) (n : Nat) : ∀ (x1 : Int32) (x3 : Int32) (x4 : Int32) (x5 : Int32), g_lq4 (F_X12_isMost_26 M k57) n x1 x3 x4 x5 = some p → g_G 6 X Y 26 [(0, g_r Y 59), (1, .int x1), (3, .int x3), (4, .int x4), (5, .int x5)] [] M := by
  induction n with
  | zero => intro x1 x3 x4 x5 h; exact (g_nn h).elim
  | succ n ih =>
    intro x1 x3 x4 x5 h
    have h : F_X12_isMost_26 M k57 (g_lq4 (F_X12_isMost_26 M k57) n) x1 x3 x4 x5 = some p := h
    generalize g_lq4 (F_X12_isMost_26 M k57) n = k at h ih
    unfold F_X12_isMost_26 at h
    refine g_iload_n C 2 dX12_isMost_26 (q := 27) rfl rfl rfl ?_
    have hif := g_if h
    clear h
    refine g_if_eq C dX12_isMost_27 (q := 30) (tgt := 57) rfl (by decide) (fun c => ?_) (fun c => ?_)
    · have h := hif.1 c
      clear hif
      refine g_sub [2] (lv' := [(3, .int x3)]) rfl ?_
      exact hk57 x3 h
    · have h := hif.2 c
      clear hif
      refine g_iload C 4 dX12_isMost_30 (q := 32) rfl rfl ?_
      have hif := g_if h
      clear h
      refine g_if_le C dX12_isMost_32 (q := 35) (tgt := 57) rfl (by decide) (fun c => ?_) (fun c => ?_)
      · have h := hif.1 c
        clear hif
        refine g_sub [2] (lv' := [(3, .int x3)]) rfl ?_
        exact hk57 x3 h
      · have h := hif.2 c
        clear hif
        refine g_aload_n C 0 dX12_isMost_35 (q := 36) rfl rfl rfl ?_
        refine g_get C (k := 59) (i := 17) (by decide) (gc_59 Y _ _) rfl kU_X12 (by decide) kF_X12_22 rfl dX12_isMost_36 (q := 39) rfl ?_
        refine g_iload_n C 1 dX12_isMost_39 (q := 40) rfl rfl rfl ?_
        refine g_iload C 4 dX12_isMost_40 (q := 42) rfl rfl ?_
        refine g_ior C dX12_isMost_42 (q := 43) rfl ?_
        obtain ⟨v2, hv2, h⟩ := g_bind h
        refine g_zald C (k := 64) (n := 1024) (by decide) (gc_64 Y _ _) hv2 dX12_isMost_43 (q := 44) rfl ?_
        refine g_istore_n C dX12_isMost_44 (q := 45) rfl rfl (by decide) (lv' := [(3, .int v2), (0, g_r Y 59), (1, .int x1), (4, .int x4), (5, .int x5)]) rfl ?_
        refine g_iload C 4 dX12_isMost_45 (q := 47) rfl rfl ?_
        refine g_iconst C (v := 1) dX12_isMost_47 (q := 48) rfl (by decide) ?_
        refine g_isub C dX12_isMost_48 (q := 49) rfl ?_
        refine g_iload C 3 dX12_isMost_49 (q := 51) rfl rfl ?_
        refine g_iand C dX12_isMost_51 (q := 52) rfl ?_
        refine g_istore C dX12_isMost_52 (q := 54) rfl (by decide) (lv' := [(5, .int ((x5 - 1) &&& x4)), (3, .int v2), (0, g_r Y 59), (1, .int x1), (4, .int x4)]) rfl ?_
        refine g_goto C dX12_isMost_54 (tgt := 26) (by decide) ?_
        refine g_sub [2, 3, 1, 4, 0] (lv' := [(0, g_r Y 59), (1, .int x1), (3, .int v2), (4, .int x4), (5, .int ((x5 - 1) &&& x4))]) rfl ?_
        exact ih x1 v2 x4 ((x5 - 1) &&& x4) h
def f_X12_isMost_14 (x1 : Int32) (x2 : Int32) (s0 : Int32) (M : g_M) : Option (Int32) :=
  g_lq4 (F_X12_isMost_26 M (fun (x3 : Int32) => (g_bz x3).bind fun z3 => some z3)) 20000000 x1 s0 (x2 &&& (x1 ^^^ (-1))) (x2 &&& (x1 ^^^ (-1)))
set_option maxRecDepth 100000 in
theorem t_X12_isMost_14 {l : Launch} {X : g_X} {Y : g_Y} {p : Int32} {M : g_M} (C : g_C l (g_rm (0)) RX12 cX12_isMost 6 X Y) (E : g_E (some .boolean) X Y (some (.int p)) M) (x1 : Int32) (x2 : Int32) (s0 : Int32) (h : f_X12_isMost_14 x1 x2 s0 M = some p) : g_G 6 X Y 14 [(0, g_r Y 59), (1, .int x1), (2, .int x2)] [.int s0] M := by
  unfold f_X12_isMost_14 at h
  refine g_istore_n C dX12_isMost_14 (q := 15) rfl rfl (by decide) (lv' := [(3, .int s0), (0, g_r Y 59), (1, .int x1), (2, .int x2)]) rfl ?_
  refine g_iload_n C 3 dX12_isMost_15 (q := 16) rfl rfl rfl ?_
  refine g_iload_n C 2 dX12_isMost_16 (q := 17) rfl rfl rfl ?_
  refine g_iconst C (v := (-1)) dX12_isMost_17 (q := 18) rfl (by decide) ?_
  refine g_ixor C dX12_isMost_18 (q := 19) rfl ?_
  refine g_iand C dX12_isMost_19 (q := 20) rfl ?_
  refine g_istore C dX12_isMost_20 (q := 22) rfl (by decide) (lv' := [(4, .int (x2 &&& (x1 ^^^ (-1)))), (3, .int s0), (0, g_r Y 59), (1, .int x1), (2, .int x2)]) rfl ?_
  refine g_iload C 0 dX12_isMost_22 (q := 24) rfl rfl ?_
  refine g_istore C dX12_isMost_24 (q := 26) rfl (by decide) (lv' := [(5, .int (x2 &&& (x1 ^^^ (-1)))), (4, .int (x2 &&& (x1 ^^^ (-1)))), (3, .int s0), (0, g_r Y 59), (1, .int x1), (2, .int x2)]) rfl ?_
  refine g_sub [3, 4, 2, 1, 0] (lv' := [(0, g_r Y 59), (1, .int x1), (3, .int s0), (4, .int (x2 &&& (x1 ^^^ (-1)))), (5, .int (x2 &&& (x1 ^^^ (-1))))]) rfl ?_
  refine t_X12_isMost_26 C E ?_ 20000000 x1 s0 (x2 &&& (x1 ^^^ (-1))) (x2 &&& (x1 ^^^ (-1))) h
  · intro x3 h
    try dsimp only at h
    refine g_iload_n C 0 dX12_isMost_57 (q := 58) rfl rfl rfl ?_
    obtain ⟨z3, hz3, h⟩ := g_bind h
    obtain rfl := Option.some.inj h
    exact g_zret C hz3 E dX12_isMost_58
def f_X12_isMost (x1 : Int32) (x2 : Int32) (M : g_M) : Option (Int32) :=
  (g_ld M 64 1024 x1).bind fun v1 => (if v1 = 0 then (f_X12_isMost_14 x1 x2 1 M) else (f_X12_isMost_14 x1 x2 0 M))
set_option maxRecDepth 100000 in
theorem m_X12_isMost {l : Launch} {Y : g_Y} {x1 : Int32} {x2 : Int32} {M : g_M} {p : Int32} (h : f_X12_isMost x1 x2 M = some p) : g_R l Y (0) yX12_isMost cX12_isMost 6 (some .boolean) [g_r Y 59, .int x1, .int x2] M (some (.int p)) M := by
  unfold f_X12_isMost at h
  refine g_R_of kP_X12 rfl (Nat.le_of_ble_eq_true rfl) (fun X C E => ?_)
  show g_G 6 X Y 0 [(0, g_r Y 59), (1, .int x1), (2, .int x2)] [] M
  refine g_aload_n C 0 dX12_isMost_0 (q := 1) rfl rfl rfl ?_
  refine g_get C (k := 59) (i := 17) (by decide) (gc_59 Y _ _) rfl kU_X12 (by decide) kF_X12_22 rfl dX12_isMost_1 (q := 4) rfl ?_
  refine g_iload_n C 1 dX12_isMost_4 (q := 5) rfl rfl rfl ?_
  obtain ⟨v1, hv1, h⟩ := g_bind h
  refine g_zald C (k := 64) (n := 1024) (by decide) (gc_64 Y _ _) hv1 dX12_isMost_5 (q := 6) rfl ?_
  have hif := g_if h
  clear h
  refine g_if_ne C dX12_isMost_6 (q := 9) (tgt := 13) rfl (by decide) (fun c => ?_) (fun c => ?_)
  · have h := hif.2 c
    clear hif
    refine g_iconst C (v := 0) dX12_isMost_13 (q := 14) rfl (by decide) ?_
    refine g_sub [0, 1, 2] (lv' := [(0, g_r Y 59), (1, .int x1), (2, .int x2)]) rfl ?_
    exact t_X12_isMost_14 C E x1 x2 0 h
  · have h := hif.1 c
    clear hif
    refine g_iconst C (v := 1) dX12_isMost_9 (q := 10) rfl (by decide) ?_
    refine g_goto C dX12_isMost_10 (tgt := 14) (by decide) ?_
    refine g_sub [0, 1, 2] (lv' := [(0, g_r Y 59), (1, .int x1), (2, .int x2)]) rfl ?_
    exact t_X12_isMost_14 C E x1 x2 1 h
def f_X12_find_54 (k : Int32 → Int32 → Int32 → Int32 → Int32 → Option (Int32)) (k60 : Int32 → Option (Int32)) (x1 : Int32) (x2 : Int32) (x3 : Int32) (x4 : Int32) (x5 : Int32) (M : g_M) : Option (Int32) :=
  (if x4 = x2 then (k60 x5) else (k x1 x2 x3 (x4 + 1) (x5 + 1)))
set_option maxRecDepth 100000 in
theorem t_X12_find_54 {l : Launch} {X : g_X} {Y : g_Y} {p : Int32} {M : g_M} {k : Int32 → Int32 → Int32 → Int32 → Int32 → Option (Int32)} {k60 : Int32 → Option (Int32)} (C : g_C l (g_rm (1)) RX12 cX12_find 6 X Y) (E : g_E (some .int) X Y (some (.int p)) M) (ih : ∀ (x1 : Int32) (x2 : Int32) (x3 : Int32) (x4 : Int32) (x5 : Int32), k x1 x2 x3 x4 x5 = some p → g_G 6 X Y 11 [(0, g_r Y 59), (1, .int x1), (2, .int x2), (3, .int x3), (4, .int x4), (5, .int x5)] [] M) (hk60 : ∀ (x5 : Int32), k60 x5 = some p → g_G 6 X Y 60 [(5, .int x5)] [] M) (x1 : Int32) (x2 : Int32) (x3 : Int32) (x4 : Int32) (x5 : Int32) (h : f_X12_find_54 k k60 x1 x2 x3 x4 x5 M = some p) : g_G 6 X Y 54 [(0, g_r Y 59), (1, .int x1), (2, .int x2), (3, .int x3), (4, .int x4), (5, .int x5)] [] M := by
  unfold f_X12_find_54 at h
  refine g_iload C 4 dX12_find_54 (q := 56) rfl rfl ?_
  refine g_iload_n C 2 dX12_find_56 (q := 57) rfl rfl rfl ?_
  have hif := g_if h
  clear h
  refine g_icmp_ne C dX12_find_57 (q := 60) (tgt := 63) rfl (by decide) (fun c => ?_) (fun c => ?_)
  · have h := hif.2 c
    clear hif
    refine g_iinc C (k := 4) (v := x4 + 1) dX12_find_63 (q := 66) rfl rfl rfl (by decide) (lv' := [(4, .int (x4 + 1)), (0, g_r Y 59), (1, .int x1), (2, .int x2), (3, .int x3), (5, .int x5)]) rfl ?_
    refine g_iinc C (k := 5) (v := x5 + 1) dX12_find_66 (q := 69) rfl rfl rfl (by decide) (lv' := [(5, .int (x5 + 1)), (4, .int (x4 + 1)), (0, g_r Y 59), (1, .int x1), (2, .int x2), (3, .int x3)]) rfl ?_
    refine g_goto C dX12_find_69 (tgt := 11) (by decide) ?_
    refine g_sub [2, 3, 4, 5, 1, 0] (lv' := [(0, g_r Y 59), (1, .int x1), (2, .int x2), (3, .int x3), (4, .int (x4 + 1)), (5, .int (x5 + 1))]) rfl ?_
    exact ih x1 x2 x3 (x4 + 1) (x5 + 1) h
  · have h := hif.1 c
    clear hif
    refine g_sub [5] (lv' := [(5, .int x5)]) rfl ?_
    exact hk60 x5 h
def F_X12_find_11 (M : g_M) (k60 : Int32 → Option (Int32)) (k72 : Int32 → Int32 → Option (Int32)) (k : Int32 → Int32 → Int32 → Int32 → Int32 → Option (Int32)) (x1 : Int32) (x2 : Int32) (x3 : Int32) (x4 : Int32) (x5 : Int32) : Option (Int32) :=
  (if 1024 ≤ x5 then (k72 x2 x4) else ((if (x5 &&& (x3 ^^^ (-1))) = 0 then ((if x1 = 0 then ((f_X12_isLeast x5 M).bind fun p2 => (if p2 = 0 then (k x1 x2 x3 x4 (x5 + 1)) else (f_X12_find_54 k k60 x1 x2 x3 x4 x5 M))) else ((f_X12_isMost x5 x3 M).bind fun p3 => (if p3 = 0 then (k x1 x2 x3 x4 (x5 + 1)) else (f_X12_find_54 k k60 x1 x2 x3 x4 x5 M))))) else (k x1 x2 x3 x4 (x5 + 1)))))
set_option maxRecDepth 100000 in
theorem t_X12_find_11 {l : Launch} {X : g_X} {Y : g_Y} {p : Int32} {M : g_M} {k60 : Int32 → Option (Int32)} {k72 : Int32 → Int32 → Option (Int32)} (C : g_C l (g_rm (1)) RX12 cX12_find 6 X Y) (E : g_E (some .int) X Y (some (.int p)) M) (hk60 : ∀ (x5 : Int32), k60 x5 = some p → g_G 6 X Y 60 [(5, .int x5)] [] M) (hk72 : ∀ (x2 : Int32) (x4 : Int32), k72 x2 x4 = some p → g_G 6 X Y 72 [(2, .int x2), (4, .int x4)] [] M) (n : Nat) : ∀ (x1 : Int32) (x2 : Int32) (x3 : Int32) (x4 : Int32) (x5 : Int32), g_lq5 (F_X12_find_11 M k60 k72) n x1 x2 x3 x4 x5 = some p → g_G 6 X Y 11 [(0, g_r Y 59), (1, .int x1), (2, .int x2), (3, .int x3), (4, .int x4), (5, .int x5)] [] M := by
  induction n with
  | zero => intro x1 x2 x3 x4 x5 h; exact (g_nn h).elim
  | succ n ih =>
    intro x1 x2 x3 x4 x5 h
    have h : F_X12_find_11 M k60 k72 (g_lq5 (F_X12_find_11 M k60 k72) n) x1 x2 x3 x4 x5 = some p := h
    generalize g_lq5 (F_X12_find_11 M k60 k72) n = k at h ih
    unfold F_X12_find_11 at h
    refine g_iload C 5 dX12_find_11 (q := 13) rfl rfl ?_
    refine g_sipush C (v := 1024) dX12_find_13 (q := 16) rfl (by decide) ?_
    have hif := g_if h
    clear h
    refine g_icmp_ge C dX12_find_16 (q := 19) (tgt := 72) rfl (by decide) (fun c => ?_) (fun c => ?_)
    · have h := hif.1 c
      clear hif
      refine g_sub [2, 4] (lv' := [(2, .int x2), (4, .int x4)]) rfl ?_
      exact hk72 x2 x4 h
    · have h := hif.2 c
      clear hif
      refine g_iload C 5 dX12_find_19 (q := 21) rfl rfl ?_
      refine g_iload_n C 3 dX12_find_21 (q := 22) rfl rfl rfl ?_
      refine g_iconst C (v := (-1)) dX12_find_22 (q := 23) rfl (by decide) ?_
      refine g_ixor C dX12_find_23 (q := 24) rfl ?_
      refine g_iand C dX12_find_24 (q := 25) rfl ?_
      have hif := g_if h
      clear h
      refine g_if_ne C dX12_find_25 (q := 28) (tgt := 66) rfl (by decide) (fun c => ?_) (fun c => ?_)
      · have h := hif.2 c
        clear hif
        refine g_iinc C (k := 5) (v := x5 + 1) dX12_find_66 (q := 69) rfl rfl rfl (by decide) (lv' := [(5, .int (x5 + 1)), (0, g_r Y 59), (1, .int x1), (2, .int x2), (3, .int x3), (4, .int x4)]) rfl ?_
        refine g_goto C dX12_find_69 (tgt := 11) (by decide) ?_
        refine g_sub [1, 2, 3, 4, 5, 0] (lv' := [(0, g_r Y 59), (1, .int x1), (2, .int x2), (3, .int x3), (4, .int x4), (5, .int (x5 + 1))]) rfl ?_
        exact ih x1 x2 x3 x4 (x5 + 1) h
      · have h := hif.1 c
        clear hif
        refine g_iload_n C 1 dX12_find_28 (q := 29) rfl rfl rfl ?_
        have hif := g_if h
        clear h
        refine g_if_eq C dX12_find_29 (q := 32) (tgt := 45) rfl (by decide) (fun c => ?_) (fun c => ?_)
        · have h := hif.1 c
          clear hif
          refine g_aload_n C 0 dX12_find_45 (q := 46) rfl rfl rfl ?_
          refine g_iload C 5 dX12_find_46 (q := 48) rfl rfl ?_
          obtain ⟨p2, hp2, h⟩ := g_bind h
          refine g_callV C (k := 59) (as := [.int x5]) (st := []) (m_X12_isLeast hp2) (g_hR (by decide)) (by decide) (by decide) (gc_59 Y _ _) rfl kM_X12_222 kI_X12_isLeast kS_X12_isLeast kN_X12 kC_X12_isLeast kD_X12_isLeast rfl (Nat.le_of_ble_eq_true rfl) dX12_find_48 (q := 51) rfl ?_
          show g_G 6 X Y 51 [(0, g_r Y 59), (1, .int x1), (2, .int x2), (3, .int x3), (4, .int x4), (5, .int x5)] [.int p2] M
          have hif := g_if h
          clear h
          refine g_if_eq C dX12_find_51 (q := 54) (tgt := 66) rfl (by decide) (fun c => ?_) (fun c => ?_)
          · have h := hif.1 c
            clear hif
            refine g_iinc C (k := 5) (v := x5 + 1) dX12_find_66 (q := 69) rfl rfl rfl (by decide) (lv' := [(5, .int (x5 + 1)), (0, g_r Y 59), (1, .int x1), (2, .int x2), (3, .int x3), (4, .int x4)]) rfl ?_
            refine g_goto C dX12_find_69 (tgt := 11) (by decide) ?_
            refine g_sub [1, 2, 3, 4, 5, 0] (lv' := [(0, g_r Y 59), (1, .int x1), (2, .int x2), (3, .int x3), (4, .int x4), (5, .int (x5 + 1))]) rfl ?_
            exact ih x1 x2 x3 x4 (x5 + 1) h
          · have h := hif.2 c
            clear hif
            refine g_sub [0, 1, 2, 3, 4, 5] (lv' := [(0, g_r Y 59), (1, .int x1), (2, .int x2), (3, .int x3), (4, .int x4), (5, .int x5)]) rfl ?_
            exact t_X12_find_54 C E ih hk60 x1 x2 x3 x4 x5 h
        · have h := hif.2 c
          clear hif
          refine g_aload_n C 0 dX12_find_32 (q := 33) rfl rfl rfl ?_
          refine g_iload C 5 dX12_find_33 (q := 35) rfl rfl ?_
          refine g_iload_n C 3 dX12_find_35 (q := 36) rfl rfl rfl ?_
          obtain ⟨p3, hp3, h⟩ := g_bind h
          refine g_callV C (k := 59) (as := [.int x5, .int x3]) (st := []) (m_X12_isMost hp3) (g_hR (by decide)) (by decide) (by decide) (gc_59 Y _ _) rfl kM_X12_219 kI_X12_isMost kS_X12_isMost kN_X12 kC_X12_isMost kD_X12_isMost rfl (Nat.le_of_ble_eq_true rfl) dX12_find_36 (q := 39) rfl ?_
          show g_G 6 X Y 39 [(0, g_r Y 59), (1, .int x1), (2, .int x2), (3, .int x3), (4, .int x4), (5, .int x5)] [.int p3] M
          have hif := g_if h
          clear h
          refine g_if_eq C dX12_find_39 (q := 42) (tgt := 66) rfl (by decide) (fun c => ?_) (fun c => ?_)
          · have h := hif.1 c
            clear hif
            refine g_iinc C (k := 5) (v := x5 + 1) dX12_find_66 (q := 69) rfl rfl rfl (by decide) (lv' := [(5, .int (x5 + 1)), (0, g_r Y 59), (1, .int x1), (2, .int x2), (3, .int x3), (4, .int x4)]) rfl ?_
            refine g_goto C dX12_find_69 (tgt := 11) (by decide) ?_
            refine g_sub [1, 2, 3, 4, 5, 0] (lv' := [(0, g_r Y 59), (1, .int x1), (2, .int x2), (3, .int x3), (4, .int x4), (5, .int (x5 + 1))]) rfl ?_
            exact ih x1 x2 x3 x4 (x5 + 1) h
          · have h := hif.2 c
            clear hif
            refine g_goto C dX12_find_42 (tgt := 54) (by decide) ?_
            refine g_sub [0, 1, 2, 3, 4, 5] (lv' := [(0, g_r Y 59), (1, .int x1), (2, .int x2), (3, .int x3), (4, .int x4), (5, .int x5)]) rfl ?_
            exact t_X12_find_54 C E ih hk60 x1 x2 x3 x4 x5 h
def f_X12_find (x1 : Int32) (x2 : Int32) (M : g_M) : Option (Int32) :=
  (f_X12_all M).bind fun p1 => g_lq5 (F_X12_find_11 M (fun (x5 : Int32) => some x5) (fun (x2 : Int32) (x4 : Int32) => (if x2 = (-1) then (some x4) else (some (-2))))) 20000000 x1 x2 p1 0 0
set_option maxRecDepth 100000 in
theorem m_X12_find {l : Launch} {Y : g_Y} {x1 : Int32} {x2 : Int32} {M : g_M} {p : Int32} (h : f_X12_find x1 x2 M = some p) : g_R l Y (1) yX12_find cX12_find 6 (some .int) [g_r Y 59, .int x1, .int x2] M (some (.int p)) M := by
  unfold f_X12_find at h
  refine g_R_of kP_X12 rfl (Nat.le_of_ble_eq_true rfl) (fun X C E => ?_)
  show g_G 6 X Y 0 [(0, g_r Y 59), (1, .int x1), (2, .int x2)] [] M
  refine g_aload_n C 0 dX12_find_0 (q := 1) rfl rfl rfl ?_
  obtain ⟨p1, hp1, h⟩ := g_bind h
  refine g_callV C (k := 59) (as := []) (st := []) (m_X12_all hp1) (g_hR (by decide)) (by decide) (by decide) (gc_59 Y _ _) rfl kM_X12_181 kI_X12_all kS_X12_all kN_X12 kC_X12_all kD_X12_all rfl (Nat.le_of_ble_eq_true rfl) dX12_find_1 (q := 4) rfl ?_
  show g_G 6 X Y 4 [(0, g_r Y 59), (1, .int x1), (2, .int x2)] [.int p1] M
  refine g_istore_n C dX12_find_4 (q := 5) rfl rfl (by decide) (lv' := [(3, .int p1), (0, g_r Y 59), (1, .int x1), (2, .int x2)]) rfl ?_
  refine g_iconst C (v := 0) dX12_find_5 (q := 6) rfl (by decide) ?_
  refine g_istore C dX12_find_6 (q := 8) rfl (by decide) (lv' := [(4, .int 0), (3, .int p1), (0, g_r Y 59), (1, .int x1), (2, .int x2)]) rfl ?_
  refine g_iconst C (v := 0) dX12_find_8 (q := 9) rfl (by decide) ?_
  refine g_istore C dX12_find_9 (q := 11) rfl (by decide) (lv' := [(5, .int 0), (4, .int 0), (3, .int p1), (0, g_r Y 59), (1, .int x1), (2, .int x2)]) rfl ?_
  refine g_sub [3, 4, 5, 2, 1, 0] (lv' := [(0, g_r Y 59), (1, .int x1), (2, .int x2), (3, .int p1), (4, .int 0), (5, .int 0)]) rfl ?_
  refine t_X12_find_11 C E ?_ ?_ 20000000 x1 x2 p1 0 0 h
  · intro x5 h
    try dsimp only at h
    refine g_iload C 0 dX12_find_60 (q := 62) rfl rfl ?_
    obtain rfl := Option.some.inj h
    exact g_iret C E dX12_find_62
  · intro x2 x4 h
    try dsimp only at h
    refine g_iload_n C 0 dX12_find_72 (q := 73) rfl rfl rfl ?_
    refine g_iconst C (v := (-1)) dX12_find_73 (q := 74) rfl (by decide) ?_
    have hif := g_if h
    clear h
    refine g_icmp_ne C dX12_find_74 (q := 77) (tgt := 82) rfl (by decide) (fun c => ?_) (fun c => ?_)
    · have h := hif.2 c
      clear hif
      refine g_bipush C (v := (-2)) dX12_find_82 (q := 84) rfl (by decide) ?_
      obtain rfl := Option.some.inj h
      exact g_iret C E dX12_find_84
    · have h := hif.1 c
      clear hif
      refine g_iload C 1 dX12_find_77 (q := 79) rfl rfl ?_
      refine g_goto C dX12_find_79 (tgt := 84) (by decide) ?_
      obtain rfl := Option.some.inj h
      exact g_iret C E dX12_find_84
def f_X12_told (x1 : Int32) (x2 : Int32) (M : g_M) : Option (Int32 × g_M) :=
  (f_X12_find x1 x2 M).bind fun p1 => (if p1 = (-2) then ((f_X12_finding 3 M).bind fun p2 => some (p2.1, p2.2)) else (some (p1, M)))
set_option maxRecDepth 100000 in
theorem m_X12_told {l : Launch} {Y : g_Y} {x1 : Int32} {x2 : Int32} {M : g_M} {p : Int32 × g_M} (h : f_X12_told x1 x2 M = some p) : g_R l Y (2) yX12_told cX12_told 4 (some .int) [g_r Y 59, .int x1, .int x2] M (some (.int p.1)) p.2 := by
  unfold f_X12_told at h
  refine g_R_of kP_X12 rfl (Nat.le_of_ble_eq_true rfl) (fun X C E => ?_)
  show g_G 4 X Y 0 [(0, g_r Y 59), (1, .int x1), (2, .int x2)] [] M
  refine g_aload_n C 0 dX12_told_0 (q := 1) rfl rfl rfl ?_
  refine g_iload_n C 1 dX12_told_1 (q := 2) rfl rfl rfl ?_
  refine g_iload_n C 2 dX12_told_2 (q := 3) rfl rfl rfl ?_
  obtain ⟨p1, hp1, h⟩ := g_bind h
  refine g_callV C (k := 59) (as := [.int x1, .int x2]) (st := []) (m_X12_find hp1) (g_hR (by decide)) (by decide) (by decide) (gc_59 Y _ _) rfl kM_X12_225 kI_X12_find kS_X12_find kN_X12 kC_X12_find kD_X12_find rfl (Nat.le_of_ble_eq_true rfl) dX12_told_3 (q := 6) rfl ?_
  show g_G 4 X Y 6 [(0, g_r Y 59), (1, .int x1), (2, .int x2)] [.int p1] M
  refine g_istore_n C dX12_told_6 (q := 7) rfl rfl (by decide) (lv' := [(3, .int p1), (0, g_r Y 59), (1, .int x1), (2, .int x2)]) rfl ?_
  refine g_iload_n C 0 dX12_told_7 (q := 8) rfl rfl rfl ?_
  refine g_bipush C (v := (-2)) dX12_told_8 (q := 10) rfl (by decide) ?_
  have hif := g_if h
  clear h
  refine g_icmp_ne C dX12_told_10 (q := 13) (tgt := 21) rfl (by decide) (fun c => ?_) (fun c => ?_)
  · have h := hif.2 c
    clear hif
    refine g_iload_n C 0 dX12_told_21 (q := 22) rfl rfl rfl ?_
    obtain rfl := Option.some.inj h
    exact g_iret C E dX12_told_22
  · have h := hif.1 c
    clear hif
    refine g_aload_n C 1 dX12_told_13 (q := 14) rfl rfl rfl ?_
    refine g_iconst C (v := 3) dX12_told_14 (q := 15) rfl (by decide) ?_
    obtain ⟨p2, hp2, h⟩ := g_bind h
    refine g_callV C (k := 59) (as := [.int 3]) (st := []) (m_X12_finding hp2) (g_hR (by decide)) (by decide) (by decide) (gc_59 Y _ _) rfl kM_X12_190 kI_X12_finding kS_X12_finding kN_X12 kC_X12_finding kD_X12_finding rfl (Nat.le_of_ble_eq_true rfl) dX12_told_15 (q := 18) rfl ?_
    show g_G 4 X Y 18 [(3, .int p1), (0, g_r Y 59), (1, .int x1), (2, .int x2)] [.int p2.1] p2.2
    refine g_goto C dX12_told_18 (tgt := 22) (by decide) ?_
    obtain rfl := Option.some.inj h
    exact g_iret C E dX12_told_22
theorem r_X12_told {x1 : Int32} {x2 : Int32} {M : g_M} {p : Int32 × g_M} (h : f_X12_told x1 x2 M = some p) : g_fr [63] [] M p.2 := by
  unfold f_X12_told at h
  have hf := g_fr.rfl (S := [63]) (T := []) (M := M)
  obtain ⟨p1, -, h⟩ := g_bind h
  rcases g_ifs h with h | h
  · obtain ⟨p2, hp2, h⟩ := g_bind h
    have hf := hf.trans ((r_X12_finding hp2).mono (by decide) (by decide))
    obtain rfl := Option.some.inj h
    exact hf
  · obtain rfl := Option.some.inj h
    exact hf
def f_X12_byText (x1 : Int32) (x2 : Int32) (M : g_M) : Option (Int32 × g_M) :=
  (g_ld M 60 1208 2).bind fun v1 => (if 0 ≤ v1 then ((if (-1) ≤ x2 then ((f_X12_findMay M).bind fun p2 => (f_X12_told x1 x2 p2).bind fun p3 => some (p3.1, p3.2)) else ((f_X12_finding 0 M).bind fun p4 => some (p4.1, p4.2)))) else ((f_X12_finding 4 M).bind fun p5 => some (p5.1, p5.2)))
set_option maxRecDepth 100000 in
theorem m_X12_byText {l : Launch} {Y : g_Y} {x1 : Int32} {x2 : Int32} {M : g_M} {p : Int32 × g_M} (h : f_X12_byText x1 x2 M = some p) : g_R l Y (203) yX12_byText cX12_byText 3 (some .int) [g_r Y 59, .int x1, .int x2] M (some (.int p.1)) p.2 := by
  unfold f_X12_byText at h
  refine g_R_of kP_X12 rfl (Nat.le_of_ble_eq_true rfl) (fun X C E => ?_)
  show g_G 3 X Y 0 [(0, g_r Y 59), (1, .int x1), (2, .int x2)] [] M
  refine g_aload_n C 0 dX12_byText_0 (q := 1) rfl rfl rfl ?_
  refine g_get C (k := 59) (i := 0) (by decide) (gc_59 Y _ _) rfl kU_X12 (by decide) kF_X12_7 rfl dX12_byText_1 (q := 4) rfl ?_
  refine g_iconst C (v := 2) dX12_byText_4 (q := 5) rfl (by decide) ?_
  obtain ⟨v1, hv1, h⟩ := g_bind h
  refine g_iald C (k := 60) (n := 1208) (by decide) (gc_60 Y _ _) hv1 dX12_byText_5 (q := 6) rfl ?_
  have hif := g_if h
  clear h
  refine g_if_ge C dX12_byText_6 (q := 9) (tgt := 15) rfl (by decide) (fun c => ?_) (fun c => ?_)
  · have h := hif.1 c
    clear hif
    refine g_iload_n C 2 dX12_byText_15 (q := 16) rfl rfl rfl ?_
    refine g_iconst C (v := (-1)) dX12_byText_16 (q := 17) rfl (by decide) ?_
    have hif := g_if h
    clear h
    refine g_icmp_ge C dX12_byText_17 (q := 20) (tgt := 26) rfl (by decide) (fun c => ?_) (fun c => ?_)
    · have h := hif.1 c
      clear hif
      refine g_aload_n C 0 dX12_byText_26 (q := 27) rfl rfl rfl ?_
      obtain ⟨p2, hp2, h⟩ := g_bind h
      refine g_callV C (k := 59) (as := []) (st := []) (m_X12_findMay hp2) (g_hR (by decide)) (by decide) (by decide) (gc_59 Y _ _) rfl kM_X12_213 kI_X12_findMay kS_X12_findMay kN_X12 kC_X12_findMay kD_X12_findMay rfl (Nat.le_of_ble_eq_true rfl) dX12_byText_27 (q := 30) rfl ?_
      show g_G 3 X Y 30 [(0, g_r Y 59), (1, .int x1), (2, .int x2)] [] p2
      refine g_aload_n C 0 dX12_byText_30 (q := 31) rfl rfl rfl ?_
      refine g_iload_n C 1 dX12_byText_31 (q := 32) rfl rfl rfl ?_
      refine g_iload_n C 2 dX12_byText_32 (q := 33) rfl rfl rfl ?_
      obtain ⟨p3, hp3, h⟩ := g_bind h
      refine g_callV C (k := 59) (as := [.int x1, .int x2]) (st := []) (m_X12_told hp3) (g_hR (by decide)) (by decide) (by decide) (gc_59 Y _ _) rfl kM_X12_229 kI_X12_told kS_X12_told kN_X12 kC_X12_told kD_X12_told rfl (Nat.le_of_ble_eq_true rfl) dX12_byText_33 (q := 36) rfl ?_
      show g_G 3 X Y 36 [(0, g_r Y 59), (1, .int x1), (2, .int x2)] [.int p3.1] p3.2
      obtain rfl := Option.some.inj h
      exact g_iret C E dX12_byText_36
    · have h := hif.2 c
      clear hif
      refine g_aload_n C 0 dX12_byText_20 (q := 21) rfl rfl rfl ?_
      refine g_iconst C (v := 0) dX12_byText_21 (q := 22) rfl (by decide) ?_
      obtain ⟨p4, hp4, h⟩ := g_bind h
      refine g_callV C (k := 59) (as := [.int 0]) (st := []) (m_X12_finding hp4) (g_hR (by decide)) (by decide) (by decide) (gc_59 Y _ _) rfl kM_X12_190 kI_X12_finding kS_X12_finding kN_X12 kC_X12_finding kD_X12_finding rfl (Nat.le_of_ble_eq_true rfl) dX12_byText_22 (q := 25) rfl ?_
      show g_G 3 X Y 25 [(0, g_r Y 59), (1, .int x1), (2, .int x2)] [.int p4.1] p4.2
      obtain rfl := Option.some.inj h
      exact g_iret C E dX12_byText_25
  · have h := hif.2 c
    clear hif
    refine g_aload_n C 0 dX12_byText_9 (q := 10) rfl rfl rfl ?_
    refine g_iconst C (v := 4) dX12_byText_10 (q := 11) rfl (by decide) ?_
    obtain ⟨p5, hp5, h⟩ := g_bind h
    refine g_callV C (k := 59) (as := [.int 4]) (st := []) (m_X12_finding hp5) (g_hR (by decide)) (by decide) (by decide) (gc_59 Y _ _) rfl kM_X12_190 kI_X12_finding kS_X12_finding kN_X12 kC_X12_finding kD_X12_finding rfl (Nat.le_of_ble_eq_true rfl) dX12_byText_11 (q := 14) rfl ?_
    show g_G 3 X Y 14 [(0, g_r Y 59), (1, .int x1), (2, .int x2)] [.int p5.1] p5.2
    obtain rfl := Option.some.inj h
    exact g_iret C E dX12_byText_14
theorem r_X12_byText {x1 : Int32} {x2 : Int32} {M : g_M} {p : Int32 × g_M} (h : f_X12_byText x1 x2 M = some p) : g_fr [63, 64] [(59, 6), (59, 7), (59, 8), (59, 9), (59, 10), (59, 11), (59, 12), (59, 13), (59, 14), (59, 15), (59, 16)] M p.2 := by
  unfold f_X12_byText at h
  have hf := g_fr.rfl (S := [63, 64]) (T := [(59, 6), (59, 7), (59, 8), (59, 9), (59, 10), (59, 11), (59, 12), (59, 13), (59, 14), (59, 15), (59, 16)]) (M := M)
  obtain ⟨v1, -, h⟩ := g_bind h
  rcases g_ifs h with h | h
  · rcases g_ifs h with h | h
    · obtain ⟨p2, hp2, h⟩ := g_bind h
      have hf := hf.trans ((r_X12_findMay hp2).mono (by decide) (by decide))
      obtain ⟨p3, hp3, h⟩ := g_bind h
      have hf := hf.trans ((r_X12_told hp3).mono (by decide) (by decide))
      obtain rfl := Option.some.inj h
      exact hf
    · obtain ⟨p4, hp4, h⟩ := g_bind h
      have hf := hf.trans ((r_X12_finding hp4).mono (by decide) (by decide))
      obtain rfl := Option.some.inj h
      exact hf
  · obtain ⟨p5, hp5, h⟩ := g_bind h
    have hf := hf.trans ((r_X12_finding hp5).mono (by decide) (by decide))
    obtain rfl := Option.some.inj h
    exact hf
def f_X12_least (x1 : Int32) (M : g_M) : Option (Int32 × g_M) :=
  (f_X12_byText 0 x1 M).bind fun p1 => some (p1.1, p1.2)
set_option maxRecDepth 100000 in
theorem m_X12_least {l : Launch} {Y : g_Y} {x1 : Int32} {M : g_M} {p : Int32 × g_M} (h : f_X12_least x1 M = some p) : g_R l Y (204) yX12_least cX12_least 2 (some .int) [g_r Y 59, .int x1] M (some (.int p.1)) p.2 := by
  unfold f_X12_least at h
  refine g_R_of kP_X12 rfl (Nat.le_of_ble_eq_true rfl) (fun X C E => ?_)
  show g_G 2 X Y 0 [(0, g_r Y 59), (1, .int x1)] [] M
  refine g_aload_n C 0 dX12_least_0 (q := 1) rfl rfl rfl ?_
  refine g_iconst C (v := 0) dX12_least_1 (q := 2) rfl (by decide) ?_
  refine g_iload_n C 1 dX12_least_2 (q := 3) rfl rfl rfl ?_
  obtain ⟨p1, hp1, h⟩ := g_bind h
  refine g_callV C (k := 59) (as := [.int 0, .int x1]) (st := []) (m_X12_byText hp1) (g_hR (by decide)) (by decide) (by decide) (gc_59 Y _ _) rfl kM_X12_232 kI_X12_byText kS_X12_byText kN_X12 kC_X12_byText kD_X12_byText rfl (Nat.le_of_ble_eq_true rfl) dX12_least_3 (q := 6) rfl ?_
  show g_G 2 X Y 6 [(0, g_r Y 59), (1, .int x1)] [.int p1.1] p1.2
  obtain rfl := Option.some.inj h
  exact g_iret C E dX12_least_6
theorem r_X12_least {x1 : Int32} {M : g_M} {p : Int32 × g_M} (h : f_X12_least x1 M = some p) : g_fr [63, 64] [(59, 6), (59, 7), (59, 8), (59, 9), (59, 10), (59, 11), (59, 12), (59, 13), (59, 14), (59, 15), (59, 16)] M p.2 := by
  unfold f_X12_least at h
  have hf := g_fr.rfl (S := [63, 64]) (T := [(59, 6), (59, 7), (59, 8), (59, 9), (59, 10), (59, 11), (59, 12), (59, 13), (59, 14), (59, 15), (59, 16)]) (M := M)
  obtain ⟨p1, hp1, h⟩ := g_bind h
  have hf := hf.trans ((r_X12_byText hp1).mono (by decide) (by decide))
  obtain rfl := Option.some.inj h
  exact hf
