def f_X12_most (x1 : Int32) (M : g_M) : Option (Int32 × g_M) :=
  (f_X12_byText 1 x1 M).bind fun p1 => some (p1.1, p1.2)
set_option maxRecDepth 100000 in
theorem m_X12_most {l : Launch} {Y : g_Y} {x1 : Int32} {M : g_M} {p : Int32 × g_M} (h : f_X12_most x1 M = some p) : g_R l Y (204) yX12_most cX12_most 2 (some .int) [g_r Y 59, .int x1] M (some (.int p.1)) p.2 := by
  unfold f_X12_most at h
  refine g_R_of kP_X12 rfl (Nat.le_of_ble_eq_true rfl) (fun X C E => ?_)
  show g_G 2 X Y 0 [(0, g_r Y 59), (1, .int x1)] [] M
  refine g_aload_n C 0 dX12_most_0 (q := 1) rfl rfl rfl ?_
  refine g_iconst C (v := 1) dX12_most_1 (q := 2) rfl (by decide) ?_
  refine g_iload_n C 1 dX12_most_2 (q := 3) rfl rfl rfl ?_
  obtain ⟨p1, hp1, h⟩ := g_bind h
  refine g_callV C (k := 59) (as := [.int 1, .int x1]) (st := []) (m_X12_byText hp1) (g_hR (by decide)) (by decide) (by decide) (gc_59 Y _ _) rfl kM_X12_232 kI_X12_byText kS_X12_byText kN_X12 kC_X12_byText kD_X12_byText rfl (Nat.le_of_ble_eq_true rfl) dX12_most_3 (q := 6) rfl ?_
  show g_G 2 X Y 6 [(0, g_r Y 59), (1, .int x1)] [.int p1.1] p1.2
  obtain rfl := Option.some.inj h
  exact g_iret C E dX12_most_6
theorem r_X12_most {x1 : Int32} {M : g_M} {p : Int32 × g_M} (h : f_X12_most x1 M = some p) : g_fr [63, 64] [(59, 6), (59, 7), (59, 8), (59, 9), (59, 10), (59, 11), (59, 12), (59, 13), (59, 14), (59, 15), (59, 16)] M p.2 := by
  unfold f_X12_most at h
  have hf := g_fr.rfl (S := [63, 64]) (T := [(59, 6), (59, 7), (59, 8), (59, 9), (59, 10), (59, 11), (59, 12), (59, 13), (59, 14), (59, 15), (59, 16)]) (M := M)
  obtain ⟨p1, hp1, h⟩ := g_bind h
  have hf := hf.trans ((r_X12_byText hp1).mono (by decide) (by decide))
  obtain rfl := Option.some.inj h
  exact hf
def f_X12_hangs (x1 : Int32) (x2 : Int32) (x3 : Int32) (x4 : Int32) (M : g_M) : Option (Int32 × g_M) :=
  (g_ld M 60 1208 3).bind fun v1 => (if v1 = 40 then ((f_X12_finding 1 M).bind fun p9 => some (p9.1, p9.2)) else ((g_ld M 60 1208 3).bind fun v2 => (g_st M 60 1208 ((40 + (4 * v2)) + 0) x1).bind fun M3 => (g_st M3 60 1208 ((40 + (4 * v2)) + 1) x2).bind fun M4 => (g_st M4 60 1208 ((40 + (4 * v2)) + 2) x3).bind fun M5 => (g_st M5 60 1208 ((40 + (4 * v2)) + 3) x4).bind fun M6 => (g_ld M6 60 1208 3).bind fun v7 => (g_st M6 60 1208 3 (v7 + 1)).bind fun M8 => some (v2, M8)))
set_option maxRecDepth 100000 in
theorem m_X12_hangs {l : Launch} {Y : g_Y} {x1 : Int32} {x2 : Int32} {x3 : Int32} {x4 : Int32} {M : g_M} {p : Int32 × g_M} (h : f_X12_hangs x1 x2 x3 x4 M = some p) : g_R l Y (1) yX12_hangs cX12_hangs 6 (some .int) [g_r Y 59, .int x1, .int x2, .int x3, .int x4] M (some (.int p.1)) p.2 := by
  unfold f_X12_hangs at h
  refine g_R_of kP_X12 rfl (Nat.le_of_ble_eq_true rfl) (fun X C E => ?_)
  show g_G 6 X Y 0 [(0, g_r Y 59), (1, .int x1), (2, .int x2), (3, .int x3), (4, .int x4)] [] M
  refine g_aload_n C 0 dX12_hangs_0 (q := 1) rfl rfl rfl ?_
  refine g_get C (k := 59) (i := 0) (by decide) (gc_59 Y _ _) rfl kU_X12 (by decide) kF_X12_7 rfl dX12_hangs_1 (q := 4) rfl ?_
  refine g_iconst C (v := 3) dX12_hangs_4 (q := 5) rfl (by decide) ?_
  obtain ⟨v1, hv1, h⟩ := g_bind h
  refine g_iald C (k := 60) (n := 1208) (by decide) (gc_60 Y _ _) hv1 dX12_hangs_5 (q := 6) rfl ?_
  refine g_bipush C (v := 40) dX12_hangs_6 (q := 8) rfl (by decide) ?_
  have hif := g_if h
  clear h
  refine g_icmp_ne C dX12_hangs_8 (q := 11) (tgt := 17) rfl (by decide) (fun c => ?_) (fun c => ?_)
  · have h := hif.2 c
    clear hif
    refine g_aload_n C 0 dX12_hangs_17 (q := 18) rfl rfl rfl ?_
    refine g_get C (k := 59) (i := 0) (by decide) (gc_59 Y _ _) rfl kU_X12 (by decide) kF_X12_7 rfl dX12_hangs_18 (q := 21) rfl ?_
    refine g_iconst C (v := 3) dX12_hangs_21 (q := 22) rfl (by decide) ?_
    obtain ⟨v2, hv2, h⟩ := g_bind h
    refine g_iald C (k := 60) (n := 1208) (by decide) (gc_60 Y _ _) hv2 dX12_hangs_22 (q := 23) rfl ?_
    refine g_istore C dX12_hangs_23 (q := 25) rfl (by decide) (lv' := [(5, .int v2), (0, g_r Y 59), (1, .int x1), (2, .int x2), (3, .int x3), (4, .int x4)]) rfl ?_
    refine g_aload_n C 1 dX12_hangs_25 (q := 26) rfl rfl rfl ?_
    refine g_get C (k := 59) (i := 0) (by decide) (gc_59 Y _ _) rfl kU_X12 (by decide) kF_X12_7 rfl dX12_hangs_26 (q := 29) rfl ?_
    refine g_bipush C (v := 40) dX12_hangs_29 (q := 31) rfl (by decide) ?_
    refine g_iconst C (v := 4) dX12_hangs_31 (q := 32) rfl (by decide) ?_
    refine g_iload C 0 dX12_hangs_32 (q := 34) rfl rfl ?_
    refine g_imul C dX12_hangs_34 (q := 35) rfl ?_
    refine g_iadd C dX12_hangs_35 (q := 36) rfl ?_
    refine g_iconst C (v := 0) dX12_hangs_36 (q := 37) rfl (by decide) ?_
    refine g_iadd C dX12_hangs_37 (q := 38) rfl ?_
    refine g_iload_n C 2 dX12_hangs_38 (q := 39) rfl rfl rfl ?_
    obtain ⟨M3, hM3, h⟩ := g_bind h
    refine g_iast C (k := 60) (n := 1208) (by decide) (fun a => gc_60 Y a _) hM3 dX12_hangs_39 (q := 40) rfl ?_
    refine g_aload_n C 1 dX12_hangs_40 (q := 41) rfl rfl rfl ?_
    refine g_get C (k := 59) (i := 0) (by decide) (gc_59 Y _ _) rfl kU_X12 (by decide) kF_X12_7 rfl dX12_hangs_41 (q := 44) rfl ?_
    refine g_bipush C (v := 40) dX12_hangs_44 (q := 46) rfl (by decide) ?_
    refine g_iconst C (v := 4) dX12_hangs_46 (q := 47) rfl (by decide) ?_
    refine g_iload C 0 dX12_hangs_47 (q := 49) rfl rfl ?_
    refine g_imul C dX12_hangs_49 (q := 50) rfl ?_
    refine g_iadd C dX12_hangs_50 (q := 51) rfl ?_
    refine g_iconst C (v := 1) dX12_hangs_51 (q := 52) rfl (by decide) ?_
    refine g_iadd C dX12_hangs_52 (q := 53) rfl ?_
    refine g_iload_n C 3 dX12_hangs_53 (q := 54) rfl rfl rfl ?_
    obtain ⟨M4, hM4, h⟩ := g_bind h
    refine g_iast C (k := 60) (n := 1208) (by decide) (fun a => gc_60 Y a _) hM4 dX12_hangs_54 (q := 55) rfl ?_
    refine g_aload_n C 1 dX12_hangs_55 (q := 56) rfl rfl rfl ?_
    refine g_get C (k := 59) (i := 0) (by decide) (gc_59 Y _ _) rfl kU_X12 (by decide) kF_X12_7 rfl dX12_hangs_56 (q := 59) rfl ?_
    refine g_bipush C (v := 40) dX12_hangs_59 (q := 61) rfl (by decide) ?_
    refine g_iconst C (v := 4) dX12_hangs_61 (q := 62) rfl (by decide) ?_
    refine g_iload C 0 dX12_hangs_62 (q := 64) rfl rfl ?_
    refine g_imul C dX12_hangs_64 (q := 65) rfl ?_
    refine g_iadd C dX12_hangs_65 (q := 66) rfl ?_
    refine g_iconst C (v := 2) dX12_hangs_66 (q := 67) rfl (by decide) ?_
    refine g_iadd C dX12_hangs_67 (q := 68) rfl ?_
    refine g_iload_n C 4 dX12_hangs_68 (q := 69) rfl rfl rfl ?_
    obtain ⟨M5, hM5, h⟩ := g_bind h
    refine g_iast C (k := 60) (n := 1208) (by decide) (fun a => gc_60 Y a _) hM5 dX12_hangs_69 (q := 70) rfl ?_
    refine g_aload_n C 1 dX12_hangs_70 (q := 71) rfl rfl rfl ?_
    refine g_get C (k := 59) (i := 0) (by decide) (gc_59 Y _ _) rfl kU_X12 (by decide) kF_X12_7 rfl dX12_hangs_71 (q := 74) rfl ?_
    refine g_bipush C (v := 40) dX12_hangs_74 (q := 76) rfl (by decide) ?_
    refine g_iconst C (v := 4) dX12_hangs_76 (q := 77) rfl (by decide) ?_
    refine g_iload C 0 dX12_hangs_77 (q := 79) rfl rfl ?_
    refine g_imul C dX12_hangs_79 (q := 80) rfl ?_
    refine g_iadd C dX12_hangs_80 (q := 81) rfl ?_
    refine g_iconst C (v := 3) dX12_hangs_81 (q := 82) rfl (by decide) ?_
    refine g_iadd C dX12_hangs_82 (q := 83) rfl ?_
    refine g_iload C 5 dX12_hangs_83 (q := 85) rfl rfl ?_
    obtain ⟨M6, hM6, h⟩ := g_bind h
    refine g_iast C (k := 60) (n := 1208) (by decide) (fun a => gc_60 Y a _) hM6 dX12_hangs_85 (q := 86) rfl ?_
    refine g_aload_n C 1 dX12_hangs_86 (q := 87) rfl rfl rfl ?_
    refine g_get C (k := 59) (i := 0) (by decide) (gc_59 Y _ _) rfl kU_X12 (by decide) kF_X12_7 rfl dX12_hangs_87 (q := 90) rfl ?_
    refine g_iconst C (v := 3) dX12_hangs_90 (q := 91) rfl (by decide) ?_
    refine g_dup2 C dX12_hangs_91 (q := 92) rfl rfl rfl ?_
    obtain ⟨v7, hv7, h⟩ := g_bind h
    refine g_iald C (k := 60) (n := 1208) (by decide) (gc_60 Y _ _) hv7 dX12_hangs_92 (q := 93) rfl ?_
    refine g_iconst C (v := 1) dX12_hangs_93 (q := 94) rfl (by decide) ?_
    refine g_iadd C dX12_hangs_94 (q := 95) rfl ?_
    obtain ⟨M8, hM8, h⟩ := g_bind h
    refine g_iast C (k := 60) (n := 1208) (by decide) (fun a => gc_60 Y a _) hM8 dX12_hangs_95 (q := 96) rfl ?_
    refine g_iload C 0 dX12_hangs_96 (q := 98) rfl rfl ?_
    obtain rfl := Option.some.inj h
    exact g_iret C E dX12_hangs_98
  · have h := hif.1 c
    clear hif
    refine g_aload_n C 0 dX12_hangs_11 (q := 12) rfl rfl rfl ?_
    refine g_iconst C (v := 1) dX12_hangs_12 (q := 13) rfl (by decide) ?_
    obtain ⟨p9, hp9, h⟩ := g_bind h
    refine g_callV C (k := 59) (as := [.int 1]) (st := []) (m_X12_finding hp9) (g_hR (by decide)) (by decide) (by decide) (gc_59 Y _ _) rfl kM_X12_190 kI_X12_finding kS_X12_finding kN_X12 kC_X12_finding kD_X12_finding rfl (Nat.le_of_ble_eq_true rfl) dX12_hangs_13 (q := 16) rfl ?_
    show g_G 6 X Y 16 [(0, g_r Y 59), (1, .int x1), (2, .int x2), (3, .int x3), (4, .int x4)] [.int p9.1] p9.2
    obtain rfl := Option.some.inj h
    exact g_iret C E dX12_hangs_16
theorem r_X12_hangs {x1 : Int32} {x2 : Int32} {x3 : Int32} {x4 : Int32} {M : g_M} {p : Int32 × g_M} (h : f_X12_hangs x1 x2 x3 x4 M = some p) : g_fr [60, 63] [] M p.2 := by
  unfold f_X12_hangs at h
  have hf := g_fr.rfl (S := [60, 63]) (T := []) (M := M)
  obtain ⟨v1, -, h⟩ := g_bind h
  rcases g_ifs h with h | h
  · obtain ⟨p9, hp9, h⟩ := g_bind h
    have hf := hf.trans ((r_X12_finding hp9).mono (by decide) (by decide))
    obtain rfl := Option.some.inj h
    exact hf
  · obtain ⟨v2, -, h⟩ := g_bind h
    obtain ⟨M3, hM3, h⟩ := g_bind h
    have hf := hf.st hM3 (by decide)
    obtain ⟨M4, hM4, h⟩ := g_bind h
    have hf := hf.st hM4 (by decide)
    obtain ⟨M5, hM5, h⟩ := g_bind h
    have hf := hf.st hM5 (by decide)
    obtain ⟨M6, hM6, h⟩ := g_bind h
    have hf := hf.st hM6 (by decide)
    obtain ⟨v7, -, h⟩ := g_bind h
    obtain ⟨M8, hM8, h⟩ := g_bind h
    have hf := hf.st hM8 (by decide)
    obtain rfl := Option.some.inj h
    exact hf
def f_X12_lock_17 (x1 : Int32) (s0 : Int32) (M : g_M) : Option (Int32 × g_M) :=
  (f_X12_hangs s0 (-1) (-1) x1 M).bind fun p3 => some (p3.1, p3.2)
set_option maxRecDepth 100000 in
theorem t_X12_lock_17 {l : Launch} {X : g_X} {Y : g_Y} {p : Int32 × g_M} (C : g_C l (g_rm (2)) RX12 cX12_lock 3 X Y) (E : g_E (some .int) X Y (some (.int p.1)) p.2) (x1 : Int32) (s0 : Int32) (M : g_M) (h : f_X12_lock_17 x1 s0 M = some p) : g_G 3 X Y 17 [(1, .int x1)] [.int s0, g_r Y 59] M := by
  unfold f_X12_lock_17 at h
  refine g_iconst C (v := (-1)) dX12_lock_17 (q := 18) rfl (by decide) ?_
  refine g_iconst C (v := (-1)) dX12_lock_18 (q := 19) rfl (by decide) ?_
  refine g_iload_n C 0 dX12_lock_19 (q := 20) rfl rfl rfl ?_
  obtain ⟨p3, hp3, h⟩ := g_bind h
  refine g_callV C (k := 59) (as := [.int s0, .int (-1), .int (-1), .int x1]) (st := []) (m_X12_hangs hp3) (g_hR (by decide)) (by decide) (by decide) (gc_59 Y _ _) rfl kM_X12_238 kI_X12_hangs kS_X12_hangs kN_X12 kC_X12_hangs kD_X12_hangs rfl (Nat.le_of_ble_eq_true rfl) dX12_lock_20 (q := 23) rfl ?_
  show g_G 3 X Y 23 [(1, .int x1)] [.int p3.1] p3.2
  refine g_goto C dX12_lock_23 (tgt := 31) (by decide) ?_
  obtain rfl := Option.some.inj h
  exact g_iret C E dX12_lock_31
theorem r_X12_lock_17 {p : Int32 × g_M} (x1 : Int32) (s0 : Int32) (M : g_M) (h : f_X12_lock_17 x1 s0 M = some p) : g_fr [60, 63] [] M p.2 := by
  unfold f_X12_lock_17 at h
  have hf := g_fr.rfl (S := [60, 63]) (T := []) (M := M)
  obtain ⟨p3, hp3, h⟩ := g_bind h
  have hf := hf.trans ((r_X12_hangs hp3).mono (by decide) (by decide))
  obtain rfl := Option.some.inj h
  exact hf
def f_X12_lock (x1 : Int32) (x2 : Int32) (M : g_M) : Option (Int32 × g_M) :=
  (f_X12_isKey x1 M).bind fun p1 => (if p1 = 0 then ((f_X12_finding 0 M).bind fun p2 => some (p2.1, p2.2)) else ((if x2 = 0 then (f_X12_lock_17 x1 1 M) else (f_X12_lock_17 x1 5 M))))
set_option maxRecDepth 100000 in
theorem m_X12_lock {l : Launch} {Y : g_Y} {x1 : Int32} {x2 : Int32} {M : g_M} {p : Int32 × g_M} (h : f_X12_lock x1 x2 M = some p) : g_R l Y (2) yX12_lock cX12_lock 3 (some .int) [g_r Y 59, .int x1, .int x2] M (some (.int p.1)) p.2 := by
  unfold f_X12_lock at h
  refine g_R_of kP_X12 rfl (Nat.le_of_ble_eq_true rfl) (fun X C E => ?_)
  show g_G 3 X Y 0 [(0, g_r Y 59), (1, .int x1), (2, .int x2)] [] M
  refine g_iload_n C 1 dX12_lock_0 (q := 1) rfl rfl rfl ?_
  obtain ⟨p1, hp1, h⟩ := g_bind h
  refine g_callS C (as := [.int x1]) (st := []) (m_X12_isKey hp1) (g_hR (by decide)) (by decide) kM_X12_235 kT_X12_isKey kN_X12 kC_X12_isKey kD_X12_isKey rfl (Nat.le_of_ble_eq_true rfl) dX12_lock_1 (q := 4) rfl ?_
  show g_G 3 X Y 4 [(0, g_r Y 59), (1, .int x1), (2, .int x2)] [.int p1] M
  have hif := g_if h
  clear h
  refine g_if_eq C dX12_lock_4 (q := 7) (tgt := 26) rfl (by decide) (fun c => ?_) (fun c => ?_)
  · have h := hif.1 c
    clear hif
    refine g_aload_n C 0 dX12_lock_26 (q := 27) rfl rfl rfl ?_
    refine g_iconst C (v := 0) dX12_lock_27 (q := 28) rfl (by decide) ?_
    obtain ⟨p2, hp2, h⟩ := g_bind h
    refine g_callV C (k := 59) (as := [.int 0]) (st := []) (m_X12_finding hp2) (g_hR (by decide)) (by decide) (by decide) (gc_59 Y _ _) rfl kM_X12_190 kI_X12_finding kS_X12_finding kN_X12 kC_X12_finding kD_X12_finding rfl (Nat.le_of_ble_eq_true rfl) dX12_lock_28 (q := 31) rfl ?_
    show g_G 3 X Y 31 [(0, g_r Y 59), (1, .int x1), (2, .int x2)] [.int p2.1] p2.2
    obtain rfl := Option.some.inj h
    exact g_iret C E dX12_lock_31
  · have h := hif.2 c
    clear hif
    refine g_aload_n C 0 dX12_lock_7 (q := 8) rfl rfl rfl ?_
    refine g_iload_n C 2 dX12_lock_8 (q := 9) rfl rfl rfl ?_
    have hif := g_if h
    clear h
    refine g_if_eq C dX12_lock_9 (q := 12) (tgt := 16) rfl (by decide) (fun c => ?_) (fun c => ?_)
    · have h := hif.1 c
      clear hif
      refine g_iconst C (v := 1) dX12_lock_16 (q := 17) rfl (by decide) ?_
      refine g_sub [1] (lv' := [(1, .int x1)]) rfl ?_
      exact t_X12_lock_17 C E x1 1 M h
    · have h := hif.2 c
      clear hif
      refine g_iconst C (v := 5) dX12_lock_12 (q := 13) rfl (by decide) ?_
      refine g_goto C dX12_lock_13 (tgt := 17) (by decide) ?_
      refine g_sub [1] (lv' := [(1, .int x1)]) rfl ?_
      exact t_X12_lock_17 C E x1 5 M h
theorem r_X12_lock {x1 : Int32} {x2 : Int32} {M : g_M} {p : Int32 × g_M} (h : f_X12_lock x1 x2 M = some p) : g_fr [60, 63] [] M p.2 := by
  unfold f_X12_lock at h
  have hf := g_fr.rfl (S := [60, 63]) (T := []) (M := M)
  obtain ⟨p1, -, h⟩ := g_bind h
  rcases g_ifs h with h | h
  · obtain ⟨p2, hp2, h⟩ := g_bind h
    have hf := hf.trans ((r_X12_finding hp2).mono (by decide) (by decide))
    obtain rfl := Option.some.inj h
    exact hf
  · rcases g_ifs h with h | h
    · exact hf.trans (r_X12_lock_17 x1 1 M h)
    · exact hf.trans (r_X12_lock_17 x1 5 M h)
def f_X12_chain_35 (M : g_M) : Option (Int32 × g_M) :=
  (f_X12_finding 0 M).bind fun p2 => some (p2.1, p2.2)
set_option maxRecDepth 100000 in
theorem t_X12_chain_35 {l : Launch} {X : g_X} {Y : g_Y} {p : Int32 × g_M} (C : g_C l (g_rm (2)) RX12 cX12_chain 4 X Y) (E : g_E (some .int) X Y (some (.int p.1)) p.2) (M : g_M) (h : f_X12_chain_35 M = some p) : g_G 4 X Y 35 [(0, g_r Y 59)] [] M := by
  unfold f_X12_chain_35 at h
  refine g_aload_n C 0 dX12_chain_35 (q := 36) rfl rfl rfl ?_
  refine g_iconst C (v := 0) dX12_chain_36 (q := 37) rfl (by decide) ?_
  obtain ⟨p2, hp2, h⟩ := g_bind h
  refine g_callV C (k := 59) (as := [.int 0]) (st := []) (m_X12_finding hp2) (g_hR (by decide)) (by decide) (by decide) (gc_59 Y _ _) rfl kM_X12_190 kI_X12_finding kS_X12_finding kN_X12 kC_X12_finding kD_X12_finding rfl (Nat.le_of_ble_eq_true rfl) dX12_chain_37 (q := 40) rfl ?_
  show g_G 4 X Y 40 [(0, g_r Y 59)] [.int p2.1] p2.2
  obtain rfl := Option.some.inj h
  exact g_iret C E dX12_chain_40
theorem r_X12_chain_35 {p : Int32 × g_M} (M : g_M) (h : f_X12_chain_35 M = some p) : g_fr [60, 63] [] M p.2 := by
  unfold f_X12_chain_35 at h
  have hf := g_fr.rfl (S := [60, 63]) (T := []) (M := M)
  obtain ⟨p2, hp2, h⟩ := g_bind h
  have hf := hf.trans ((r_X12_finding hp2).mono (by decide) (by decide))
  obtain rfl := Option.some.inj h
  exact hf
def f_X12_chain_26 (x1 : Int32) (x2 : Int32) (s0 : Int32) (M : g_M) : Option (Int32 × g_M) :=
  (f_X12_hangs s0 x1 x2 (-1) M).bind fun p4 => some (p4.1, p4.2)
set_option maxRecDepth 100000 in
theorem t_X12_chain_26 {l : Launch} {X : g_X} {Y : g_Y} {p : Int32 × g_M} (C : g_C l (g_rm (2)) RX12 cX12_chain 4 X Y) (E : g_E (some .int) X Y (some (.int p.1)) p.2) (x1 : Int32) (x2 : Int32) (s0 : Int32) (M : g_M) (h : f_X12_chain_26 x1 x2 s0 M = some p) : g_G 4 X Y 26 [(1, .int x1), (2, .int x2)] [.int s0, g_r Y 59] M := by
  unfold f_X12_chain_26 at h
  refine g_iload_n C 0 dX12_chain_26 (q := 27) rfl rfl rfl ?_
  refine g_iload_n C 1 dX12_chain_27 (q := 28) rfl rfl rfl ?_
  refine g_iconst C (v := (-1)) dX12_chain_28 (q := 29) rfl (by decide) ?_
  obtain ⟨p4, hp4, h⟩ := g_bind h
  refine g_callV C (k := 59) (as := [.int s0, .int x1, .int x2, .int (-1)]) (st := []) (m_X12_hangs hp4) (g_hR (by decide)) (by decide) (by decide) (gc_59 Y _ _) rfl kM_X12_238 kI_X12_hangs kS_X12_hangs kN_X12 kC_X12_hangs kD_X12_hangs rfl (Nat.le_of_ble_eq_true rfl) dX12_chain_29 (q := 32) rfl ?_
  show g_G 4 X Y 32 [(1, .int x1), (2, .int x2)] [.int p4.1] p4.2
  refine g_goto C dX12_chain_32 (tgt := 40) (by decide) ?_
  obtain rfl := Option.some.inj h
  exact g_iret C E dX12_chain_40
theorem r_X12_chain_26 {p : Int32 × g_M} (x1 : Int32) (x2 : Int32) (s0 : Int32) (M : g_M) (h : f_X12_chain_26 x1 x2 s0 M = some p) : g_fr [60, 63] [] M p.2 := by
  unfold f_X12_chain_26 at h
  have hf := g_fr.rfl (S := [60, 63]) (T := []) (M := M)
  obtain ⟨p4, hp4, h⟩ := g_bind h
  have hf := hf.trans ((r_X12_hangs hp4).mono (by decide) (by decide))
  obtain rfl := Option.some.inj h
  exact hf
def f_X12_chain (x1 : Int32) (x2 : Int32) (x3 : Int32) (M : g_M) : Option (Int32 × g_M) :=
  (f_X12_isHanging x1 M).bind fun p1 => (if p1 = 0 then (f_X12_chain_35 M) else ((f_X12_isHanging x2 M).bind fun p3 => (if p3 = 0 then (f_X12_chain_35 M) else ((if x3 = 0 then (f_X12_chain_26 x1 x2 2 M) else (f_X12_chain_26 x1 x2 3 M))))))
set_option maxRecDepth 100000 in
theorem m_X12_chain {l : Launch} {Y : g_Y} {x1 : Int32} {x2 : Int32} {x3 : Int32} {M : g_M} {p : Int32 × g_M} (h : f_X12_chain x1 x2 x3 M = some p) : g_R l Y (2) yX12_chain cX12_chain 4 (some .int) [g_r Y 59, .int x1, .int x2, .int x3] M (some (.int p.1)) p.2 := by
  unfold f_X12_chain at h
  refine g_R_of kP_X12 rfl (Nat.le_of_ble_eq_true rfl) (fun X C E => ?_)
  show g_G 4 X Y 0 [(0, g_r Y 59), (1, .int x1), (2, .int x2), (3, .int x3)] [] M
  refine g_aload_n C 0 dX12_chain_0 (q := 1) rfl rfl rfl ?_
  refine g_iload_n C 1 dX12_chain_1 (q := 2) rfl rfl rfl ?_
  obtain ⟨p1, hp1, h⟩ := g_bind h
  refine g_callV C (k := 59) (as := [.int x1]) (st := []) (m_X12_isHanging hp1) (g_hR (by decide)) (by decide) (by decide) (gc_59 Y _ _) rfl kM_X12_242 kI_X12_isHanging kS_X12_isHanging kN_X12 kC_X12_isHanging kD_X12_isHanging rfl (Nat.le_of_ble_eq_true rfl) dX12_chain_2 (q := 5) rfl ?_
  show g_G 4 X Y 5 [(0, g_r Y 59), (1, .int x1), (2, .int x2), (3, .int x3)] [.int p1] M
  have hif := g_if h
  clear h
  refine g_if_eq C dX12_chain_5 (q := 8) (tgt := 35) rfl (by decide) (fun c => ?_) (fun c => ?_)
  · have h := hif.1 c
    clear hif
    refine g_sub [0] (lv' := [(0, g_r Y 59)]) rfl ?_
    exact t_X12_chain_35 C E M h
  · have h := hif.2 c
    clear hif
    refine g_aload_n C 0 dX12_chain_8 (q := 9) rfl rfl rfl ?_
    refine g_iload_n C 2 dX12_chain_9 (q := 10) rfl rfl rfl ?_
    obtain ⟨p3, hp3, h⟩ := g_bind h
    refine g_callV C (k := 59) (as := [.int x2]) (st := []) (m_X12_isHanging hp3) (g_hR (by decide)) (by decide) (by decide) (gc_59 Y _ _) rfl kM_X12_242 kI_X12_isHanging kS_X12_isHanging kN_X12 kC_X12_isHanging kD_X12_isHanging rfl (Nat.le_of_ble_eq_true rfl) dX12_chain_10 (q := 13) rfl ?_
    show g_G 4 X Y 13 [(0, g_r Y 59), (1, .int x1), (2, .int x2), (3, .int x3)] [.int p3] M
    have hif := g_if h
    clear h
    refine g_if_eq C dX12_chain_13 (q := 16) (tgt := 35) rfl (by decide) (fun c => ?_) (fun c => ?_)
    · have h := hif.1 c
      clear hif
      refine g_sub [0] (lv' := [(0, g_r Y 59)]) rfl ?_
      exact t_X12_chain_35 C E M h
    · have h := hif.2 c
      clear hif
      refine g_aload_n C 0 dX12_chain_16 (q := 17) rfl rfl rfl ?_
      refine g_iload_n C 3 dX12_chain_17 (q := 18) rfl rfl rfl ?_
      have hif := g_if h
      clear h
      refine g_if_eq C dX12_chain_18 (q := 21) (tgt := 25) rfl (by decide) (fun c => ?_) (fun c => ?_)
      · have h := hif.1 c
        clear hif
        refine g_iconst C (v := 2) dX12_chain_25 (q := 26) rfl (by decide) ?_
        refine g_sub [1, 2] (lv' := [(1, .int x1), (2, .int x2)]) rfl ?_
        exact t_X12_chain_26 C E x1 x2 2 M h
      · have h := hif.2 c
        clear hif
        refine g_iconst C (v := 3) dX12_chain_21 (q := 22) rfl (by decide) ?_
        refine g_goto C dX12_chain_22 (tgt := 26) (by decide) ?_
        refine g_sub [1, 2] (lv' := [(1, .int x1), (2, .int x2)]) rfl ?_
        exact t_X12_chain_26 C E x1 x2 3 M h
theorem r_X12_chain {x1 : Int32} {x2 : Int32} {x3 : Int32} {M : g_M} {p : Int32 × g_M} (h : f_X12_chain x1 x2 x3 M = some p) : g_fr [60, 63] [] M p.2 := by
  unfold f_X12_chain at h
  have hf := g_fr.rfl (S := [60, 63]) (T := []) (M := M)
  obtain ⟨p1, -, h⟩ := g_bind h
  rcases g_ifs h with h | h
  · exact hf.trans (r_X12_chain_35 M h)
  · obtain ⟨p3, -, h⟩ := g_bind h
    rcases g_ifs h with h | h
    · exact hf.trans (r_X12_chain_35 M h)
    · rcases g_ifs h with h | h
      · exact hf.trans (r_X12_chain_26 x1 x2 2 M h)
      · exact hf.trans (r_X12_chain_26 x1 x2 3 M h)
def f_X12_box_26 (M : g_M) : Option (Int32 × g_M) :=
  (f_X12_finding 0 M).bind fun p2 => some (p2.1, p2.2)
set_option maxRecDepth 100000 in
theorem t_X12_box_26 {l : Launch} {X : g_X} {Y : g_Y} {p : Int32 × g_M} (C : g_C l (g_rm (2)) RX12 cX12_box 3 X Y) (E : g_E (some .int) X Y (some (.int p.1)) p.2) (M : g_M) (h : f_X12_box_26 M = some p) : g_G 3 X Y 26 [(0, g_r Y 59)] [] M := by
  unfold f_X12_box_26 at h
  refine g_aload_n C 0 dX12_box_26 (q := 27) rfl rfl rfl ?_
  refine g_iconst C (v := 0) dX12_box_27 (q := 28) rfl (by decide) ?_
  obtain ⟨p2, hp2, h⟩ := g_bind h
  refine g_callV C (k := 59) (as := [.int 0]) (st := []) (m_X12_finding hp2) (g_hR (by decide)) (by decide) (by decide) (gc_59 Y _ _) rfl kM_X12_190 kI_X12_finding kS_X12_finding kN_X12 kC_X12_finding kD_X12_finding rfl (Nat.le_of_ble_eq_true rfl) dX12_box_28 (q := 31) rfl ?_
  show g_G 3 X Y 31 [(0, g_r Y 59)] [.int p2.1] p2.2
  obtain rfl := Option.some.inj h
  exact g_iret C E dX12_box_31
theorem r_X12_box_26 {p : Int32 × g_M} (M : g_M) (h : f_X12_box_26 M = some p) : g_fr [60, 63] [] M p.2 := by
  unfold f_X12_box_26 at h
  have hf := g_fr.rfl (S := [60, 63]) (T := []) (M := M)
  obtain ⟨p2, hp2, h⟩ := g_bind h
  have hf := hf.trans ((r_X12_finding hp2).mono (by decide) (by decide))
  obtain rfl := Option.some.inj h
  exact hf
def f_X12_box (x1 : Int32) (x2 : Int32) (M : g_M) : Option (Int32 × g_M) :=
  (f_X12_isHanging x1 M).bind fun p1 => (if p1 = 0 then (f_X12_box_26 M) else ((f_X12_isKey x2 M).bind fun p3 => (if p3 = 0 then (f_X12_box_26 M) else ((f_X12_hangs 4 x1 (-1) x2 M).bind fun p4 => some (p4.1, p4.2)))))
set_option maxRecDepth 100000 in
theorem m_X12_box {l : Launch} {Y : g_Y} {x1 : Int32} {x2 : Int32} {M : g_M} {p : Int32 × g_M} (h : f_X12_box x1 x2 M = some p) : g_R l Y (2) yX12_box cX12_box 3 (some .int) [g_r Y 59, .int x1, .int x2] M (some (.int p.1)) p.2 := by
  unfold f_X12_box at h
  refine g_R_of kP_X12 rfl (Nat.le_of_ble_eq_true rfl) (fun X C E => ?_)
  show g_G 3 X Y 0 [(0, g_r Y 59), (1, .int x1), (2, .int x2)] [] M
  refine g_aload_n C 0 dX12_box_0 (q := 1) rfl rfl rfl ?_
  refine g_iload_n C 1 dX12_box_1 (q := 2) rfl rfl rfl ?_
  obtain ⟨p1, hp1, h⟩ := g_bind h
  refine g_callV C (k := 59) (as := [.int x1]) (st := []) (m_X12_isHanging hp1) (g_hR (by decide)) (by decide) (by decide) (gc_59 Y _ _) rfl kM_X12_242 kI_X12_isHanging kS_X12_isHanging kN_X12 kC_X12_isHanging kD_X12_isHanging rfl (Nat.le_of_ble_eq_true rfl) dX12_box_2 (q := 5) rfl ?_
  show g_G 3 X Y 5 [(0, g_r Y 59), (1, .int x1), (2, .int x2)] [.int p1] M
  have hif := g_if h
  clear h
  refine g_if_eq C dX12_box_5 (q := 8) (tgt := 26) rfl (by decide) (fun c => ?_) (fun c => ?_)
  · have h := hif.1 c
    clear hif
    refine g_sub [0] (lv' := [(0, g_r Y 59)]) rfl ?_
    exact t_X12_box_26 C E M h
  · have h := hif.2 c
    clear hif
    refine g_iload_n C 2 dX12_box_8 (q := 9) rfl rfl rfl ?_
    obtain ⟨p3, hp3, h⟩ := g_bind h
    refine g_callS C (as := [.int x2]) (st := []) (m_X12_isKey hp3) (g_hR (by decide)) (by decide) kM_X12_235 kT_X12_isKey kN_X12 kC_X12_isKey kD_X12_isKey rfl (Nat.le_of_ble_eq_true rfl) dX12_box_9 (q := 12) rfl ?_
    show g_G 3 X Y 12 [(0, g_r Y 59), (1, .int x1), (2, .int x2)] [.int p3] M
    have hif := g_if h
    clear h
    refine g_if_eq C dX12_box_12 (q := 15) (tgt := 26) rfl (by decide) (fun c => ?_) (fun c => ?_)
    · have h := hif.1 c
      clear hif
      refine g_sub [0] (lv' := [(0, g_r Y 59)]) rfl ?_
      exact t_X12_box_26 C E M h
    · have h := hif.2 c
      clear hif
      refine g_aload_n C 0 dX12_box_15 (q := 16) rfl rfl rfl ?_
      refine g_iconst C (v := 4) dX12_box_16 (q := 17) rfl (by decide) ?_
      refine g_iload_n C 1 dX12_box_17 (q := 18) rfl rfl rfl ?_
      refine g_iconst C (v := (-1)) dX12_box_18 (q := 19) rfl (by decide) ?_
      refine g_iload_n C 2 dX12_box_19 (q := 20) rfl rfl rfl ?_
      obtain ⟨p4, hp4, h⟩ := g_bind h
      refine g_callV C (k := 59) (as := [.int 4, .int x1, .int (-1), .int x2]) (st := []) (m_X12_hangs hp4) (g_hR (by decide)) (by decide) (by decide) (gc_59 Y _ _) rfl kM_X12_238 kI_X12_hangs kS_X12_hangs kN_X12 kC_X12_hangs kD_X12_hangs rfl (Nat.le_of_ble_eq_true rfl) dX12_box_20 (q := 23) rfl ?_
      show g_G 3 X Y 23 [(0, g_r Y 59), (1, .int x1), (2, .int x2)] [.int p4.1] p4.2
      refine g_goto C dX12_box_23 (tgt := 31) (by decide) ?_
      obtain rfl := Option.some.inj h
      exact g_iret C E dX12_box_31
theorem r_X12_box {x1 : Int32} {x2 : Int32} {M : g_M} {p : Int32 × g_M} (h : f_X12_box x1 x2 M = some p) : g_fr [60, 63] [] M p.2 := by
  unfold f_X12_box at h
  have hf := g_fr.rfl (S := [60, 63]) (T := []) (M := M)
  obtain ⟨p1, -, h⟩ := g_bind h
  rcases g_ifs h with h | h
  · exact hf.trans (r_X12_box_26 M h)
  · obtain ⟨p3, -, h⟩ := g_bind h
    rcases g_ifs h with h | h
    · exact hf.trans (r_X12_box_26 M h)
    · obtain ⟨p4, hp4, h⟩ := g_bind h
      have hf := hf.trans ((r_X12_hangs hp4).mono (by decide) (by decide))
      obtain rfl := Option.some.inj h
      exact hf
def f_X12_counts_88 (k : Int32 → g_M → Option (g_M)) (x1 : Int32) (s0 : Int32) (s1 : Int32) (M : g_M) : Option (g_M) :=
  (g_st M 66 40 s1 s0).bind fun M6 => (g_st M6 67 40 x1 1).bind fun M7 => k (x1 + 1) M7
set_option maxRecDepth 100000 in
theorem t_X12_counts_88 {l : Launch} {X : g_X} {Y : g_Y} {p : g_M} {k : Int32 → g_M → Option (g_M)} (C : g_C l (g_rm (1)) RX12 cX12_counts 4 X Y) (E : g_E none X Y none p) (ih : ∀ (x1 : Int32) (M : g_M), k x1 M = some p → g_G 4 X Y 2 [(0, g_r Y 59), (1, .int x1)] [] M) (x1 : Int32) (s0 : Int32) (s1 : Int32) (M : g_M) (h : f_X12_counts_88 k x1 s0 s1 M = some p) : g_G 4 X Y 88 [(0, g_r Y 59), (1, .int x1)] [.int s0, .int s1, g_r Y 66] M := by
  unfold f_X12_counts_88 at h
  obtain ⟨M6, hM6, h⟩ := g_bind h
  refine g_iast C (k := 66) (n := 40) (by decide) (fun a => gc_66 Y a _) hM6 dX12_counts_88 (q := 89) rfl ?_
  refine g_aload_n C 0 dX12_counts_89 (q := 90) rfl rfl rfl ?_
  refine g_get C (k := 59) (i := 20) (by decide) (gc_59 Y _ _) rfl kU_X12 (by decide) kF_X12_32 rfl dX12_counts_90 (q := 93) rfl ?_
  refine g_iload_n C 1 dX12_counts_93 (q := 94) rfl rfl rfl ?_
  refine g_iconst C (v := 1) dX12_counts_94 (q := 95) rfl (by decide) ?_
  obtain ⟨M7, hM7, h⟩ := g_bind h
  refine g_iast C (k := 67) (n := 40) (by decide) (fun a => gc_67 Y a _) hM7 dX12_counts_95 (q := 96) rfl ?_
  refine g_goto C dX12_counts_96 (tgt := 182) (by decide) ?_
  refine g_iinc C (k := 1) (v := x1 + 1) dX12_counts_182 (q := 185) rfl rfl rfl (by decide) (lv' := [(1, .int (x1 + 1)), (0, g_r Y 59)]) rfl ?_
  refine g_goto C dX12_counts_185 (tgt := 2) (by decide) ?_
  refine g_sub [1, 0] (lv' := [(0, g_r Y 59), (1, .int (x1 + 1))]) rfl ?_
  exact ih (x1 + 1) M7 h
theorem r_X12_counts_88 {p : g_M} {k : Int32 → g_M → Option (g_M)} (ih : ∀ (x1 : Int32) (M : g_M), k x1 M = some p → g_fr [66, 67] [] M p) (x1 : Int32) (s0 : Int32) (s1 : Int32) (M : g_M) (h : f_X12_counts_88 k x1 s0 s1 M = some p) : g_fr [66, 67] [] M p := by
  unfold f_X12_counts_88 at h
  have hf := g_fr.rfl (S := [66, 67]) (T := []) (M := M)
  obtain ⟨M6, hM6, h⟩ := g_bind h
  have hf := hf.st hM6 (by decide)
  obtain ⟨M7, hM7, h⟩ := g_bind h
  have hf := hf.st hM7 (by decide)
  exact hf.trans (ih (x1 + 1) M7 h)
def f_X12_counts_148 (k : Int32 → g_M → Option (g_M)) (x1 : Int32) (x2 : Int32) (x3 : Int32) (s0 : Int32) (s1 : Int32) (M : g_M) : Option (g_M) :=
  (g_ld M 66 40 x2).bind fun v14 => (g_ld M 66 40 x3).bind fun v15 => (g_st M 66 40 s1 ((s0 + v14) + v15)).bind fun M16 => (g_ld M16 67 40 x2).bind fun v17 => (g_ld M16 67 40 x3).bind fun v18 => (g_st M16 67 40 x1 (v17 + v18)).bind fun M19 => k (x1 + 1) M19
set_option maxRecDepth 100000 in
theorem t_X12_counts_148 {l : Launch} {X : g_X} {Y : g_Y} {p : g_M} {k : Int32 → g_M → Option (g_M)} (C : g_C l (g_rm (1)) RX12 cX12_counts 4 X Y) (E : g_E none X Y none p) (ih : ∀ (x1 : Int32) (M : g_M), k x1 M = some p → g_G 4 X Y 2 [(0, g_r Y 59), (1, .int x1)] [] M) (x1 : Int32) (x2 : Int32) (x3 : Int32) (s0 : Int32) (s1 : Int32) (M : g_M) (h : f_X12_counts_148 k x1 x2 x3 s0 s1 M = some p) : g_G 4 X Y 148 [(0, g_r Y 59), (1, .int x1), (2, .int x2), (3, .int x3)] [.int s0, .int s1, g_r Y 66] M := by
  unfold f_X12_counts_148 at h
  refine g_aload_n C 0 dX12_counts_148 (q := 149) rfl rfl rfl ?_
  refine g_get C (k := 59) (i := 19) (by decide) (gc_59 Y _ _) rfl kU_X12 (by decide) kF_X12_29 rfl dX12_counts_149 (q := 152) rfl ?_
  refine g_iload_n C 2 dX12_counts_152 (q := 153) rfl rfl rfl ?_
  obtain ⟨v14, hv14, h⟩ := g_bind h
  refine g_iald C (k := 66) (n := 40) (by decide) (gc_66 Y _ _) hv14 dX12_counts_153 (q := 154) rfl ?_
  refine g_iadd C dX12_counts_154 (q := 155) rfl ?_
  refine g_aload_n C 0 dX12_counts_155 (q := 156) rfl rfl rfl ?_
  refine g_get C (k := 59) (i := 19) (by decide) (gc_59 Y _ _) rfl kU_X12 (by decide) kF_X12_29 rfl dX12_counts_156 (q := 159) rfl ?_
  refine g_iload_n C 3 dX12_counts_159 (q := 160) rfl rfl rfl ?_
  obtain ⟨v15, hv15, h⟩ := g_bind h
  refine g_iald C (k := 66) (n := 40) (by decide) (gc_66 Y _ _) hv15 dX12_counts_160 (q := 161) rfl ?_
  refine g_iadd C dX12_counts_161 (q := 162) rfl ?_
  obtain ⟨M16, hM16, h⟩ := g_bind h
  refine g_iast C (k := 66) (n := 40) (by decide) (fun a => gc_66 Y a _) hM16 dX12_counts_162 (q := 163) rfl ?_
  refine g_aload_n C 0 dX12_counts_163 (q := 164) rfl rfl rfl ?_
  refine g_get C (k := 59) (i := 20) (by decide) (gc_59 Y _ _) rfl kU_X12 (by decide) kF_X12_32 rfl dX12_counts_164 (q := 167) rfl ?_
  refine g_iload_n C 1 dX12_counts_167 (q := 168) rfl rfl rfl ?_
  refine g_aload_n C 0 dX12_counts_168 (q := 169) rfl rfl rfl ?_
  refine g_get C (k := 59) (i := 20) (by decide) (gc_59 Y _ _) rfl kU_X12 (by decide) kF_X12_32 rfl dX12_counts_169 (q := 172) rfl ?_
  refine g_iload_n C 2 dX12_counts_172 (q := 173) rfl rfl rfl ?_
  obtain ⟨v17, hv17, h⟩ := g_bind h
  refine g_iald C (k := 67) (n := 40) (by decide) (gc_67 Y _ _) hv17 dX12_counts_173 (q := 174) rfl ?_
  refine g_aload_n C 0 dX12_counts_174 (q := 175) rfl rfl rfl ?_
  refine g_get C (k := 59) (i := 20) (by decide) (gc_59 Y _ _) rfl kU_X12 (by decide) kF_X12_32 rfl dX12_counts_175 (q := 178) rfl ?_
  refine g_iload_n C 3 dX12_counts_178 (q := 179) rfl rfl rfl ?_
  obtain ⟨v18, hv18, h⟩ := g_bind h
  refine g_iald C (k := 67) (n := 40) (by decide) (gc_67 Y _ _) hv18 dX12_counts_179 (q := 180) rfl ?_
  refine g_iadd C dX12_counts_180 (q := 181) rfl ?_
  obtain ⟨M19, hM19, h⟩ := g_bind h
  refine g_iast C (k := 67) (n := 40) (by decide) (fun a => gc_67 Y a _) hM19 dX12_counts_181 (q := 182) rfl ?_
  refine g_iinc C (k := 1) (v := x1 + 1) dX12_counts_182 (q := 185) rfl rfl rfl (by decide) (lv' := [(1, .int (x1 + 1)), (0, g_r Y 59), (2, .int x2), (3, .int x3)]) rfl ?_
  refine g_goto C dX12_counts_185 (tgt := 2) (by decide) ?_
  refine g_sub [1, 0] (lv' := [(0, g_r Y 59), (1, .int (x1 + 1))]) rfl ?_
  exact ih (x1 + 1) M19 h
theorem r_X12_counts_148 {p : g_M} {k : Int32 → g_M → Option (g_M)} (ih : ∀ (x1 : Int32) (M : g_M), k x1 M = some p → g_fr [66, 67] [] M p) (x1 : Int32) (x2 : Int32) (x3 : Int32) (s0 : Int32) (s1 : Int32) (M : g_M) (h : f_X12_counts_148 k x1 x2 x3 s0 s1 M = some p) : g_fr [66, 67] [] M p := by
  unfold f_X12_counts_148 at h
  have hf := g_fr.rfl (S := [66, 67]) (T := []) (M := M)
  obtain ⟨v14, -, h⟩ := g_bind h
  obtain ⟨v15, -, h⟩ := g_bind h
  obtain ⟨M16, hM16, h⟩ := g_bind h
  have hf := hf.st hM16 (by decide)
  obtain ⟨v17, -, h⟩ := g_bind h
  obtain ⟨v18, -, h⟩ := g_bind h
  obtain ⟨M19, hM19, h⟩ := g_bind h
  have hf := hf.st hM19 (by decide)
  exact hf.trans (ih (x1 + 1) M19 h)
def F_X12_counts_2 (k188 : g_M → Option (g_M)) (k : Int32 → g_M → Option (g_M)) (x1 : Int32) (M : g_M) : Option (g_M) :=
  (g_ld M 60 1208 3).bind fun v1 => (if v1 ≤ x1 then (k188 M) else ((f_X12_hang x1 1 M).bind fun p2 => (f_X12_hang x1 2 M).bind fun p3 => (f_X12_hang x1 0 M).bind fun p4 => (if p4 = 1 then ((f_X12_hang x1 0 M).bind fun p5 => (if p5 = 1 then (f_X12_counts_88 k x1 3 x1 M) else (f_X12_counts_88 k x1 2 x1 M))) else (if p4 = 4 then ((g_ld M 66 40 p2).bind fun v8 => (g_st M 66 40 x1 (4 + v8)).bind fun M9 => (g_ld M9 67 40 p2).bind fun v10 => (g_st M9 67 40 x1 v10).bind fun M11 => k (x1 + 1) M11) else (if p4 = 5 then ((f_X12_hang x1 0 M).bind fun p12 => (if p12 = 1 then (f_X12_counts_88 k x1 3 x1 M) else (f_X12_counts_88 k x1 2 x1 M))) else (f_X12_hang x1 0 M).bind fun p13 => (if p13 = 3 then (f_X12_counts_148 k x1 p2 p3 2 x1 M) else (f_X12_counts_148 k x1 p2 p3 1 x1 M)))))))
set_option maxRecDepth 100000 in
theorem t_X12_counts_2 {l : Launch} {X : g_X} {Y : g_Y} {p : g_M} {k188 : g_M → Option (g_M)} (C : g_C l (g_rm (1)) RX12 cX12_counts 4 X Y) (E : g_E none X Y none p) (hk188 : ∀ (M : g_M), k188 M = some p → g_G 4 X Y 188 [] [] M) (n : Nat) : ∀ (x1 : Int32) (M : g_M), g_lp1 (F_X12_counts_2 k188) n x1 M = some p → g_G 4 X Y 2 [(0, g_r Y 59), (1, .int x1)] [] M := by
  induction n with
  | zero => intro x1 M h; exact (g_nn h).elim
  | succ n ih =>
    intro x1 M h
    have h : F_X12_counts_2 k188 (g_lp1 (F_X12_counts_2 k188) n) x1 M = some p := h
    generalize g_lp1 (F_X12_counts_2 k188) n = k at h ih
    unfold F_X12_counts_2 at h
    refine g_iload_n C 1 dX12_counts_2 (q := 3) rfl rfl rfl ?_
    refine g_aload_n C 0 dX12_counts_3 (q := 4) rfl rfl rfl ?_
    refine g_get C (k := 59) (i := 0) (by decide) (gc_59 Y _ _) rfl kU_X12 (by decide) kF_X12_7 rfl dX12_counts_4 (q := 7) rfl ?_
    refine g_iconst C (v := 3) dX12_counts_7 (q := 8) rfl (by decide) ?_
    obtain ⟨v1, hv1, h⟩ := g_bind h
    refine g_iald C (k := 60) (n := 1208) (by decide) (gc_60 Y _ _) hv1 dX12_counts_8 (q := 9) rfl ?_
    have hif := g_if h
    clear h
    refine g_icmp_ge C dX12_counts_9 (q := 12) (tgt := 188) rfl (by decide) (fun c => ?_) (fun c => ?_)
    · have h := hif.1 c
      clear hif
      refine g_sub [] (lv' := []) rfl ?_
      exact hk188 M h
    · have h := hif.2 c
      clear hif
      refine g_aload_n C 0 dX12_counts_12 (q := 13) rfl rfl rfl ?_
      refine g_iload_n C 1 dX12_counts_13 (q := 14) rfl rfl rfl ?_
      refine g_iconst C (v := 1) dX12_counts_14 (q := 15) rfl (by decide) ?_
      obtain ⟨p2, hp2, h⟩ := g_bind h
      refine g_callV C (k := 59) (as := [.int x1, .int 1]) (st := []) (m_X12_hang hp2) (g_hR (by decide)) (by decide) (by decide) (gc_59 Y _ _) rfl kM_X12_245 kI_X12_hang kS_X12_hang kN_X12 kC_X12_hang kD_X12_hang rfl (Nat.le_of_ble_eq_true rfl) dX12_counts_15 (q := 18) rfl ?_
      show g_G 4 X Y 18 [(0, g_r Y 59), (1, .int x1)] [.int p2] M
      refine g_istore_n C dX12_counts_18 (q := 19) rfl rfl (by decide) (lv' := [(2, .int p2), (0, g_r Y 59), (1, .int x1)]) rfl ?_
      refine g_aload_n C 1 dX12_counts_19 (q := 20) rfl rfl rfl ?_
      refine g_iload_n C 2 dX12_counts_20 (q := 21) rfl rfl rfl ?_
      refine g_iconst C (v := 2) dX12_counts_21 (q := 22) rfl (by decide) ?_
      obtain ⟨p3, hp3, h⟩ := g_bind h
      refine g_callV C (k := 59) (as := [.int x1, .int 2]) (st := []) (m_X12_hang hp3) (g_hR (by decide)) (by decide) (by decide) (gc_59 Y _ _) rfl kM_X12_245 kI_X12_hang kS_X12_hang kN_X12 kC_X12_hang kD_X12_hang rfl (Nat.le_of_ble_eq_true rfl) dX12_counts_22 (q := 25) rfl ?_
      show g_G 4 X Y 25 [(2, .int p2), (0, g_r Y 59), (1, .int x1)] [.int p3] M
      refine g_istore_n C dX12_counts_25 (q := 26) rfl rfl (by decide) (lv' := [(3, .int p3), (2, .int p2), (0, g_r Y 59), (1, .int x1)]) rfl ?_
      refine g_aload_n C 2 dX12_counts_26 (q := 27) rfl rfl rfl ?_
      refine g_iload_n C 3 dX12_counts_27 (q := 28) rfl rfl rfl ?_
      refine g_iconst C (v := 0) dX12_counts_28 (q := 29) rfl (by decide) ?_
      obtain ⟨p4, hp4, h⟩ := g_bind h
      refine g_callV C (k := 59) (as := [.int x1, .int 0]) (st := []) (m_X12_hang hp4) (g_hR (by decide)) (by decide) (by decide) (gc_59 Y _ _) rfl kM_X12_245 kI_X12_hang kS_X12_hang kN_X12 kC_X12_hang kD_X12_hang rfl (Nat.le_of_ble_eq_true rfl) dX12_counts_29 (q := 32) rfl ?_
      show g_G 4 X Y 32 [(3, .int p3), (2, .int p2), (0, g_r Y 59), (1, .int x1)] [.int p4] M
      by_cases e : p4 = 1
      · rw [if_pos e] at h
        refine g_tabI C (off := 36) (tgt := 68) dX12_counts_32 (by rw [e]; decide) (by rw [e]; decide) (by rw [e]; decide) (by decide) ?_
        refine g_aload_n C 2 dX12_counts_68 (q := 69) rfl rfl rfl ?_
        refine g_get C (k := 59) (i := 19) (by decide) (gc_59 Y _ _) rfl kU_X12 (by decide) kF_X12_29 rfl dX12_counts_69 (q := 72) rfl ?_
        refine g_iload_n C 3 dX12_counts_72 (q := 73) rfl rfl rfl ?_
        refine g_aload_n C 2 dX12_counts_73 (q := 74) rfl rfl rfl ?_
        refine g_iload_n C 3 dX12_counts_74 (q := 75) rfl rfl rfl ?_
        refine g_iconst C (v := 0) dX12_counts_75 (q := 76) rfl (by decide) ?_
        obtain ⟨p5, hp5, h⟩ := g_bind h
        refine g_callV C (k := 59) (as := [.int x1, .int 0]) (st := [.int x1, g_r Y 66]) (m_X12_hang hp5) (g_hR (by decide)) (by decide) (by decide) (gc_59 Y _ _) rfl kM_X12_245 kI_X12_hang kS_X12_hang kN_X12 kC_X12_hang kD_X12_hang rfl (Nat.le_of_ble_eq_true rfl) dX12_counts_76 (q := 79) rfl ?_
        show g_G 4 X Y 79 [(3, .int p3), (2, .int p2), (0, g_r Y 59), (1, .int x1)] [.int p5, .int x1, g_r Y 66] M
        refine g_iconst C (v := 1) dX12_counts_79 (q := 80) rfl (by decide) ?_
        have hif := g_if h
        clear h
        refine g_icmp_ne C dX12_counts_80 (q := 83) (tgt := 87) rfl (by decide) (fun c => ?_) (fun c => ?_)
        · have h := hif.2 c
          clear hif
          refine g_iconst C (v := 2) dX12_counts_87 (q := 88) rfl (by decide) ?_
          refine g_sub [2, 3] (lv' := [(0, g_r Y 59), (1, .int x1)]) rfl ?_
          exact t_X12_counts_88 C E ih x1 2 x1 M h
        · have h := hif.1 c
          clear hif
          refine g_iconst C (v := 3) dX12_counts_83 (q := 84) rfl (by decide) ?_
          refine g_goto C dX12_counts_84 (tgt := 88) (by decide) ?_
          refine g_sub [2, 3] (lv' := [(0, g_r Y 59), (1, .int x1)]) rfl ?_
          exact t_X12_counts_88 C E ih x1 3 x1 M h
      rw [if_neg e] at h
      have n1 := g_toI (n := 1) (v := 1) (by decide) e
      by_cases e : p4 = 4
      · rw [if_pos e] at h
        refine g_tabI C (off := 67) (tgt := 99) dX12_counts_32 (by rw [e]; decide) (by rw [e]; decide) (by rw [e]; decide) (by decide) ?_
        refine g_aload_n C 2 dX12_counts_99 (q := 100) rfl rfl rfl ?_
        refine g_get C (k := 59) (i := 19) (by decide) (gc_59 Y _ _) rfl kU_X12 (by decide) kF_X12_29 rfl dX12_counts_100 (q := 103) rfl ?_
        refine g_iload_n C 3 dX12_counts_103 (q := 104) rfl rfl rfl ?_
        refine g_iconst C (v := 4) dX12_counts_104 (q := 105) rfl (by decide) ?_
        refine g_aload_n C 2 dX12_counts_105 (q := 106) rfl rfl rfl ?_
        refine g_get C (k := 59) (i := 19) (by decide) (gc_59 Y _ _) rfl kU_X12 (by decide) kF_X12_29 rfl dX12_counts_106 (q := 109) rfl ?_
        refine g_iload_n C 1 dX12_counts_109 (q := 110) rfl rfl rfl ?_
        obtain ⟨v8, hv8, h⟩ := g_bind h
        refine g_iald C (k := 66) (n := 40) (by decide) (gc_66 Y _ _) hv8 dX12_counts_110 (q := 111) rfl ?_
        refine g_iadd C dX12_counts_111 (q := 112) rfl ?_
        obtain ⟨M9, hM9, h⟩ := g_bind h
        refine g_iast C (k := 66) (n := 40) (by decide) (fun a => gc_66 Y a _) hM9 dX12_counts_112 (q := 113) rfl ?_
        refine g_aload_n C 2 dX12_counts_113 (q := 114) rfl rfl rfl ?_
        refine g_get C (k := 59) (i := 20) (by decide) (gc_59 Y _ _) rfl kU_X12 (by decide) kF_X12_32 rfl dX12_counts_114 (q := 117) rfl ?_
        refine g_iload_n C 3 dX12_counts_117 (q := 118) rfl rfl rfl ?_
        refine g_aload_n C 2 dX12_counts_118 (q := 119) rfl rfl rfl ?_
        refine g_get C (k := 59) (i := 20) (by decide) (gc_59 Y _ _) rfl kU_X12 (by decide) kF_X12_32 rfl dX12_counts_119 (q := 122) rfl ?_
        refine g_iload_n C 1 dX12_counts_122 (q := 123) rfl rfl rfl ?_
        obtain ⟨v10, hv10, h⟩ := g_bind h
        refine g_iald C (k := 67) (n := 40) (by decide) (gc_67 Y _ _) hv10 dX12_counts_123 (q := 124) rfl ?_
        obtain ⟨M11, hM11, h⟩ := g_bind h
        refine g_iast C (k := 67) (n := 40) (by decide) (fun a => gc_67 Y a _) hM11 dX12_counts_124 (q := 125) rfl ?_
        refine g_goto C dX12_counts_125 (tgt := 182) (by decide) ?_
        refine g_iinc C (k := 3) (v := x1 + 1) dX12_counts_182 (q := 185) rfl rfl rfl (by decide) (lv' := [(1, .int (x1 + 1)), (3, .int p3), (2, .int p2), (0, g_r Y 59)]) rfl ?_
        refine g_goto C dX12_counts_185 (tgt := 2) (by decide) ?_
        refine g_sub [3, 0] (lv' := [(0, g_r Y 59), (1, .int (x1 + 1))]) rfl ?_
        exact ih (x1 + 1) M11 h
      rw [if_neg e] at h
      have n4 := g_toI (n := 4) (v := 4) (by decide) e
      by_cases e : p4 = 5
      · rw [if_pos e] at h
        refine g_tabI C (off := 36) (tgt := 68) dX12_counts_32 (by rw [e]; decide) (by rw [e]; decide) (by rw [e]; decide) (by decide) ?_
        refine g_aload_n C 2 dX12_counts_68 (q := 69) rfl rfl rfl ?_
        refine g_get C (k := 59) (i := 19) (by decide) (gc_59 Y _ _) rfl kU_X12 (by decide) kF_X12_29 rfl dX12_counts_69 (q := 72) rfl ?_
        refine g_iload_n C 3 dX12_counts_72 (q := 73) rfl rfl rfl ?_
        refine g_aload_n C 2 dX12_counts_73 (q := 74) rfl rfl rfl ?_
        refine g_iload_n C 3 dX12_counts_74 (q := 75) rfl rfl rfl ?_
        refine g_iconst C (v := 0) dX12_counts_75 (q := 76) rfl (by decide) ?_
        obtain ⟨p12, hp12, h⟩ := g_bind h
        refine g_callV C (k := 59) (as := [.int x1, .int 0]) (st := [.int x1, g_r Y 66]) (m_X12_hang hp12) (g_hR (by decide)) (by decide) (by decide) (gc_59 Y _ _) rfl kM_X12_245 kI_X12_hang kS_X12_hang kN_X12 kC_X12_hang kD_X12_hang rfl (Nat.le_of_ble_eq_true rfl) dX12_counts_76 (q := 79) rfl ?_
        show g_G 4 X Y 79 [(3, .int p3), (2, .int p2), (0, g_r Y 59), (1, .int x1)] [.int p12, .int x1, g_r Y 66] M
        refine g_iconst C (v := 1) dX12_counts_79 (q := 80) rfl (by decide) ?_
        have hif := g_if h
        clear h
        refine g_icmp_ne C dX12_counts_80 (q := 83) (tgt := 87) rfl (by decide) (fun c => ?_) (fun c => ?_)
        · have h := hif.2 c
          clear hif
          refine g_iconst C (v := 2) dX12_counts_87 (q := 88) rfl (by decide) ?_
          refine g_sub [2, 3] (lv' := [(0, g_r Y 59), (1, .int x1)]) rfl ?_
          exact t_X12_counts_88 C E ih x1 2 x1 M h
        · have h := hif.1 c
          clear hif
          refine g_iconst C (v := 3) dX12_counts_83 (q := 84) rfl (by decide) ?_
          refine g_goto C dX12_counts_84 (tgt := 88) (by decide) ?_
          refine g_sub [2, 3] (lv' := [(0, g_r Y 59), (1, .int x1)]) rfl ?_
          exact t_X12_counts_88 C E ih x1 3 x1 M h
      rw [if_neg e] at h
      have n5 := g_toI (n := 5) (v := 5) (by decide) e
      have hdef : g_G 4 X Y 128 [(3, .int p3), (2, .int p2), (0, g_r Y 59), (1, .int x1)] [] M := by
        refine g_aload_n C 2 dX12_counts_128 (q := 129) rfl rfl rfl ?_
        refine g_get C (k := 59) (i := 19) (by decide) (gc_59 Y _ _) rfl kU_X12 (by decide) kF_X12_29 rfl dX12_counts_129 (q := 132) rfl ?_
        refine g_iload_n C 3 dX12_counts_132 (q := 133) rfl rfl rfl ?_
        refine g_aload_n C 2 dX12_counts_133 (q := 134) rfl rfl rfl ?_
        refine g_iload_n C 3 dX12_counts_134 (q := 135) rfl rfl rfl ?_
        refine g_iconst C (v := 0) dX12_counts_135 (q := 136) rfl (by decide) ?_
        obtain ⟨p13, hp13, h⟩ := g_bind h
        refine g_callV C (k := 59) (as := [.int x1, .int 0]) (st := [.int x1, g_r Y 66]) (m_X12_hang hp13) (g_hR (by decide)) (by decide) (by decide) (gc_59 Y _ _) rfl kM_X12_245 kI_X12_hang kS_X12_hang kN_X12 kC_X12_hang kD_X12_hang rfl (Nat.le_of_ble_eq_true rfl) dX12_counts_136 (q := 139) rfl ?_
        show g_G 4 X Y 139 [(3, .int p3), (2, .int p2), (0, g_r Y 59), (1, .int x1)] [.int p13, .int x1, g_r Y 66] M
        refine g_iconst C (v := 3) dX12_counts_139 (q := 140) rfl (by decide) ?_
        have hif := g_if h
        clear h
        refine g_icmp_ne C dX12_counts_140 (q := 143) (tgt := 147) rfl (by decide) (fun c => ?_) (fun c => ?_)
        · have h := hif.2 c
          clear hif
          refine g_iconst C (v := 1) dX12_counts_147 (q := 148) rfl (by decide) ?_
          refine g_sub [2, 3, 1, 0] (lv' := [(0, g_r Y 59), (1, .int x1), (2, .int p2), (3, .int p3)]) rfl ?_
          exact t_X12_counts_148 C E ih x1 p2 p3 1 x1 M h
        · have h := hif.1 c
          clear hif
          refine g_iconst C (v := 2) dX12_counts_143 (q := 144) rfl (by decide) ?_
          refine g_goto C dX12_counts_144 (tgt := 148) (by decide) ?_
          refine g_sub [2, 3, 1, 0] (lv' := [(0, g_r Y 59), (1, .int x1), (2, .int p2), (3, .int p3)]) rfl ?_
          exact t_X12_counts_148 C E ih x1 p2 p3 2 x1 M h
      by_cases e : p4 = 2
      · refine g_tabI C (off := 96) (tgt := 128) dX12_counts_32 (by rw [e]; decide) (by rw [e]; decide) (by rw [e]; decide) (by decide) ?_
        exact hdef
      have n2 := g_toI (n := 2) (v := 2) (by decide) e
      by_cases e : p4 = 3
      · refine g_tabI C (off := 96) (tgt := 128) dX12_counts_32 (by rw [e]; decide) (by rw [e]; decide) (by rw [e]; decide) (by decide) ?_
        exact hdef
      have n3 := g_toI (n := 3) (v := 3) (by decide) e
      refine g_tabO C (tgt := 128) dX12_counts_32 (by omega) (by decide) hdef
theorem r_X12_counts_2 {p : g_M} {k188 : g_M → Option (g_M)} (hk188 : ∀ (M : g_M), k188 M = some p → g_fr [66, 67] [] M p) (n : Nat) : ∀ (x1 : Int32) (M : g_M), g_lp1 (F_X12_counts_2 k188) n x1 M = some p → g_fr [66, 67] [] M p := by
  induction n with
  | zero => intro x1 M h; exact (g_nn h).elim
  | succ n ih =>
    intro x1 M h
    have h : F_X12_counts_2 k188 (g_lp1 (F_X12_counts_2 k188) n) x1 M = some p := h
    generalize g_lp1 (F_X12_counts_2 k188) n = k at h ih
    unfold F_X12_counts_2 at h
    have hf := g_fr.rfl (S := [66, 67]) (T := []) (M := M)
    obtain ⟨v1, -, h⟩ := g_bind h
    rcases g_ifs h with h | h
    · exact hf.trans (hk188 M h)
    · obtain ⟨p2, -, h⟩ := g_bind h
      obtain ⟨p3, -, h⟩ := g_bind h
      obtain ⟨p4, -, h⟩ := g_bind h
      rcases g_ifs h with h | h
      · obtain ⟨p5, -, h⟩ := g_bind h
        rcases g_ifs h with h | h
        · exact hf.trans (r_X12_counts_88 ih x1 3 x1 M h)
        · exact hf.trans (r_X12_counts_88 ih x1 2 x1 M h)
      rcases g_ifs h with h | h
      · obtain ⟨v8, -, h⟩ := g_bind h
        obtain ⟨M9, hM9, h⟩ := g_bind h
        have hf := hf.st hM9 (by decide)
        obtain ⟨v10, -, h⟩ := g_bind h
        obtain ⟨M11, hM11, h⟩ := g_bind h
        have hf := hf.st hM11 (by decide)
        exact hf.trans (ih (x1 + 1) M11 h)
      rcases g_ifs h with h | h
      · obtain ⟨p12, -, h⟩ := g_bind h
        rcases g_ifs h with h | h
        · exact hf.trans (r_X12_counts_88 ih x1 3 x1 M h)
        · exact hf.trans (r_X12_counts_88 ih x1 2 x1 M h)
      obtain ⟨p13, -, h⟩ := g_bind h
      rcases g_ifs h with h | h
      · exact hf.trans (r_X12_counts_148 ih x1 p2 p3 2 x1 M h)
      · exact hf.trans (r_X12_counts_148 ih x1 p2 p3 1 x1 M h)
def f_X12_counts (M : g_M) : Option (g_M) :=
  g_lp1 (F_X12_counts_2 (fun (M : g_M) => some M)) 20000000 0 M
set_option maxRecDepth 100000 in
theorem m_X12_counts {l : Launch} {Y : g_Y} {M : g_M} {p : g_M} (h : f_X12_counts M = some p) : g_R l Y (1) yX12_counts cX12_counts 4 none [g_r Y 59] M none p := by
  unfold f_X12_counts at h
  refine g_R_of kP_X12 rfl (Nat.le_of_ble_eq_true rfl) (fun X C E => ?_)
  show g_G 4 X Y 0 [(0, g_r Y 59)] [] M
  refine g_iconst C (v := 0) dX12_counts_0 (q := 1) rfl (by decide) ?_
  refine g_istore_n C dX12_counts_1 (q := 2) rfl rfl (by decide) (lv' := [(1, .int 0), (0, g_r Y 59)]) rfl ?_
  refine g_sub [1, 0] (lv' := [(0, g_r Y 59), (1, .int 0)]) rfl ?_
  refine t_X12_counts_2 C E ?_ 20000000 0 M h
  · intro M h
    try dsimp only at h
    obtain rfl := Option.some.inj h
    exact g_vret C E dX12_counts_188
theorem r_X12_counts {M : g_M} {p : g_M} (h : f_X12_counts M = some p) : g_fr [66, 67] [] M p := by
  unfold f_X12_counts at h
  have hf := g_fr.rfl (S := [66, 67]) (T := []) (M := M)
  refine hf.trans (r_X12_counts_2 ?_ 20000000 0 M h)
  · intro M h
    try dsimp only at h
    have hf := g_fr.rfl (S := [66, 67]) (T := []) (M := M)
    obtain rfl := Option.some.inj h
    exact hf
def f_X12_hanging_17 (M : g_M) : Option (Int32 × g_M) :=
  (f_X12_finding 0 M).bind fun p2 => some (p2.1, p2.2)
set_option maxRecDepth 100000 in
theorem t_X12_hanging_17 {l : Launch} {X : g_X} {Y : g_Y} {p : Int32 × g_M} (C : g_C l (g_rm (2)) RX12 cX12_hanging 3 X Y) (E : g_E (some .int) X Y (some (.int p.1)) p.2) (M : g_M) (h : f_X12_hanging_17 M = some p) : g_G 3 X Y 17 [(0, g_r Y 59)] [] M := by
  unfold f_X12_hanging_17 at h
  refine g_aload_n C 0 dX12_hanging_17 (q := 18) rfl rfl rfl ?_
  refine g_iconst C (v := 0) dX12_hanging_18 (q := 19) rfl (by decide) ?_
  obtain ⟨p2, hp2, h⟩ := g_bind h
  refine g_callV C (k := 59) (as := [.int 0]) (st := []) (m_X12_finding hp2) (g_hR (by decide)) (by decide) (by decide) (gc_59 Y _ _) rfl kM_X12_190 kI_X12_finding kS_X12_finding kN_X12 kC_X12_finding kD_X12_finding rfl (Nat.le_of_ble_eq_true rfl) dX12_hanging_19 (q := 22) rfl ?_
  show g_G 3 X Y 22 [(0, g_r Y 59)] [.int p2.1] p2.2
  obtain rfl := Option.some.inj h
  exact g_iret C E dX12_hanging_22
theorem r_X12_hanging_17 {p : Int32 × g_M} (M : g_M) (h : f_X12_hanging_17 M = some p) : g_fr [63, 66, 67] [] M p.2 := by
  unfold f_X12_hanging_17 at h
  have hf := g_fr.rfl (S := [63, 66, 67]) (T := []) (M := M)
  obtain ⟨p2, hp2, h⟩ := g_bind h
  have hf := hf.trans ((r_X12_finding hp2).mono (by decide) (by decide))
  obtain rfl := Option.some.inj h
  exact hf
def f_X12_hanging (x1 : Int32) (x2 : Int32) (M : g_M) : Option (Int32 × g_M) :=
  (f_X12_isHanging x1 M).bind fun p1 => (if p1 = 0 then (f_X12_hanging_17 M) else ((f_X12_in x2 0 5 M).bind fun p3 => (if p3 = 0 then (f_X12_hanging_17 M) else ((f_X12_counts M).bind fun p4 => (if x2 = 0 then ((f_X12_hang x1 0 p4).bind fun p5 => some (p5, p4)) else (if x2 = 1 then ((f_X12_hang x1 3 p4).bind fun p6 => (if 0 ≤ p6 then ((f_X12_hang x1 3 p4).bind fun p7 => some (p7, p4)) else ((f_X12_finding 2 p4).bind fun p8 => some (p8.1, p8.2)))) else (if x2 = 2 then ((f_X12_hang x1 1 p4).bind fun p9 => (if 0 ≤ p9 then ((f_X12_hang x1 1 p4).bind fun p10 => some (p10, p4)) else ((f_X12_finding 2 p4).bind fun p11 => some (p11.1, p11.2)))) else (if x2 = 3 then ((f_X12_hang x1 2 p4).bind fun p12 => (if 0 ≤ p12 then ((f_X12_hang x1 2 p4).bind fun p13 => some (p13, p4)) else ((f_X12_finding 2 p4).bind fun p14 => some (p14.1, p14.2)))) else (if x2 = 4 then ((g_ld p4 66 40 x1).bind fun v15 => some (v15, p4)) else (g_ld p4 67 40 x1).bind fun v16 => some (v16, p4))))))))))
set_option maxRecDepth 100000 in
theorem m_X12_hanging {l : Launch} {Y : g_Y} {x1 : Int32} {x2 : Int32} {M : g_M} {p : Int32 × g_M} (h : f_X12_hanging x1 x2 M = some p) : g_R l Y (2) yX12_hanging cX12_hanging 3 (some .int) [g_r Y 59, .int x1, .int x2] M (some (.int p.1)) p.2 := by
  unfold f_X12_hanging at h
  refine g_R_of kP_X12 rfl (Nat.le_of_ble_eq_true rfl) (fun X C E => ?_)
  show g_G 3 X Y 0 [(0, g_r Y 59), (1, .int x1), (2, .int x2)] [] M
  refine g_aload_n C 0 dX12_hanging_0 (q := 1) rfl rfl rfl ?_
  refine g_iload_n C 1 dX12_hanging_1 (q := 2) rfl rfl rfl ?_
  obtain ⟨p1, hp1, h⟩ := g_bind h
  refine g_callV C (k := 59) (as := [.int x1]) (st := []) (m_X12_isHanging hp1) (g_hR (by decide)) (by decide) (by decide) (gc_59 Y _ _) rfl kM_X12_242 kI_X12_isHanging kS_X12_isHanging kN_X12 kC_X12_isHanging kD_X12_isHanging rfl (Nat.le_of_ble_eq_true rfl) dX12_hanging_2 (q := 5) rfl ?_
  show g_G 3 X Y 5 [(0, g_r Y 59), (1, .int x1), (2, .int x2)] [.int p1] M
  have hif := g_if h
  clear h
  refine g_if_eq C dX12_hanging_5 (q := 8) (tgt := 17) rfl (by decide) (fun c => ?_) (fun c => ?_)
  · have h := hif.1 c
    clear hif
    refine g_sub [0] (lv' := [(0, g_r Y 59)]) rfl ?_
    exact t_X12_hanging_17 C E M h
  · have h := hif.2 c
    clear hif
    refine g_iload_n C 2 dX12_hanging_8 (q := 9) rfl rfl rfl ?_
    refine g_iconst C (v := 0) dX12_hanging_9 (q := 10) rfl (by decide) ?_
    refine g_iconst C (v := 5) dX12_hanging_10 (q := 11) rfl (by decide) ?_
    obtain ⟨p3, hp3, h⟩ := g_bind h
    refine g_callS C (as := [.int x2, .int 0, .int 5]) (st := []) (m_X12_in hp3) (g_hR (by decide)) (by decide) kM_X12_64 kT_X12_in kN_X12 kC_X12_in kD_X12_in rfl (Nat.le_of_ble_eq_true rfl) dX12_hanging_11 (q := 14) rfl ?_
    show g_G 3 X Y 14 [(0, g_r Y 59), (1, .int x1), (2, .int x2)] [.int p3] M
    have hif := g_if h
    clear h
    refine g_if_ne C dX12_hanging_14 (q := 17) (tgt := 23) rfl (by decide) (fun c => ?_) (fun c => ?_)
    · have h := hif.2 c
      clear hif
      refine g_aload_n C 0 dX12_hanging_23 (q := 24) rfl rfl rfl ?_
      obtain ⟨p4, hp4, h⟩ := g_bind h
      refine g_callV C (k := 59) (as := []) (st := []) (m_X12_counts hp4) (g_hR (by decide)) (by decide) (by decide) (gc_59 Y _ _) rfl kM_X12_248 kI_X12_counts kS_X12_counts kN_X12 kC_X12_counts kD_X12_counts rfl (Nat.le_of_ble_eq_true rfl) dX12_hanging_24 (q := 27) rfl ?_
      show g_G 3 X Y 27 [(0, g_r Y 59), (1, .int x1), (2, .int x2)] [] p4
      refine g_iload_n C 2 dX12_hanging_27 (q := 28) rfl rfl rfl ?_
      by_cases e : x2 = 0
      · rw [if_pos e] at h
        refine g_tabI C (off := 36) (tgt := 64) dX12_hanging_28 (by rw [e]; decide) (by rw [e]; decide) (by rw [e]; decide) (by decide) ?_
        refine g_aload_n C 0 dX12_hanging_64 (q := 65) rfl rfl rfl ?_
        refine g_iload_n C 1 dX12_hanging_65 (q := 66) rfl rfl rfl ?_
        refine g_iconst C (v := 0) dX12_hanging_66 (q := 67) rfl (by decide) ?_
        obtain ⟨p5, hp5, h⟩ := g_bind h
        refine g_callV C (k := 59) (as := [.int x1, .int 0]) (st := []) (m_X12_hang hp5) (g_hR (by decide)) (by decide) (by decide) (gc_59 Y _ _) rfl kM_X12_245 kI_X12_hang kS_X12_hang kN_X12 kC_X12_hang kD_X12_hang rfl (Nat.le_of_ble_eq_true rfl) dX12_hanging_67 (q := 70) rfl ?_
        show g_G 3 X Y 70 [(0, g_r Y 59), (1, .int x1), (2, .int x2)] [.int p5] p4
        obtain rfl := Option.some.inj h
        exact g_iret C E dX12_hanging_70
      rw [if_neg e] at h
      have n0 := g_toI (n := 0) (v := 0) (by decide) e
      by_cases e : x2 = 1
      · rw [if_pos e] at h
        refine g_tabI C (off := 43) (tgt := 71) dX12_hanging_28 (by rw [e]; decide) (by rw [e]; decide) (by rw [e]; decide) (by decide) ?_
        refine g_aload_n C 0 dX12_hanging_71 (q := 72) rfl rfl rfl ?_
        refine g_iload_n C 1 dX12_hanging_72 (q := 73) rfl rfl rfl ?_
        refine g_iconst C (v := 3) dX12_hanging_73 (q := 74) rfl (by decide) ?_
        obtain ⟨p6, hp6, h⟩ := g_bind h
        refine g_callV C (k := 59) (as := [.int x1, .int 3]) (st := []) (m_X12_hang hp6) (g_hR (by decide)) (by decide) (by decide) (gc_59 Y _ _) rfl kM_X12_245 kI_X12_hang kS_X12_hang kN_X12 kC_X12_hang kD_X12_hang rfl (Nat.le_of_ble_eq_true rfl) dX12_hanging_74 (q := 77) rfl ?_
        show g_G 3 X Y 77 [(0, g_r Y 59), (1, .int x1), (2, .int x2)] [.int p6] p4
        have hif := g_if h
        clear h
        refine g_if_ge C dX12_hanging_77 (q := 80) (tgt := 88) rfl (by decide) (fun c => ?_) (fun c => ?_)
        · have h := hif.1 c
          clear hif
          refine g_aload_n C 0 dX12_hanging_88 (q := 89) rfl rfl rfl ?_
          refine g_iload_n C 1 dX12_hanging_89 (q := 90) rfl rfl rfl ?_
          refine g_iconst C (v := 3) dX12_hanging_90 (q := 91) rfl (by decide) ?_
          obtain ⟨p7, hp7, h⟩ := g_bind h
          refine g_callV C (k := 59) (as := [.int x1, .int 3]) (st := []) (m_X12_hang hp7) (g_hR (by decide)) (by decide) (by decide) (gc_59 Y _ _) rfl kM_X12_245 kI_X12_hang kS_X12_hang kN_X12 kC_X12_hang kD_X12_hang rfl (Nat.le_of_ble_eq_true rfl) dX12_hanging_91 (q := 94) rfl ?_
          show g_G 3 X Y 94 [(0, g_r Y 59), (1, .int x1), (2, .int x2)] [.int p7] p4
          obtain rfl := Option.some.inj h
          exact g_iret C E dX12_hanging_94
        · have h := hif.2 c
          clear hif
          refine g_aload_n C 0 dX12_hanging_80 (q := 81) rfl rfl rfl ?_
          refine g_iconst C (v := 2) dX12_hanging_81 (q := 82) rfl (by decide) ?_
          obtain ⟨p8, hp8, h⟩ := g_bind h
          refine g_callV C (k := 59) (as := [.int 2]) (st := []) (m_X12_finding hp8) (g_hR (by decide)) (by decide) (by decide) (gc_59 Y _ _) rfl kM_X12_190 kI_X12_finding kS_X12_finding kN_X12 kC_X12_finding kD_X12_finding rfl (Nat.le_of_ble_eq_true rfl) dX12_hanging_82 (q := 85) rfl ?_
          show g_G 3 X Y 85 [(0, g_r Y 59), (1, .int x1), (2, .int x2)] [.int p8.1] p8.2
          refine g_goto C dX12_hanging_85 (tgt := 94) (by decide) ?_
          obtain rfl := Option.some.inj h
          exact g_iret C E dX12_hanging_94
      rw [if_neg e] at h
      have n1 := g_toI (n := 1) (v := 1) (by decide) e
      by_cases e : x2 = 2
      · rw [if_pos e] at h
        refine g_tabI C (off := 67) (tgt := 95) dX12_hanging_28 (by rw [e]; decide) (by rw [e]; decide) (by rw [e]; decide) (by decide) ?_
        refine g_aload_n C 0 dX12_hanging_95 (q := 96) rfl rfl rfl ?_
        refine g_iload_n C 1 dX12_hanging_96 (q := 97) rfl rfl rfl ?_
        refine g_iconst C (v := 1) dX12_hanging_97 (q := 98) rfl (by decide) ?_
        obtain ⟨p9, hp9, h⟩ := g_bind h
        refine g_callV C (k := 59) (as := [.int x1, .int 1]) (st := []) (m_X12_hang hp9) (g_hR (by decide)) (by decide) (by decide) (gc_59 Y _ _) rfl kM_X12_245 kI_X12_hang kS_X12_hang kN_X12 kC_X12_hang kD_X12_hang rfl (Nat.le_of_ble_eq_true rfl) dX12_hanging_98 (q := 101) rfl ?_
        show g_G 3 X Y 101 [(0, g_r Y 59), (1, .int x1), (2, .int x2)] [.int p9] p4
        have hif := g_if h
        clear h
        refine g_if_ge C dX12_hanging_101 (q := 104) (tgt := 112) rfl (by decide) (fun c => ?_) (fun c => ?_)
        · have h := hif.1 c
          clear hif
          refine g_aload_n C 0 dX12_hanging_112 (q := 113) rfl rfl rfl ?_
          refine g_iload_n C 1 dX12_hanging_113 (q := 114) rfl rfl rfl ?_
          refine g_iconst C (v := 1) dX12_hanging_114 (q := 115) rfl (by decide) ?_
          obtain ⟨p10, hp10, h⟩ := g_bind h
          refine g_callV C (k := 59) (as := [.int x1, .int 1]) (st := []) (m_X12_hang hp10) (g_hR (by decide)) (by decide) (by decide) (gc_59 Y _ _) rfl kM_X12_245 kI_X12_hang kS_X12_hang kN_X12 kC_X12_hang kD_X12_hang rfl (Nat.le_of_ble_eq_true rfl) dX12_hanging_115 (q := 118) rfl ?_
          show g_G 3 X Y 118 [(0, g_r Y 59), (1, .int x1), (2, .int x2)] [.int p10] p4
          obtain rfl := Option.some.inj h
          exact g_iret C E dX12_hanging_118
        · have h := hif.2 c
          clear hif
          refine g_aload_n C 0 dX12_hanging_104 (q := 105) rfl rfl rfl ?_
          refine g_iconst C (v := 2) dX12_hanging_105 (q := 106) rfl (by decide) ?_
          obtain ⟨p11, hp11, h⟩ := g_bind h
          refine g_callV C (k := 59) (as := [.int 2]) (st := []) (m_X12_finding hp11) (g_hR (by decide)) (by decide) (by decide) (gc_59 Y _ _) rfl kM_X12_190 kI_X12_finding kS_X12_finding kN_X12 kC_X12_finding kD_X12_finding rfl (Nat.le_of_ble_eq_true rfl) dX12_hanging_106 (q := 109) rfl ?_
          show g_G 3 X Y 109 [(0, g_r Y 59), (1, .int x1), (2, .int x2)] [.int p11.1] p11.2
          refine g_goto C dX12_hanging_109 (tgt := 118) (by decide) ?_
          obtain rfl := Option.some.inj h
          exact g_iret C E dX12_hanging_118
      rw [if_neg e] at h
      have n2 := g_toI (n := 2) (v := 2) (by decide) e
      by_cases e : x2 = 3
      · rw [if_pos e] at h
        refine g_tabI C (off := 91) (tgt := 119) dX12_hanging_28 (by rw [e]; decide) (by rw [e]; decide) (by rw [e]; decide) (by decide) ?_
        refine g_aload_n C 0 dX12_hanging_119 (q := 120) rfl rfl rfl ?_
        refine g_iload_n C 1 dX12_hanging_120 (q := 121) rfl rfl rfl ?_
        refine g_iconst C (v := 2) dX12_hanging_121 (q := 122) rfl (by decide) ?_
        obtain ⟨p12, hp12, h⟩ := g_bind h
        refine g_callV C (k := 59) (as := [.int x1, .int 2]) (st := []) (m_X12_hang hp12) (g_hR (by decide)) (by decide) (by decide) (gc_59 Y _ _) rfl kM_X12_245 kI_X12_hang kS_X12_hang kN_X12 kC_X12_hang kD_X12_hang rfl (Nat.le_of_ble_eq_true rfl) dX12_hanging_122 (q := 125) rfl ?_
        show g_G 3 X Y 125 [(0, g_r Y 59), (1, .int x1), (2, .int x2)] [.int p12] p4
        have hif := g_if h
        clear h
        refine g_if_ge C dX12_hanging_125 (q := 128) (tgt := 136) rfl (by decide) (fun c => ?_) (fun c => ?_)
        · have h := hif.1 c
          clear hif
          refine g_aload_n C 0 dX12_hanging_136 (q := 137) rfl rfl rfl ?_
          refine g_iload_n C 1 dX12_hanging_137 (q := 138) rfl rfl rfl ?_
          refine g_iconst C (v := 2) dX12_hanging_138 (q := 139) rfl (by decide) ?_
          obtain ⟨p13, hp13, h⟩ := g_bind h
          refine g_callV C (k := 59) (as := [.int x1, .int 2]) (st := []) (m_X12_hang hp13) (g_hR (by decide)) (by decide) (by decide) (gc_59 Y _ _) rfl kM_X12_245 kI_X12_hang kS_X12_hang kN_X12 kC_X12_hang kD_X12_hang rfl (Nat.le_of_ble_eq_true rfl) dX12_hanging_139 (q := 142) rfl ?_
          show g_G 3 X Y 142 [(0, g_r Y 59), (1, .int x1), (2, .int x2)] [.int p13] p4
          obtain rfl := Option.some.inj h
          exact g_iret C E dX12_hanging_142
        · have h := hif.2 c
          clear hif
          refine g_aload_n C 0 dX12_hanging_128 (q := 129) rfl rfl rfl ?_
          refine g_iconst C (v := 2) dX12_hanging_129 (q := 130) rfl (by decide) ?_
          obtain ⟨p14, hp14, h⟩ := g_bind h
          refine g_callV C (k := 59) (as := [.int 2]) (st := []) (m_X12_finding hp14) (g_hR (by decide)) (by decide) (by decide) (gc_59 Y _ _) rfl kM_X12_190 kI_X12_finding kS_X12_finding kN_X12 kC_X12_finding kD_X12_finding rfl (Nat.le_of_ble_eq_true rfl) dX12_hanging_130 (q := 133) rfl ?_
          show g_G 3 X Y 133 [(0, g_r Y 59), (1, .int x1), (2, .int x2)] [.int p14.1] p14.2
          refine g_goto C dX12_hanging_133 (tgt := 142) (by decide) ?_
          obtain rfl := Option.some.inj h
          exact g_iret C E dX12_hanging_142
      rw [if_neg e] at h
      have n3 := g_toI (n := 3) (v := 3) (by decide) e
      by_cases e : x2 = 4
      · rw [if_pos e] at h
        refine g_tabI C (off := 115) (tgt := 143) dX12_hanging_28 (by rw [e]; decide) (by rw [e]; decide) (by rw [e]; decide) (by decide) ?_
        refine g_aload_n C 0 dX12_hanging_143 (q := 144) rfl rfl rfl ?_
        refine g_get C (k := 59) (i := 19) (by decide) (gc_59 Y _ _) rfl kU_X12 (by decide) kF_X12_29 rfl dX12_hanging_144 (q := 147) rfl ?_
        refine g_iload_n C 1 dX12_hanging_147 (q := 148) rfl rfl rfl ?_
        obtain ⟨v15, hv15, h⟩ := g_bind h
        refine g_iald C (k := 66) (n := 40) (by decide) (gc_66 Y _ _) hv15 dX12_hanging_148 (q := 149) rfl ?_
        obtain rfl := Option.some.inj h
        exact g_iret C E dX12_hanging_149
      rw [if_neg e] at h
      have n4 := g_toI (n := 4) (v := 4) (by decide) e
      have hdef : g_G 3 X Y 150 [(0, g_r Y 59), (1, .int x1), (2, .int x2)] [] p4 := by
        refine g_aload_n C 0 dX12_hanging_150 (q := 151) rfl rfl rfl ?_
        refine g_get C (k := 59) (i := 20) (by decide) (gc_59 Y _ _) rfl kU_X12 (by decide) kF_X12_32 rfl dX12_hanging_151 (q := 154) rfl ?_
        refine g_iload_n C 1 dX12_hanging_154 (q := 155) rfl rfl rfl ?_
        obtain ⟨v16, hv16, h⟩ := g_bind h
        refine g_iald C (k := 67) (n := 40) (by decide) (gc_67 Y _ _) hv16 dX12_hanging_155 (q := 156) rfl ?_
        obtain rfl := Option.some.inj h
        exact g_iret C E dX12_hanging_156
      refine g_tabO C (tgt := 150) dX12_hanging_28 (by omega) (by decide) hdef
    · have h := hif.1 c
      clear hif
      refine g_sub [0] (lv' := [(0, g_r Y 59)]) rfl ?_
      exact t_X12_hanging_17 C E M h
theorem r_X12_hanging {x1 : Int32} {x2 : Int32} {M : g_M} {p : Int32 × g_M} (h : f_X12_hanging x1 x2 M = some p) : g_fr [63, 66, 67] [] M p.2 := by
  unfold f_X12_hanging at h
  have hf := g_fr.rfl (S := [63, 66, 67]) (T := []) (M := M)
  obtain ⟨p1, -, h⟩ := g_bind h
  rcases g_ifs h with h | h
  · exact hf.trans (r_X12_hanging_17 M h)
  · obtain ⟨p3, -, h⟩ := g_bind h
    rcases g_ifs h with h | h
    · exact hf.trans (r_X12_hanging_17 M h)
    · obtain ⟨p4, hp4, h⟩ := g_bind h
      have hf := hf.trans ((r_X12_counts hp4).mono (by decide) (by decide))
      rcases g_ifs h with h | h
      · obtain ⟨p5, -, h⟩ := g_bind h
        obtain rfl := Option.some.inj h
        exact hf
      rcases g_ifs h with h | h
      · obtain ⟨p6, -, h⟩ := g_bind h
        rcases g_ifs h with h | h
        · obtain ⟨p7, -, h⟩ := g_bind h
          obtain rfl := Option.some.inj h
          exact hf
        · obtain ⟨p8, hp8, h⟩ := g_bind h
          have hf := hf.trans ((r_X12_finding hp8).mono (by decide) (by decide))
          obtain rfl := Option.some.inj h
          exact hf
      rcases g_ifs h with h | h
      · obtain ⟨p9, -, h⟩ := g_bind h
        rcases g_ifs h with h | h
        · obtain ⟨p10, -, h⟩ := g_bind h
          obtain rfl := Option.some.inj h
          exact hf
        · obtain ⟨p11, hp11, h⟩ := g_bind h
          have hf := hf.trans ((r_X12_finding hp11).mono (by decide) (by decide))
          obtain rfl := Option.some.inj h
          exact hf
      rcases g_ifs h with h | h
      · obtain ⟨p12, -, h⟩ := g_bind h
        rcases g_ifs h with h | h
        · obtain ⟨p13, -, h⟩ := g_bind h
          obtain rfl := Option.some.inj h
          exact hf
        · obtain ⟨p14, hp14, h⟩ := g_bind h
          have hf := hf.trans ((r_X12_finding hp14).mono (by decide) (by decide))
          obtain rfl := Option.some.inj h
          exact hf
      rcases g_ifs h with h | h
      · obtain ⟨v15, -, h⟩ := g_bind h
        obtain rfl := Option.some.inj h
        exact hf
      obtain ⟨v16, -, h⟩ := g_bind h
      obtain rfl := Option.some.inj h
      exact hf
def f_X12_as_17 (M : g_M) : Option (Int32 × g_M) :=
  (f_X12_finding 0 M).bind fun p2 => some (p2.1, p2.2)
set_option maxRecDepth 100000 in
theorem t_X12_as_17 {l : Launch} {X : g_X} {Y : g_Y} {p : Int32 × g_M} (C : g_C l (g_rm (2)) RX12 cX12_as 5 X Y) (E : g_E (some .int) X Y (some (.int p.1)) p.2) (M : g_M) (h : f_X12_as_17 M = some p) : g_G 5 X Y 17 [(0, g_r Y 59)] [] M := by
  unfold f_X12_as_17 at h
  refine g_aload_n C 0 dX12_as_17 (q := 18) rfl rfl rfl ?_
  refine g_iconst C (v := 0) dX12_as_18 (q := 19) rfl (by decide) ?_
  obtain ⟨p2, hp2, h⟩ := g_bind h
  refine g_callV C (k := 59) (as := [.int 0]) (st := []) (m_X12_finding hp2) (g_hR (by decide)) (by decide) (by decide) (gc_59 Y _ _) rfl kM_X12_190 kI_X12_finding kS_X12_finding kN_X12 kC_X12_finding kD_X12_finding rfl (Nat.le_of_ble_eq_true rfl) dX12_as_19 (q := 22) rfl ?_
  show g_G 5 X Y 22 [(0, g_r Y 59)] [.int p2.1] p2.2
  obtain rfl := Option.some.inj h
  exact g_iret C E dX12_as_22
theorem r_X12_as_17 {p : Int32 × g_M} (M : g_M) (h : f_X12_as_17 M = some p) : g_fr [63] [] M p.2 := by
  unfold f_X12_as_17 at h
  have hf := g_fr.rfl (S := [63]) (T := []) (M := M)
  obtain ⟨p2, hp2, h⟩ := g_bind h
  have hf := hf.trans ((r_X12_finding hp2).mono (by decide) (by decide))
  obtain rfl := Option.some.inj h
  exact hf
def f_X12_as_64 (x1 : Int32) (s0 : Int32) (M : g_M) : Option (Int32 × g_M) :=
  (if s0 = 0 then ((f_X12_finding 2 M).bind fun p5 => some (p5.1, p5.2)) else (some (x1, M)))
set_option maxRecDepth 100000 in
theorem t_X12_as_64 {l : Launch} {X : g_X} {Y : g_Y} {p : Int32 × g_M} (C : g_C l (g_rm (2)) RX12 cX12_as 5 X Y) (E : g_E (some .int) X Y (some (.int p.1)) p.2) (x1 : Int32) (s0 : Int32) (M : g_M) (h : f_X12_as_64 x1 s0 M = some p) : g_G 5 X Y 64 [(0, g_r Y 59), (1, .int x1)] [.int s0] M := by
  unfold f_X12_as_64 at h
  refine g_istore C dX12_as_64 (q := 66) rfl (by decide) (lv' := [(4, .int s0), (0, g_r Y 59), (1, .int x1)]) rfl ?_
  refine g_iload C 0 dX12_as_66 (q := 68) rfl rfl ?_
  have hif := g_if h
  clear h
  refine g_if_eq C dX12_as_68 (q := 71) (tgt := 75) rfl (by decide) (fun c => ?_) (fun c => ?_)
  · have h := hif.1 c
    clear hif
    refine g_aload_n C 1 dX12_as_75 (q := 76) rfl rfl rfl ?_
    refine g_iconst C (v := 2) dX12_as_76 (q := 77) rfl (by decide) ?_
    obtain ⟨p5, hp5, h⟩ := g_bind h
    refine g_callV C (k := 59) (as := [.int 2]) (st := []) (m_X12_finding hp5) (g_hR (by decide)) (by decide) (by decide) (gc_59 Y _ _) rfl kM_X12_190 kI_X12_finding kS_X12_finding kN_X12 kC_X12_finding kD_X12_finding rfl (Nat.le_of_ble_eq_true rfl) dX12_as_77 (q := 80) rfl ?_
    show g_G 5 X Y 80 [(4, .int s0), (0, g_r Y 59), (1, .int x1)] [.int p5.1] p5.2
    obtain rfl := Option.some.inj h
    exact g_iret C E dX12_as_80
  · have h := hif.2 c
    clear hif
    refine g_iload_n C 2 dX12_as_71 (q := 72) rfl rfl rfl ?_
    refine g_goto C dX12_as_72 (tgt := 80) (by decide) ?_
    obtain rfl := Option.some.inj h
    exact g_iret C E dX12_as_80
theorem r_X12_as_64 {p : Int32 × g_M} (x1 : Int32) (s0 : Int32) (M : g_M) (h : f_X12_as_64 x1 s0 M = some p) : g_fr [63] [] M p.2 := by
  unfold f_X12_as_64 at h
  have hf := g_fr.rfl (S := [63]) (T := []) (M := M)
  rcases g_ifs h with h | h
  · obtain ⟨p5, hp5, h⟩ := g_bind h
    have hf := hf.trans ((r_X12_finding hp5).mono (by decide) (by decide))
    obtain rfl := Option.some.inj h
    exact hf
  · obtain rfl := Option.some.inj h
    exact hf
def f_X12_as_63 (x1 : Int32) (M : g_M) : Option (Int32 × g_M) :=
  f_X12_as_64 x1 0 M
set_option maxRecDepth 100000 in
theorem t_X12_as_63 {l : Launch} {X : g_X} {Y : g_Y} {p : Int32 × g_M} (C : g_C l (g_rm (2)) RX12 cX12_as 5 X Y) (E : g_E (some .int) X Y (some (.int p.1)) p.2) (x1 : Int32) (M : g_M) (h : f_X12_as_63 x1 M = some p) : g_G 5 X Y 63 [(0, g_r Y 59), (1, .int x1)] [] M := by
  unfold f_X12_as_63 at h
  refine g_iconst C (v := 0) dX12_as_63 (q := 64) rfl (by decide) ?_
  refine g_sub [0, 1] (lv' := [(0, g_r Y 59), (1, .int x1)]) rfl ?_
  exact t_X12_as_64 C E x1 0 M h
theorem r_X12_as_63 {p : Int32 × g_M} (x1 : Int32) (M : g_M) (h : f_X12_as_63 x1 M = some p) : g_fr [63] [] M p.2 := by
  unfold f_X12_as_63 at h
  have hf := g_fr.rfl (S := [63]) (T := []) (M := M)
  exact hf.trans (r_X12_as_64 x1 0 M h)
def f_X12_as_49 (x1 : Int32) (x2 : Int32) (x3 : Int32) (M : g_M) : Option (Int32 × g_M) :=
  (if x3 = 5 then ((if x2 = 1 then (f_X12_as_64 x1 1 M) else (f_X12_as_63 x1 M))) else (f_X12_as_63 x1 M))
set_option maxRecDepth 100000 in
theorem t_X12_as_49 {l : Launch} {X : g_X} {Y : g_Y} {p : Int32 × g_M} (C : g_C l (g_rm (2)) RX12 cX12_as 5 X Y) (E : g_E (some .int) X Y (some (.int p.1)) p.2) (x1 : Int32) (x2 : Int32) (x3 : Int32) (M : g_M) (h : f_X12_as_49 x1 x2 x3 M = some p) : g_G 5 X Y 49 [(0, g_r Y 59), (1, .int x1), (2, .int x2), (3, .int x3)] [] M := by
  unfold f_X12_as_49 at h
  refine g_iload_n C 3 dX12_as_49 (q := 50) rfl rfl rfl ?_
  refine g_iconst C (v := 5) dX12_as_50 (q := 51) rfl (by decide) ?_
  have hif := g_if h
  clear h
  refine g_icmp_ne C dX12_as_51 (q := 54) (tgt := 63) rfl (by decide) (fun c => ?_) (fun c => ?_)
  · have h := hif.2 c
    clear hif
    refine g_sub [0, 1] (lv' := [(0, g_r Y 59), (1, .int x1)]) rfl ?_
    exact t_X12_as_63 C E x1 M h
  · have h := hif.1 c
    clear hif
    refine g_iload_n C 2 dX12_as_54 (q := 55) rfl rfl rfl ?_
    refine g_iconst C (v := 1) dX12_as_55 (q := 56) rfl (by decide) ?_
    have hif := g_if h
    clear h
    refine g_icmp_ne C dX12_as_56 (q := 59) (tgt := 63) rfl (by decide) (fun c => ?_) (fun c => ?_)
    · have h := hif.2 c
      clear hif
      refine g_sub [0, 1] (lv' := [(0, g_r Y 59), (1, .int x1)]) rfl ?_
      exact t_X12_as_63 C E x1 M h
    · have h := hif.1 c
      clear hif
      refine g_iconst C (v := 1) dX12_as_59 (q := 60) rfl (by decide) ?_
      refine g_goto C dX12_as_60 (tgt := 64) (by decide) ?_
      refine g_sub [0, 1] (lv' := [(0, g_r Y 59), (1, .int x1)]) rfl ?_
      exact t_X12_as_64 C E x1 1 M h
theorem r_X12_as_49 {p : Int32 × g_M} (x1 : Int32) (x2 : Int32) (x3 : Int32) (M : g_M) (h : f_X12_as_49 x1 x2 x3 M = some p) : g_fr [63] [] M p.2 := by
  unfold f_X12_as_49 at h
  have hf := g_fr.rfl (S := [63]) (T := []) (M := M)
  rcases g_ifs h with h | h
  · rcases g_ifs h with h | h
    · exact hf.trans (r_X12_as_64 x1 1 M h)
    · exact hf.trans (r_X12_as_63 x1 M h)
  · exact hf.trans (r_X12_as_63 x1 M h)
def f_X12_as (x1 : Int32) (x2 : Int32) (M : g_M) : Option (Int32 × g_M) :=
  (f_X12_isHanging x1 M).bind fun p1 => (if p1 = 0 then (f_X12_as_17 M) else ((f_X12_in x2 0 5 M).bind fun p3 => (if p3 = 0 then (f_X12_as_17 M) else ((f_X12_hang x1 0 M).bind fun p4 => (if x2 = 0 then (f_X12_as_64 x1 1 M) else ((if p4 = x2 then (f_X12_as_64 x1 1 M) else ((if p4 = 3 then ((if x2 = 2 then (f_X12_as_64 x1 1 M) else (f_X12_as_49 x1 x2 p4 M))) else (f_X12_as_49 x1 x2 p4 M))))))))))
set_option maxRecDepth 100000 in
theorem m_X12_as {l : Launch} {Y : g_Y} {x1 : Int32} {x2 : Int32} {M : g_M} {p : Int32 × g_M} (h : f_X12_as x1 x2 M = some p) : g_R l Y (2) yX12_as cX12_as 5 (some .int) [g_r Y 59, .int x1, .int x2] M (some (.int p.1)) p.2 := by
  unfold f_X12_as at h
  refine g_R_of kP_X12 rfl (Nat.le_of_ble_eq_true rfl) (fun X C E => ?_)
  show g_G 5 X Y 0 [(0, g_r Y 59), (1, .int x1), (2, .int x2)] [] M
  refine g_aload_n C 0 dX12_as_0 (q := 1) rfl rfl rfl ?_
  refine g_iload_n C 1 dX12_as_1 (q := 2) rfl rfl rfl ?_
  obtain ⟨p1, hp1, h⟩ := g_bind h
  refine g_callV C (k := 59) (as := [.int x1]) (st := []) (m_X12_isHanging hp1) (g_hR (by decide)) (by decide) (by decide) (gc_59 Y _ _) rfl kM_X12_242 kI_X12_isHanging kS_X12_isHanging kN_X12 kC_X12_isHanging kD_X12_isHanging rfl (Nat.le_of_ble_eq_true rfl) dX12_as_2 (q := 5) rfl ?_
  show g_G 5 X Y 5 [(0, g_r Y 59), (1, .int x1), (2, .int x2)] [.int p1] M
  have hif := g_if h
  clear h
  refine g_if_eq C dX12_as_5 (q := 8) (tgt := 17) rfl (by decide) (fun c => ?_) (fun c => ?_)
  · have h := hif.1 c
    clear hif
    refine g_sub [0] (lv' := [(0, g_r Y 59)]) rfl ?_
    exact t_X12_as_17 C E M h
  · have h := hif.2 c
    clear hif
    refine g_iload_n C 2 dX12_as_8 (q := 9) rfl rfl rfl ?_
    refine g_iconst C (v := 0) dX12_as_9 (q := 10) rfl (by decide) ?_
    refine g_iconst C (v := 5) dX12_as_10 (q := 11) rfl (by decide) ?_
    obtain ⟨p3, hp3, h⟩ := g_bind h
    refine g_callS C (as := [.int x2, .int 0, .int 5]) (st := []) (m_X12_in hp3) (g_hR (by decide)) (by decide) kM_X12_64 kT_X12_in kN_X12 kC_X12_in kD_X12_in rfl (Nat.le_of_ble_eq_true rfl) dX12_as_11 (q := 14) rfl ?_
    show g_G 5 X Y 14 [(0, g_r Y 59), (1, .int x1), (2, .int x2)] [.int p3] M
    have hif := g_if h
    clear h
    refine g_if_ne C dX12_as_14 (q := 17) (tgt := 23) rfl (by decide) (fun c => ?_) (fun c => ?_)
    · have h := hif.2 c
      clear hif
      refine g_aload_n C 0 dX12_as_23 (q := 24) rfl rfl rfl ?_
      refine g_iload_n C 1 dX12_as_24 (q := 25) rfl rfl rfl ?_
      refine g_iconst C (v := 0) dX12_as_25 (q := 26) rfl (by decide) ?_
      obtain ⟨p4, hp4, h⟩ := g_bind h
      refine g_callV C (k := 59) (as := [.int x1, .int 0]) (st := []) (m_X12_hang hp4) (g_hR (by decide)) (by decide) (by decide) (gc_59 Y _ _) rfl kM_X12_245 kI_X12_hang kS_X12_hang kN_X12 kC_X12_hang kD_X12_hang rfl (Nat.le_of_ble_eq_true rfl) dX12_as_26 (q := 29) rfl ?_
      show g_G 5 X Y 29 [(0, g_r Y 59), (1, .int x1), (2, .int x2)] [.int p4] M
      refine g_istore_n C dX12_as_29 (q := 30) rfl rfl (by decide) (lv' := [(3, .int p4), (0, g_r Y 59), (1, .int x1), (2, .int x2)]) rfl ?_
      refine g_iload_n C 3 dX12_as_30 (q := 31) rfl rfl rfl ?_
      have hif := g_if h
      clear h
      refine g_if_eq C dX12_as_31 (q := 34) (tgt := 59) rfl (by decide) (fun c => ?_) (fun c => ?_)
      · have h := hif.1 c
        clear hif
        refine g_iconst C (v := 1) dX12_as_59 (q := 60) rfl (by decide) ?_
        refine g_goto C dX12_as_60 (tgt := 64) (by decide) ?_
        refine g_sub [1, 2] (lv' := [(0, g_r Y 59), (1, .int x1)]) rfl ?_
        exact t_X12_as_64 C E x1 1 M h
      · have h := hif.2 c
        clear hif
        refine g_iload_n C 0 dX12_as_34 (q := 35) rfl rfl rfl ?_
        refine g_iload_n C 3 dX12_as_35 (q := 36) rfl rfl rfl ?_
        have hif := g_if h
        clear h
        refine g_icmp_eq C dX12_as_36 (q := 39) (tgt := 59) rfl (by decide) (fun c => ?_) (fun c => ?_)
        · have h := hif.1 c
          clear hif
          refine g_iconst C (v := 1) dX12_as_59 (q := 60) rfl (by decide) ?_
          refine g_goto C dX12_as_60 (tgt := 64) (by decide) ?_
          refine g_sub [1, 2] (lv' := [(0, g_r Y 59), (1, .int x1)]) rfl ?_
          exact t_X12_as_64 C E x1 1 M h
        · have h := hif.2 c
          clear hif
          refine g_iload_n C 0 dX12_as_39 (q := 40) rfl rfl rfl ?_
          refine g_iconst C (v := 3) dX12_as_40 (q := 41) rfl (by decide) ?_
          have hif := g_if h
          clear h
          refine g_icmp_ne C dX12_as_41 (q := 44) (tgt := 49) rfl (by decide) (fun c => ?_) (fun c => ?_)
          · have h := hif.2 c
            clear hif
            refine g_sub [1, 2, 3, 0] (lv' := [(0, g_r Y 59), (1, .int x1), (2, .int x2), (3, .int p4)]) rfl ?_
            exact t_X12_as_49 C E x1 x2 p4 M h
          · have h := hif.1 c
            clear hif
            refine g_iload_n C 3 dX12_as_44 (q := 45) rfl rfl rfl ?_
            refine g_iconst C (v := 2) dX12_as_45 (q := 46) rfl (by decide) ?_
            have hif := g_if h
            clear h
            refine g_icmp_eq C dX12_as_46 (q := 49) (tgt := 59) rfl (by decide) (fun c => ?_) (fun c => ?_)
            · have h := hif.1 c
              clear hif
              refine g_iconst C (v := 1) dX12_as_59 (q := 60) rfl (by decide) ?_
              refine g_goto C dX12_as_60 (tgt := 64) (by decide) ?_
              refine g_sub [1, 2] (lv' := [(0, g_r Y 59), (1, .int x1)]) rfl ?_
              exact t_X12_as_64 C E x1 1 M h
            · have h := hif.2 c
              clear hif
              refine g_sub [1, 2, 3, 0] (lv' := [(0, g_r Y 59), (1, .int x1), (2, .int x2), (3, .int p4)]) rfl ?_
              exact t_X12_as_49 C E x1 x2 p4 M h
    · have h := hif.1 c
      clear hif
      refine g_sub [0] (lv' := [(0, g_r Y 59)]) rfl ?_
      exact t_X12_as_17 C E M h
theorem r_X12_as {x1 : Int32} {x2 : Int32} {M : g_M} {p : Int32 × g_M} (h : f_X12_as x1 x2 M = some p) : g_fr [63] [] M p.2 := by
  unfold f_X12_as at h
  have hf := g_fr.rfl (S := [63]) (T := []) (M := M)
  obtain ⟨p1, -, h⟩ := g_bind h
  rcases g_ifs h with h | h
  · exact hf.trans (r_X12_as_17 M h)
  · obtain ⟨p3, -, h⟩ := g_bind h
    rcases g_ifs h with h | h
    · exact hf.trans (r_X12_as_17 M h)
    · obtain ⟨p4, -, h⟩ := g_bind h
      rcases g_ifs h with h | h
      · exact hf.trans (r_X12_as_64 x1 1 M h)
      · rcases g_ifs h with h | h
        · exact hf.trans (r_X12_as_64 x1 1 M h)
        · rcases g_ifs h with h | h
          · rcases g_ifs h with h | h
            · exact hf.trans (r_X12_as_64 x1 1 M h)
            · exact hf.trans (r_X12_as_49 x1 x2 p4 M h)
          · exact hf.trans (r_X12_as_49 x1 x2 p4 M h)
def f_X12_key_15 (M : g_M) : Option (Int32 × g_M) :=
  (f_X12_finding 0 M).bind fun p2 => some (p2.1, p2.2)
set_option maxRecDepth 100000 in
theorem t_X12_key_15 {l : Launch} {X : g_X} {Y : g_Y} {p : Int32 × g_M} (C : g_C l (g_rm (2)) RX12 cX12_key 5 X Y) (E : g_E (some .int) X Y (some (.int p.1)) p.2) (M : g_M) (h : f_X12_key_15 M = some p) : g_G 5 X Y 15 [(0, g_r Y 59)] [] M := by
  unfold f_X12_key_15 at h
  refine g_aload_n C 0 dX12_key_15 (q := 16) rfl rfl rfl ?_
  refine g_iconst C (v := 0) dX12_key_16 (q := 17) rfl (by decide) ?_
  obtain ⟨p2, hp2, h⟩ := g_bind h
  refine g_callV C (k := 59) (as := [.int 0]) (st := []) (m_X12_finding hp2) (g_hR (by decide)) (by decide) (by decide) (gc_59 Y _ _) rfl kM_X12_190 kI_X12_finding kS_X12_finding kN_X12 kC_X12_finding kD_X12_finding rfl (Nat.le_of_ble_eq_true rfl) dX12_key_17 (q := 20) rfl ?_
  show g_G 5 X Y 20 [(0, g_r Y 59)] [.int p2.1] p2.2
  obtain rfl := Option.some.inj h
  exact g_iret C E dX12_key_20
theorem r_X12_key_15 {p : Int32 × g_M} (M : g_M) (h : f_X12_key_15 M = some p) : g_fr [60, 63] [] M p.2 := by
  unfold f_X12_key_15 at h
  have hf := g_fr.rfl (S := [60, 63]) (T := []) (M := M)
  obtain ⟨p2, hp2, h⟩ := g_bind h
  have hf := hf.trans ((r_X12_finding hp2).mono (by decide) (by decide))
  obtain rfl := Option.some.inj h
  exact hf
def f_X12_key_61 (x1 : Int32) (x4 : Int32) (s0 : Int32) (s1 : Int32) (M : g_M) : Option (Int32 × g_M) :=
  (g_st M 60 1208 s1 s0).bind fun M5 => (g_ld M5 60 1208 (30 + x1)).bind fun v6 => (if x4 = v6 then (some (0, M5)) else (some (1, M5)))
set_option maxRecDepth 100000 in
theorem t_X12_key_61 {l : Launch} {X : g_X} {Y : g_Y} {p : Int32 × g_M} (C : g_C l (g_rm (2)) RX12 cX12_key 5 X Y) (E : g_E (some .int) X Y (some (.int p.1)) p.2) (x1 : Int32) (x4 : Int32) (s0 : Int32) (s1 : Int32) (M : g_M) (h : f_X12_key_61 x1 x4 s0 s1 M = some p) : g_G 5 X Y 61 [(0, g_r Y 59), (1, .int x1), (4, .int x4)] [.int s0, .int s1, g_r Y 60] M := by
  unfold f_X12_key_61 at h
  obtain ⟨M5, hM5, h⟩ := g_bind h
  refine g_iast C (k := 60) (n := 1208) (by decide) (fun a => gc_60 Y a _) hM5 dX12_key_61 (q := 62) rfl ?_
  refine g_iload C 2 dX12_key_62 (q := 64) rfl rfl ?_
  refine g_aload_n C 0 dX12_key_64 (q := 65) rfl rfl rfl ?_
  refine g_get C (k := 59) (i := 0) (by decide) (gc_59 Y _ _) rfl kU_X12 (by decide) kF_X12_7 rfl dX12_key_65 (q := 68) rfl ?_
  refine g_bipush C (v := 30) dX12_key_68 (q := 70) rfl (by decide) ?_
  refine g_iload_n C 1 dX12_key_70 (q := 71) rfl rfl rfl ?_
  refine g_iadd C dX12_key_71 (q := 72) rfl ?_
  obtain ⟨v6, hv6, h⟩ := g_bind h
  refine g_iald C (k := 60) (n := 1208) (by decide) (gc_60 Y _ _) hv6 dX12_key_72 (q := 73) rfl ?_
  have hif := g_if h
  clear h
  refine g_icmp_ne C dX12_key_73 (q := 76) (tgt := 80) rfl (by decide) (fun c => ?_) (fun c => ?_)
  · have h := hif.2 c
    clear hif
    refine g_iconst C (v := 1) dX12_key_80 (q := 81) rfl (by decide) ?_
    obtain rfl := Option.some.inj h
    exact g_iret C E dX12_key_81
  · have h := hif.1 c
    clear hif
    refine g_iconst C (v := 0) dX12_key_76 (q := 77) rfl (by decide) ?_
    refine g_goto C dX12_key_77 (tgt := 81) (by decide) ?_
    obtain rfl := Option.some.inj h
    exact g_iret C E dX12_key_81
theorem r_X12_key_61 {p : Int32 × g_M} (x1 : Int32) (x4 : Int32) (s0 : Int32) (s1 : Int32) (M : g_M) (h : f_X12_key_61 x1 x4 s0 s1 M = some p) : g_fr [60, 63] [] M p.2 := by
  unfold f_X12_key_61 at h
  have hf := g_fr.rfl (S := [60, 63]) (T := []) (M := M)
  obtain ⟨M5, hM5, h⟩ := g_bind h
  have hf := hf.st hM5 (by decide)
  obtain ⟨v6, -, h⟩ := g_bind h
  rcases g_ifs h with h | h
  · obtain rfl := Option.some.inj h
    exact hf
  · obtain rfl := Option.some.inj h
    exact hf
def f_X12_key (x1 : Int32) (x2 : Int32) (x3 : Int32) (M : g_M) : Option (Int32 × g_M) :=
  (f_X12_isElder x1 M).bind fun p1 => (if p1 = 0 then (f_X12_key_15 M) else ((f_X12_isKey x2 M).bind fun p3 => (if p3 = 0 then (f_X12_key_15 M) else ((g_ld M 60 1208 (30 + x1)).bind fun v4 => (if x3 = 0 then (f_X12_key_61 x1 v4 (v4 &&& (((1 : Int32) <<< (x2 &&& 31)) ^^^ (-1))) (30 + x1) M) else (f_X12_key_61 x1 v4 (v4 ||| ((1 : Int32) <<< (x2 &&& 31))) (30 + x1) M))))))
set_option maxRecDepth 100000 in
theorem m_X12_key {l : Launch} {Y : g_Y} {x1 : Int32} {x2 : Int32} {x3 : Int32} {M : g_M} {p : Int32 × g_M} (h : f_X12_key x1 x2 x3 M = some p) : g_R l Y (2) yX12_key cX12_key 5 (some .int) [g_r Y 59, .int x1, .int x2, .int x3] M (some (.int p.1)) p.2 := by
  unfold f_X12_key at h
  refine g_R_of kP_X12 rfl (Nat.le_of_ble_eq_true rfl) (fun X C E => ?_)
  show g_G 5 X Y 0 [(0, g_r Y 59), (1, .int x1), (2, .int x2), (3, .int x3)] [] M
  refine g_aload_n C 0 dX12_key_0 (q := 1) rfl rfl rfl ?_
  refine g_iload_n C 1 dX12_key_1 (q := 2) rfl rfl rfl ?_
  obtain ⟨p1, hp1, h⟩ := g_bind h
  refine g_callV C (k := 59) (as := [.int x1]) (st := []) (m_X12_isElder hp1) (g_hR (by decide)) (by decide) (by decide) (gc_59 Y _ _) rfl kM_X12_193 kI_X12_isElder kS_X12_isElder kN_X12 kC_X12_isElder kD_X12_isElder rfl (Nat.le_of_ble_eq_true rfl) dX12_key_2 (q := 5) rfl ?_
  show g_G 5 X Y 5 [(0, g_r Y 59), (1, .int x1), (2, .int x2), (3, .int x3)] [.int p1] M
  have hif := g_if h
  clear h
  refine g_if_eq C dX12_key_5 (q := 8) (tgt := 15) rfl (by decide) (fun c => ?_) (fun c => ?_)
  · have h := hif.1 c
    clear hif
    refine g_sub [0] (lv' := [(0, g_r Y 59)]) rfl ?_
    exact t_X12_key_15 C E M h
  · have h := hif.2 c
    clear hif
    refine g_iload_n C 2 dX12_key_8 (q := 9) rfl rfl rfl ?_
    obtain ⟨p3, hp3, h⟩ := g_bind h
    refine g_callS C (as := [.int x2]) (st := []) (m_X12_isKey hp3) (g_hR (by decide)) (by decide) kM_X12_235 kT_X12_isKey kN_X12 kC_X12_isKey kD_X12_isKey rfl (Nat.le_of_ble_eq_true rfl) dX12_key_9 (q := 12) rfl ?_
    show g_G 5 X Y 12 [(0, g_r Y 59), (1, .int x1), (2, .int x2), (3, .int x3)] [.int p3] M
    have hif := g_if h
    clear h
    refine g_if_ne C dX12_key_12 (q := 15) (tgt := 21) rfl (by decide) (fun c => ?_) (fun c => ?_)
    · have h := hif.2 c
      clear hif
      refine g_aload_n C 0 dX12_key_21 (q := 22) rfl rfl rfl ?_
      refine g_get C (k := 59) (i := 0) (by decide) (gc_59 Y _ _) rfl kU_X12 (by decide) kF_X12_7 rfl dX12_key_22 (q := 25) rfl ?_
      refine g_bipush C (v := 30) dX12_key_25 (q := 27) rfl (by decide) ?_
      refine g_iload_n C 1 dX12_key_27 (q := 28) rfl rfl rfl ?_
      refine g_iadd C dX12_key_28 (q := 29) rfl ?_
      obtain ⟨v4, hv4, h⟩ := g_bind h
      refine g_iald C (k := 60) (n := 1208) (by decide) (gc_60 Y _ _) hv4 dX12_key_29 (q := 30) rfl ?_
      refine g_istore C dX12_key_30 (q := 32) rfl (by decide) (lv' := [(4, .int v4), (0, g_r Y 59), (1, .int x1), (2, .int x2), (3, .int x3)]) rfl ?_
      refine g_aload_n C 1 dX12_key_32 (q := 33) rfl rfl rfl ?_
      refine g_get C (k := 59) (i := 0) (by decide) (gc_59 Y _ _) rfl kU_X12 (by decide) kF_X12_7 rfl dX12_key_33 (q := 36) rfl ?_
      refine g_bipush C (v := 30) dX12_key_36 (q := 38) rfl (by decide) ?_
      refine g_iload_n C 2 dX12_key_38 (q := 39) rfl rfl rfl ?_
      refine g_iadd C dX12_key_39 (q := 40) rfl ?_
      refine g_iload_n C 4 dX12_key_40 (q := 41) rfl rfl rfl ?_
      have hif := g_if h
      clear h
      refine g_if_eq C dX12_key_41 (q := 44) (tgt := 53) rfl (by decide) (fun c => ?_) (fun c => ?_)
      · have h := hif.1 c
        clear hif
        refine g_iload C 0 dX12_key_53 (q := 55) rfl rfl ?_
        refine g_iconst C (v := 1) dX12_key_55 (q := 56) rfl (by decide) ?_
        refine g_iload_n C 3 dX12_key_56 (q := 57) rfl rfl rfl ?_
        refine g_ishl C dX12_key_57 (q := 58) rfl ?_
        refine g_iconst C (v := (-1)) dX12_key_58 (q := 59) rfl (by decide) ?_
        refine g_ixor C dX12_key_59 (q := 60) rfl ?_
        refine g_iand C dX12_key_60 (q := 61) rfl ?_
        refine g_sub [1, 2, 0] (lv' := [(0, g_r Y 59), (1, .int x1), (4, .int v4)]) rfl ?_
        exact t_X12_key_61 C E x1 v4 (v4 &&& (((1 : Int32) <<< (x2 &&& 31)) ^^^ (-1))) (30 + x1) M h
      · have h := hif.2 c
        clear hif
        refine g_iload C 0 dX12_key_44 (q := 46) rfl rfl ?_
        refine g_iconst C (v := 1) dX12_key_46 (q := 47) rfl (by decide) ?_
        refine g_iload_n C 3 dX12_key_47 (q := 48) rfl rfl rfl ?_
        refine g_ishl C dX12_key_48 (q := 49) rfl ?_
        refine g_ior C dX12_key_49 (q := 50) rfl ?_
        refine g_goto C dX12_key_50 (tgt := 61) (by decide) ?_
        refine g_sub [1, 2, 0] (lv' := [(0, g_r Y 59), (1, .int x1), (4, .int v4)]) rfl ?_
        exact t_X12_key_61 C E x1 v4 (v4 ||| ((1 : Int32) <<< (x2 &&& 31))) (30 + x1) M h
    · have h := hif.1 c
      clear hif
      refine g_sub [0] (lv' := [(0, g_r Y 59)]) rfl ?_
      exact t_X12_key_15 C E M h
theorem r_X12_key {x1 : Int32} {x2 : Int32} {x3 : Int32} {M : g_M} {p : Int32 × g_M} (h : f_X12_key x1 x2 x3 M = some p) : g_fr [60, 63] [] M p.2 := by
  unfold f_X12_key at h
  have hf := g_fr.rfl (S := [60, 63]) (T := []) (M := M)
  obtain ⟨p1, -, h⟩ := g_bind h
  rcases g_ifs h with h | h
  · exact hf.trans (r_X12_key_15 M h)
  · obtain ⟨p3, -, h⟩ := g_bind h
    rcases g_ifs h with h | h
    · exact hf.trans (r_X12_key_15 M h)
    · obtain ⟨v4, -, h⟩ := g_bind h
      rcases g_ifs h with h | h
      · exact hf.trans (r_X12_key_61 x1 v4 (v4 &&& (((1 : Int32) <<< (x2 &&& 31)) ^^^ (-1))) (30 + x1) M h)
      · exact hf.trans (r_X12_key_61 x1 v4 (v4 ||| ((1 : Int32) <<< (x2 &&& 31))) (30 + x1) M h)
def f_X12_lend_28 (M : g_M) : Option (Int32 × g_M) :=
  (f_X12_finding 0 M).bind fun p2 => some (p2.1, p2.2)
set_option maxRecDepth 100000 in
theorem t_X12_lend_28 {l : Launch} {X : g_X} {Y : g_Y} {p : Int32 × g_M} (C : g_C l (g_rm (2)) RX12 cX12_lend 4 X Y) (E : g_E (some .int) X Y (some (.int p.1)) p.2) (M : g_M) (h : f_X12_lend_28 M = some p) : g_G 4 X Y 28 [(0, g_r Y 59)] [] M := by
  unfold f_X12_lend_28 at h
  refine g_aload_n C 0 dX12_lend_28 (q := 29) rfl rfl rfl ?_
  refine g_iconst C (v := 0) dX12_lend_29 (q := 30) rfl (by decide) ?_
  obtain ⟨p2, hp2, h⟩ := g_bind h
  refine g_callV C (k := 59) (as := [.int 0]) (st := []) (m_X12_finding hp2) (g_hR (by decide)) (by decide) (by decide) (gc_59 Y _ _) rfl kM_X12_190 kI_X12_finding kS_X12_finding kN_X12 kC_X12_finding kD_X12_finding rfl (Nat.le_of_ble_eq_true rfl) dX12_lend_30 (q := 33) rfl ?_
  show g_G 4 X Y 33 [(0, g_r Y 59)] [.int p2.1] p2.2
  obtain rfl := Option.some.inj h
  exact g_iret C E dX12_lend_33
theorem r_X12_lend_28 {p : Int32 × g_M} (M : g_M) (h : f_X12_lend_28 M = some p) : g_fr [60, 63] [] M p.2 := by
  unfold f_X12_lend_28 at h
  have hf := g_fr.rfl (S := [60, 63]) (T := []) (M := M)
  obtain ⟨p2, hp2, h⟩ := g_bind h
  have hf := hf.trans ((r_X12_finding hp2).mono (by decide) (by decide))
  obtain rfl := Option.some.inj h
  exact hf
def f_X12_lend (x1 : Int32) (x2 : Int32) (x3 : Int32) (M : g_M) : Option (Int32 × g_M) :=
  (f_X12_isElder x1 M).bind fun p1 => (if p1 = 0 then (f_X12_lend_28 M) else ((f_X12_isElder x2 M).bind fun p3 => (if p3 = 0 then (f_X12_lend_28 M) else ((if x1 = x2 then (f_X12_lend_28 M) else ((f_X12_isKey x3 M).bind fun p4 => (if p4 = 0 then (f_X12_lend_28 M) else ((g_ld M 60 1208 (30 + x1)).bind fun v5 => (if ((v5 >>> (x3 &&& 31)) &&& 1) = 0 then ((f_X12_finding 3 M).bind fun p15 => some (p15.1, p15.2)) else ((g_ld M 60 1208 4).bind fun v6 => (if v6 = 20 then ((f_X12_finding 1 M).bind fun p14 => some (p14.1, p14.2)) else ((g_ld M 60 1208 4).bind fun v7 => (g_st M 60 1208 (200 + (2 * v7)) x2).bind fun M8 => (g_ld M8 60 1208 4).bind fun v9 => (g_st M8 60 1208 ((200 + (2 * v9)) + 1) x3).bind fun M10 => (g_ld M10 60 1208 4).bind fun v11 => (g_st M10 60 1208 4 (v11 + 1)).bind fun M12 => (g_ld M12 60 1208 4).bind fun v13 => some (v13, M12)))))))))))))
set_option maxRecDepth 100000 in
theorem m_X12_lend {l : Launch} {Y : g_Y} {x1 : Int32} {x2 : Int32} {x3 : Int32} {M : g_M} {p : Int32 × g_M} (h : f_X12_lend x1 x2 x3 M = some p) : g_R l Y (2) yX12_lend cX12_lend 4 (some .int) [g_r Y 59, .int x1, .int x2, .int x3] M (some (.int p.1)) p.2 := by
  unfold f_X12_lend at h
  refine g_R_of kP_X12 rfl (Nat.le_of_ble_eq_true rfl) (fun X C E => ?_)
  show g_G 4 X Y 0 [(0, g_r Y 59), (1, .int x1), (2, .int x2), (3, .int x3)] [] M
  refine g_aload_n C 0 dX12_lend_0 (q := 1) rfl rfl rfl ?_
  refine g_iload_n C 1 dX12_lend_1 (q := 2) rfl rfl rfl ?_
  obtain ⟨p1, hp1, h⟩ := g_bind h
  refine g_callV C (k := 59) (as := [.int x1]) (st := []) (m_X12_isElder hp1) (g_hR (by decide)) (by decide) (by decide) (gc_59 Y _ _) rfl kM_X12_193 kI_X12_isElder kS_X12_isElder kN_X12 kC_X12_isElder kD_X12_isElder rfl (Nat.le_of_ble_eq_true rfl) dX12_lend_2 (q := 5) rfl ?_
  show g_G 4 X Y 5 [(0, g_r Y 59), (1, .int x1), (2, .int x2), (3, .int x3)] [.int p1] M
  have hif := g_if h
  clear h
  refine g_if_eq C dX12_lend_5 (q := 8) (tgt := 28) rfl (by decide) (fun c => ?_) (fun c => ?_)
  · have h := hif.1 c
    clear hif
    refine g_sub [0] (lv' := [(0, g_r Y 59)]) rfl ?_
    exact t_X12_lend_28 C E M h
  · have h := hif.2 c
    clear hif
    refine g_aload_n C 0 dX12_lend_8 (q := 9) rfl rfl rfl ?_
    refine g_iload_n C 2 dX12_lend_9 (q := 10) rfl rfl rfl ?_
    obtain ⟨p3, hp3, h⟩ := g_bind h
    refine g_callV C (k := 59) (as := [.int x2]) (st := []) (m_X12_isElder hp3) (g_hR (by decide)) (by decide) (by decide) (gc_59 Y _ _) rfl kM_X12_193 kI_X12_isElder kS_X12_isElder kN_X12 kC_X12_isElder kD_X12_isElder rfl (Nat.le_of_ble_eq_true rfl) dX12_lend_10 (q := 13) rfl ?_
    show g_G 4 X Y 13 [(0, g_r Y 59), (1, .int x1), (2, .int x2), (3, .int x3)] [.int p3] M
    have hif := g_if h
    clear h
    refine g_if_eq C dX12_lend_13 (q := 16) (tgt := 28) rfl (by decide) (fun c => ?_) (fun c => ?_)
    · have h := hif.1 c
      clear hif
      refine g_sub [0] (lv' := [(0, g_r Y 59)]) rfl ?_
      exact t_X12_lend_28 C E M h
    · have h := hif.2 c
      clear hif
      refine g_iload_n C 1 dX12_lend_16 (q := 17) rfl rfl rfl ?_
      refine g_iload_n C 2 dX12_lend_17 (q := 18) rfl rfl rfl ?_
      have hif := g_if h
      clear h
      refine g_icmp_eq C dX12_lend_18 (q := 21) (tgt := 28) rfl (by decide) (fun c => ?_) (fun c => ?_)
      · have h := hif.1 c
        clear hif
        refine g_sub [0] (lv' := [(0, g_r Y 59)]) rfl ?_
        exact t_X12_lend_28 C E M h
      · have h := hif.2 c
        clear hif
        refine g_iload_n C 3 dX12_lend_21 (q := 22) rfl rfl rfl ?_
        obtain ⟨p4, hp4, h⟩ := g_bind h
        refine g_callS C (as := [.int x3]) (st := []) (m_X12_isKey hp4) (g_hR (by decide)) (by decide) kM_X12_235 kT_X12_isKey kN_X12 kC_X12_isKey kD_X12_isKey rfl (Nat.le_of_ble_eq_true rfl) dX12_lend_22 (q := 25) rfl ?_
        show g_G 4 X Y 25 [(0, g_r Y 59), (1, .int x1), (2, .int x2), (3, .int x3)] [.int p4] M
        have hif := g_if h
        clear h
        refine g_if_ne C dX12_lend_25 (q := 28) (tgt := 34) rfl (by decide) (fun c => ?_) (fun c => ?_)
        · have h := hif.2 c
          clear hif
          refine g_aload_n C 0 dX12_lend_34 (q := 35) rfl rfl rfl ?_
          refine g_get C (k := 59) (i := 0) (by decide) (gc_59 Y _ _) rfl kU_X12 (by decide) kF_X12_7 rfl dX12_lend_35 (q := 38) rfl ?_
          refine g_bipush C (v := 30) dX12_lend_38 (q := 40) rfl (by decide) ?_
          refine g_iload_n C 1 dX12_lend_40 (q := 41) rfl rfl rfl ?_
          refine g_iadd C dX12_lend_41 (q := 42) rfl ?_
          obtain ⟨v5, hv5, h⟩ := g_bind h
          refine g_iald C (k := 60) (n := 1208) (by decide) (gc_60 Y _ _) hv5 dX12_lend_42 (q := 43) rfl ?_
          refine g_iload_n C 3 dX12_lend_43 (q := 44) rfl rfl rfl ?_
          refine g_ishr C dX12_lend_44 (q := 45) rfl ?_
          refine g_iconst C (v := 1) dX12_lend_45 (q := 46) rfl (by decide) ?_
          refine g_iand C dX12_lend_46 (q := 47) rfl ?_
          have hif := g_if h
          clear h
          refine g_if_ne C dX12_lend_47 (q := 50) (tgt := 56) rfl (by decide) (fun c => ?_) (fun c => ?_)
          · have h := hif.2 c
            clear hif
            refine g_aload_n C 0 dX12_lend_56 (q := 57) rfl rfl rfl ?_
            refine g_get C (k := 59) (i := 0) (by decide) (gc_59 Y _ _) rfl kU_X12 (by decide) kF_X12_7 rfl dX12_lend_57 (q := 60) rfl ?_
            refine g_iconst C (v := 4) dX12_lend_60 (q := 61) rfl (by decide) ?_
            obtain ⟨v6, hv6, h⟩ := g_bind h
            refine g_iald C (k := 60) (n := 1208) (by decide) (gc_60 Y _ _) hv6 dX12_lend_61 (q := 62) rfl ?_
            refine g_bipush C (v := 20) dX12_lend_62 (q := 64) rfl (by decide) ?_
            have hif := g_if h
            clear h
            refine g_icmp_ne C dX12_lend_64 (q := 67) (tgt := 73) rfl (by decide) (fun c => ?_) (fun c => ?_)
            · have h := hif.2 c
              clear hif
              refine g_aload_n C 0 dX12_lend_73 (q := 74) rfl rfl rfl ?_
              refine g_get C (k := 59) (i := 0) (by decide) (gc_59 Y _ _) rfl kU_X12 (by decide) kF_X12_7 rfl dX12_lend_74 (q := 77) rfl ?_
              refine g_sipush C (v := 200) dX12_lend_77 (q := 80) rfl (by decide) ?_
              refine g_iconst C (v := 2) dX12_lend_80 (q := 81) rfl (by decide) ?_
              refine g_aload_n C 0 dX12_lend_81 (q := 82) rfl rfl rfl ?_
              refine g_get C (k := 59) (i := 0) (by decide) (gc_59 Y _ _) rfl kU_X12 (by decide) kF_X12_7 rfl dX12_lend_82 (q := 85) rfl ?_
              refine g_iconst C (v := 4) dX12_lend_85 (q := 86) rfl (by decide) ?_
              obtain ⟨v7, hv7, h⟩ := g_bind h
              refine g_iald C (k := 60) (n := 1208) (by decide) (gc_60 Y _ _) hv7 dX12_lend_86 (q := 87) rfl ?_
              refine g_imul C dX12_lend_87 (q := 88) rfl ?_
              refine g_iadd C dX12_lend_88 (q := 89) rfl ?_
              refine g_iload_n C 2 dX12_lend_89 (q := 90) rfl rfl rfl ?_
              obtain ⟨M8, hM8, h⟩ := g_bind h
              refine g_iast C (k := 60) (n := 1208) (by decide) (fun a => gc_60 Y a _) hM8 dX12_lend_90 (q := 91) rfl ?_
              refine g_aload_n C 0 dX12_lend_91 (q := 92) rfl rfl rfl ?_
              refine g_get C (k := 59) (i := 0) (by decide) (gc_59 Y _ _) rfl kU_X12 (by decide) kF_X12_7 rfl dX12_lend_92 (q := 95) rfl ?_
              refine g_sipush C (v := 200) dX12_lend_95 (q := 98) rfl (by decide) ?_
              refine g_iconst C (v := 2) dX12_lend_98 (q := 99) rfl (by decide) ?_
              refine g_aload_n C 0 dX12_lend_99 (q := 100) rfl rfl rfl ?_
              refine g_get C (k := 59) (i := 0) (by decide) (gc_59 Y _ _) rfl kU_X12 (by decide) kF_X12_7 rfl dX12_lend_100 (q := 103) rfl ?_
              refine g_iconst C (v := 4) dX12_lend_103 (q := 104) rfl (by decide) ?_
              obtain ⟨v9, hv9, h⟩ := g_bind h
              refine g_iald C (k := 60) (n := 1208) (by decide) (gc_60 Y _ _) hv9 dX12_lend_104 (q := 105) rfl ?_
              refine g_imul C dX12_lend_105 (q := 106) rfl ?_
              refine g_iadd C dX12_lend_106 (q := 107) rfl ?_
              refine g_iconst C (v := 1) dX12_lend_107 (q := 108) rfl (by decide) ?_
              refine g_iadd C dX12_lend_108 (q := 109) rfl ?_
              refine g_iload_n C 3 dX12_lend_109 (q := 110) rfl rfl rfl ?_
              obtain ⟨M10, hM10, h⟩ := g_bind h
              refine g_iast C (k := 60) (n := 1208) (by decide) (fun a => gc_60 Y a _) hM10 dX12_lend_110 (q := 111) rfl ?_
              refine g_aload_n C 0 dX12_lend_111 (q := 112) rfl rfl rfl ?_
              refine g_get C (k := 59) (i := 0) (by decide) (gc_59 Y _ _) rfl kU_X12 (by decide) kF_X12_7 rfl dX12_lend_112 (q := 115) rfl ?_
              refine g_iconst C (v := 4) dX12_lend_115 (q := 116) rfl (by decide) ?_
              refine g_dup2 C dX12_lend_116 (q := 117) rfl rfl rfl ?_
              obtain ⟨v11, hv11, h⟩ := g_bind h
              refine g_iald C (k := 60) (n := 1208) (by decide) (gc_60 Y _ _) hv11 dX12_lend_117 (q := 118) rfl ?_
              refine g_iconst C (v := 1) dX12_lend_118 (q := 119) rfl (by decide) ?_
              refine g_iadd C dX12_lend_119 (q := 120) rfl ?_
              obtain ⟨M12, hM12, h⟩ := g_bind h
              refine g_iast C (k := 60) (n := 1208) (by decide) (fun a => gc_60 Y a _) hM12 dX12_lend_120 (q := 121) rfl ?_
              refine g_aload_n C 0 dX12_lend_121 (q := 122) rfl rfl rfl ?_
              refine g_get C (k := 59) (i := 0) (by decide) (gc_59 Y _ _) rfl kU_X12 (by decide) kF_X12_7 rfl dX12_lend_122 (q := 125) rfl ?_
              refine g_iconst C (v := 4) dX12_lend_125 (q := 126) rfl (by decide) ?_
              obtain ⟨v13, hv13, h⟩ := g_bind h
              refine g_iald C (k := 60) (n := 1208) (by decide) (gc_60 Y _ _) hv13 dX12_lend_126 (q := 127) rfl ?_
              obtain rfl := Option.some.inj h
              exact g_iret C E dX12_lend_127
            · have h := hif.1 c
              clear hif
              refine g_aload_n C 0 dX12_lend_67 (q := 68) rfl rfl rfl ?_
              refine g_iconst C (v := 1) dX12_lend_68 (q := 69) rfl (by decide) ?_
              obtain ⟨p14, hp14, h⟩ := g_bind h
              refine g_callV C (k := 59) (as := [.int 1]) (st := []) (m_X12_finding hp14) (g_hR (by decide)) (by decide) (by decide) (gc_59 Y _ _) rfl kM_X12_190 kI_X12_finding kS_X12_finding kN_X12 kC_X12_finding kD_X12_finding rfl (Nat.le_of_ble_eq_true rfl) dX12_lend_69 (q := 72) rfl ?_
              show g_G 4 X Y 72 [(0, g_r Y 59), (1, .int x1), (2, .int x2), (3, .int x3)] [.int p14.1] p14.2
              obtain rfl := Option.some.inj h
              exact g_iret C E dX12_lend_72
          · have h := hif.1 c
            clear hif
            refine g_aload_n C 0 dX12_lend_50 (q := 51) rfl rfl rfl ?_
            refine g_iconst C (v := 3) dX12_lend_51 (q := 52) rfl (by decide) ?_
            obtain ⟨p15, hp15, h⟩ := g_bind h
            refine g_callV C (k := 59) (as := [.int 3]) (st := []) (m_X12_finding hp15) (g_hR (by decide)) (by decide) (by decide) (gc_59 Y _ _) rfl kM_X12_190 kI_X12_finding kS_X12_finding kN_X12 kC_X12_finding kD_X12_finding rfl (Nat.le_of_ble_eq_true rfl) dX12_lend_52 (q := 55) rfl ?_
            show g_G 4 X Y 55 [(0, g_r Y 59), (1, .int x1), (2, .int x2), (3, .int x3)] [.int p15.1] p15.2
            obtain rfl := Option.some.inj h
            exact g_iret C E dX12_lend_55
        · have h := hif.1 c
          clear hif
          refine g_sub [0] (lv' := [(0, g_r Y 59)]) rfl ?_
          exact t_X12_lend_28 C E M h
theorem r_X12_lend {x1 : Int32} {x2 : Int32} {x3 : Int32} {M : g_M} {p : Int32 × g_M} (h : f_X12_lend x1 x2 x3 M = some p) : g_fr [60, 63] [] M p.2 := by
  unfold f_X12_lend at h
  have hf := g_fr.rfl (S := [60, 63]) (T := []) (M := M)
  obtain ⟨p1, -, h⟩ := g_bind h
  rcases g_ifs h with h | h
  · exact hf.trans (r_X12_lend_28 M h)
  · obtain ⟨p3, -, h⟩ := g_bind h
    rcases g_ifs h with h | h
    · exact hf.trans (r_X12_lend_28 M h)
    · rcases g_ifs h with h | h
      · exact hf.trans (r_X12_lend_28 M h)
      · obtain ⟨p4, -, h⟩ := g_bind h
        rcases g_ifs h with h | h
        · exact hf.trans (r_X12_lend_28 M h)
        · obtain ⟨v5, -, h⟩ := g_bind h
          rcases g_ifs h with h | h
          · obtain ⟨p15, hp15, h⟩ := g_bind h
            have hf := hf.trans ((r_X12_finding hp15).mono (by decide) (by decide))
            obtain rfl := Option.some.inj h
            exact hf
          · obtain ⟨v6, -, h⟩ := g_bind h
            rcases g_ifs h with h | h
            · obtain ⟨p14, hp14, h⟩ := g_bind h
              have hf := hf.trans ((r_X12_finding hp14).mono (by decide) (by decide))
              obtain rfl := Option.some.inj h
              exact hf
            · obtain ⟨v7, -, h⟩ := g_bind h
              obtain ⟨M8, hM8, h⟩ := g_bind h
              have hf := hf.st hM8 (by decide)
              obtain ⟨v9, -, h⟩ := g_bind h
              obtain ⟨M10, hM10, h⟩ := g_bind h
              have hf := hf.st hM10 (by decide)
              obtain ⟨v11, -, h⟩ := g_bind h
              obtain ⟨M12, hM12, h⟩ := g_bind h
              have hf := hf.st hM12 (by decide)
              obtain ⟨v13, -, h⟩ := g_bind h
              obtain rfl := Option.some.inj h
              exact hf
def f_X12_opensWith_111 (k : Int32 → Int32 → g_M → Option (g_M)) (x1 : Int32) (x2 : Int32) (s0 : Int32) (s1 : Int32) (s2 : Int32) (M : g_M) : Option (g_M) :=
  (if ((s1 >>> (s0 &&& 31)) &&& 1) = 1 then ((g_bz 1).bind fun z33 => (g_st M 68 40 s2 z33).bind fun M32 => k x1 (x2 + 1) M32) else ((g_bz 0).bind fun z31 => (g_st M 68 40 s2 z31).bind fun M30 => k x1 (x2 + 1) M30))
set_option maxRecDepth 100000 in
theorem t_X12_opensWith_111 {l : Launch} {X : g_X} {Y : g_Y} {p : g_M} {k : Int32 → Int32 → g_M → Option (g_M)} (C : g_C l (g_rm (1)) RX12 cX12_opensWith 4 X Y) (E : g_E none X Y none p) (ih : ∀ (x1 : Int32) (x2 : Int32) (M : g_M), k x1 x2 M = some p → g_G 4 X Y 2 [(0, g_r Y 59), (1, .int x1), (2, .int x2)] [] M) (x1 : Int32) (x2 : Int32) (s0 : Int32) (s1 : Int32) (s2 : Int32) (M : g_M) (h : f_X12_opensWith_111 k x1 x2 s0 s1 s2 M = some p) : g_G 4 X Y 111 [(0, g_r Y 59), (1, .int x1), (2, .int x2)] [.int s0, .int s1, .int s2, g_r Y 68] M := by
  unfold f_X12_opensWith_111 at h
  refine g_ishr C dX12_opensWith_111 (q := 112) rfl ?_
  refine g_iconst C (v := 1) dX12_opensWith_112 (q := 113) rfl (by decide) ?_
  refine g_iand C dX12_opensWith_113 (q := 114) rfl ?_
  refine g_iconst C (v := 1) dX12_opensWith_114 (q := 115) rfl (by decide) ?_
  have hif := g_if h
  clear h
  refine g_icmp_ne C dX12_opensWith_115 (q := 118) (tgt := 122) rfl (by decide) (fun c => ?_) (fun c => ?_)
  · have h := hif.2 c
    clear hif
    refine g_iconst C (v := 0) dX12_opensWith_122 (q := 123) rfl (by decide) ?_
    obtain ⟨z31, hz31, h⟩ := g_bind h
    obtain ⟨M30, hM30, h⟩ := g_bind h
    refine g_zast C (k := 68) (n := 40) (by decide) (fun a => gc_68 Y a _) hz31 hM30 dX12_opensWith_123 (q := 124) rfl ?_
    refine g_goto C dX12_opensWith_124 (tgt := 228) (by decide) ?_
    refine g_iinc C (k := 2) (v := x2 + 1) dX12_opensWith_228 (q := 231) rfl rfl rfl (by decide) (lv' := [(2, .int (x2 + 1)), (0, g_r Y 59), (1, .int x1)]) rfl ?_
    refine g_goto C dX12_opensWith_231 (tgt := 2) (by decide) ?_
    refine g_sub [1, 2, 0] (lv' := [(0, g_r Y 59), (1, .int x1), (2, .int (x2 + 1))]) rfl ?_
    exact ih x1 (x2 + 1) M30 h
  · have h := hif.1 c
    clear hif
    refine g_iconst C (v := 1) dX12_opensWith_118 (q := 119) rfl (by decide) ?_
    refine g_goto C dX12_opensWith_119 (tgt := 123) (by decide) ?_
    obtain ⟨z33, hz33, h⟩ := g_bind h
    obtain ⟨M32, hM32, h⟩ := g_bind h
    refine g_zast C (k := 68) (n := 40) (by decide) (fun a => gc_68 Y a _) hz33 hM32 dX12_opensWith_123 (q := 124) rfl ?_
    refine g_goto C dX12_opensWith_124 (tgt := 228) (by decide) ?_
    refine g_iinc C (k := 2) (v := x2 + 1) dX12_opensWith_228 (q := 231) rfl rfl rfl (by decide) (lv' := [(2, .int (x2 + 1)), (0, g_r Y 59), (1, .int x1)]) rfl ?_
    refine g_goto C dX12_opensWith_231 (tgt := 2) (by decide) ?_
    refine g_sub [1, 2, 0] (lv' := [(0, g_r Y 59), (1, .int x1), (2, .int (x2 + 1))]) rfl ?_
    exact ih x1 (x2 + 1) M32 h
theorem r_X12_opensWith_111 {p : g_M} {k : Int32 → Int32 → g_M → Option (g_M)} (ih : ∀ (x1 : Int32) (x2 : Int32) (M : g_M), k x1 x2 M = some p → g_fr [68] [] M p) (x1 : Int32) (x2 : Int32) (s0 : Int32) (s1 : Int32) (s2 : Int32) (M : g_M) (h : f_X12_opensWith_111 k x1 x2 s0 s1 s2 M = some p) : g_fr [68] [] M p := by
  unfold f_X12_opensWith_111 at h
  have hf := g_fr.rfl (S := [68]) (T := []) (M := M)
  rcases g_ifs h with h | h
  · obtain ⟨z33, -, h⟩ := g_bind h
    obtain ⟨M32, hM32, h⟩ := g_bind h
    have hf := hf.st hM32 (by decide)
    exact hf.trans (ih x1 (x2 + 1) M32 h)
  · obtain ⟨z31, -, h⟩ := g_bind h
    obtain ⟨M30, hM30, h⟩ := g_bind h
    have hf := hf.st hM30 (by decide)
    exact hf.trans (ih x1 (x2 + 1) M30 h)
def F_X12_opensWith_2 (k234 : g_M → Option (g_M)) (k : Int32 → Int32 → g_M → Option (g_M)) (x1 : Int32) (x2 : Int32) (M : g_M) : Option (g_M) :=
  (g_ld M 60 1208 3).bind fun v1 => (if v1 ≤ x2 then (k234 M) else ((f_X12_hang x2 3 M).bind fun p2 => (f_X12_hang x2 0 M).bind fun p3 => (if p3 = 1 then ((if ((x1 >>> (p2 &&& 31)) &&& 1) = 1 then ((g_bz 1).bind fun z7 => (g_st M 68 40 x2 z7).bind fun M6 => k x1 (x2 + 1) M6) else ((g_bz 0).bind fun z5 => (g_st M 68 40 x2 z5).bind fun M4 => k x1 (x2 + 1) M4))) else (if p3 = 2 then ((f_X12_hang x2 1 M).bind fun p8 => (g_ld M 68 40 p8).bind fun v9 => (if v9 = 0 then ((f_X12_hang x2 2 M).bind fun p12 => (g_ld M 68 40 p12).bind fun v13 => (if v13 = 0 then ((g_bz 0).bind fun z15 => (g_st M 68 40 x2 z15).bind fun M14 => k x1 (x2 + 1) M14) else ((g_bz 1).bind fun z17 => (g_st M 68 40 x2 z17).bind fun M16 => k x1 (x2 + 1) M16))) else ((g_bz 1).bind fun z11 => (g_st M 68 40 x2 z11).bind fun M10 => k x1 (x2 + 1) M10))) else (if p3 = 3 then ((f_X12_hang x2 1 M).bind fun p18 => (g_ld M 68 40 p18).bind fun v19 => (if v19 = 0 then ((g_bz 0).bind fun z21 => (g_st M 68 40 x2 z21).bind fun M20 => k x1 (x2 + 1) M20) else ((f_X12_hang x2 2 M).bind fun p22 => (g_ld M 68 40 p22).bind fun v23 => (if v23 = 0 then ((g_bz 0).bind fun z25 => (g_st M 68 40 x2 z25).bind fun M24 => k x1 (x2 + 1) M24) else ((g_bz 1).bind fun z27 => (g_st M 68 40 x2 z27).bind fun M26 => k x1 (x2 + 1) M26))))) else (if p3 = 5 then ((if ((x1 >>> (p2 &&& 31)) &&& 1) = 1 then ((g_bz 1).bind fun z29 => (g_st M 68 40 x2 z29).bind fun M28 => k x1 (x2 + 1) M28) else ((if p2 = 23 then (f_X12_opensWith_111 k x1 x2 0 x1 x2 M) else (f_X12_opensWith_111 k x1 x2 (p2 + 1) x1 x2 M))))) else (f_X12_hang x2 1 M).bind fun p34 => (g_ld M 68 40 p34).bind fun v35 => (g_bz v35).bind fun z37 => (g_st M 68 40 x2 z37).bind fun M36 => k x1 (x2 + 1) M36))))))
set_option maxRecDepth 100000 in
theorem t_X12_opensWith_2 {l : Launch} {X : g_X} {Y : g_Y} {p : g_M} {k234 : g_M → Option (g_M)} (C : g_C l (g_rm (1)) RX12 cX12_opensWith 4 X Y) (E : g_E none X Y none p) (hk234 : ∀ (M : g_M), k234 M = some p → g_G 4 X Y 234 [] [] M) (n : Nat) : ∀ (x1 : Int32) (x2 : Int32) (M : g_M), g_lp2 (F_X12_opensWith_2 k234) n x1 x2 M = some p → g_G 4 X Y 2 [(0, g_r Y 59), (1, .int x1), (2, .int x2)] [] M := by
  induction n with
  | zero => intro x1 x2 M h; exact (g_nn h).elim
  | succ n ih =>
    intro x1 x2 M h
    have h : F_X12_opensWith_2 k234 (g_lp2 (F_X12_opensWith_2 k234) n) x1 x2 M = some p := h
    generalize g_lp2 (F_X12_opensWith_2 k234) n = k at h ih
    unfold F_X12_opensWith_2 at h
    refine g_iload_n C 2 dX12_opensWith_2 (q := 3) rfl rfl rfl ?_
    refine g_aload_n C 0 dX12_opensWith_3 (q := 4) rfl rfl rfl ?_
    refine g_get C (k := 59) (i := 0) (by decide) (gc_59 Y _ _) rfl kU_X12 (by decide) kF_X12_7 rfl dX12_opensWith_4 (q := 7) rfl ?_
    refine g_iconst C (v := 3) dX12_opensWith_7 (q := 8) rfl (by decide) ?_
    obtain ⟨v1, hv1, h⟩ := g_bind h
    refine g_iald C (k := 60) (n := 1208) (by decide) (gc_60 Y _ _) hv1 dX12_opensWith_8 (q := 9) rfl ?_
    have hif := g_if h
    clear h
    refine g_icmp_ge C dX12_opensWith_9 (q := 12) (tgt := 234) rfl (by decide) (fun c => ?_) (fun c => ?_)
    · have h := hif.1 c
      clear hif
      refine g_sub [] (lv' := []) rfl ?_
      exact hk234 M h
    · have h := hif.2 c
      clear hif
      refine g_aload_n C 0 dX12_opensWith_12 (q := 13) rfl rfl rfl ?_
      refine g_iload_n C 2 dX12_opensWith_13 (q := 14) rfl rfl rfl ?_
      refine g_iconst C (v := 3) dX12_opensWith_14 (q := 15) rfl (by decide) ?_
      obtain ⟨p2, hp2, h⟩ := g_bind h
      refine g_callV C (k := 59) (as := [.int x2, .int 3]) (st := []) (m_X12_hang hp2) (g_hR (by decide)) (by decide) (by decide) (gc_59 Y _ _) rfl kM_X12_245 kI_X12_hang kS_X12_hang kN_X12 kC_X12_hang kD_X12_hang rfl (Nat.le_of_ble_eq_true rfl) dX12_opensWith_15 (q := 18) rfl ?_
      show g_G 4 X Y 18 [(0, g_r Y 59), (1, .int x1), (2, .int x2)] [.int p2] M
      refine g_istore_n C dX12_opensWith_18 (q := 19) rfl rfl (by decide) (lv' := [(3, .int p2), (0, g_r Y 59), (1, .int x1), (2, .int x2)]) rfl ?_
      refine g_aload_n C 1 dX12_opensWith_19 (q := 20) rfl rfl rfl ?_
      refine g_iload_n C 3 dX12_opensWith_20 (q := 21) rfl rfl rfl ?_
      refine g_iconst C (v := 0) dX12_opensWith_21 (q := 22) rfl (by decide) ?_
      obtain ⟨p3, hp3, h⟩ := g_bind h
      refine g_callV C (k := 59) (as := [.int x2, .int 0]) (st := []) (m_X12_hang hp3) (g_hR (by decide)) (by decide) (by decide) (gc_59 Y _ _) rfl kM_X12_245 kI_X12_hang kS_X12_hang kN_X12 kC_X12_hang kD_X12_hang rfl (Nat.le_of_ble_eq_true rfl) dX12_opensWith_22 (q := 25) rfl ?_
      show g_G 4 X Y 25 [(3, .int p2), (0, g_r Y 59), (1, .int x1), (2, .int x2)] [.int p3] M
      by_cases e : p3 = 1
      · rw [if_pos e] at h
        refine g_tabI C (off := 35) (tgt := 60) dX12_opensWith_25 (by rw [e]; decide) (by rw [e]; decide) (by rw [e]; decide) (by decide) ?_
        refine g_aload_n C 1 dX12_opensWith_60 (q := 61) rfl rfl rfl ?_
        refine g_get C (k := 59) (i := 21) (by decide) (gc_59 Y _ _) rfl kU_X12 (by decide) kF_X12_35 rfl dX12_opensWith_61 (q := 64) rfl ?_
        refine g_iload_n C 3 dX12_opensWith_64 (q := 65) rfl rfl rfl ?_
        refine g_iload_n C 2 dX12_opensWith_65 (q := 66) rfl rfl rfl ?_
        refine g_iload_n C 0 dX12_opensWith_66 (q := 67) rfl rfl rfl ?_
        refine g_ishr C dX12_opensWith_67 (q := 68) rfl ?_
        refine g_iconst C (v := 1) dX12_opensWith_68 (q := 69) rfl (by decide) ?_
        refine g_iand C dX12_opensWith_69 (q := 70) rfl ?_
        refine g_iconst C (v := 1) dX12_opensWith_70 (q := 71) rfl (by decide) ?_
        have hif := g_if h
        clear h
        refine g_icmp_ne C dX12_opensWith_71 (q := 74) (tgt := 78) rfl (by decide) (fun c => ?_) (fun c => ?_)
        · have h := hif.2 c
          clear hif
          refine g_iconst C (v := 0) dX12_opensWith_78 (q := 79) rfl (by decide) ?_
          obtain ⟨z5, hz5, h⟩ := g_bind h
          obtain ⟨M4, hM4, h⟩ := g_bind h
          refine g_zast C (k := 68) (n := 40) (by decide) (fun a => gc_68 Y a _) hz5 hM4 dX12_opensWith_79 (q := 80) rfl ?_
          refine g_goto C dX12_opensWith_80 (tgt := 228) (by decide) ?_
          refine g_iinc C (k := 3) (v := x2 + 1) dX12_opensWith_228 (q := 231) rfl rfl rfl (by decide) (lv' := [(2, .int (x2 + 1)), (3, .int p2), (0, g_r Y 59), (1, .int x1)]) rfl ?_
          refine g_goto C dX12_opensWith_231 (tgt := 2) (by decide) ?_
          refine g_sub [2, 3, 0] (lv' := [(0, g_r Y 59), (1, .int x1), (2, .int (x2 + 1))]) rfl ?_
          exact ih x1 (x2 + 1) M4 h
        · have h := hif.1 c
          clear hif
          refine g_iconst C (v := 1) dX12_opensWith_74 (q := 75) rfl (by decide) ?_
          refine g_goto C dX12_opensWith_75 (tgt := 79) (by decide) ?_
          obtain ⟨z7, hz7, h⟩ := g_bind h
          obtain ⟨M6, hM6, h⟩ := g_bind h
          refine g_zast C (k := 68) (n := 40) (by decide) (fun a => gc_68 Y a _) hz7 hM6 dX12_opensWith_79 (q := 80) rfl ?_
          refine g_goto C dX12_opensWith_80 (tgt := 228) (by decide) ?_
          refine g_iinc C (k := 3) (v := x2 + 1) dX12_opensWith_228 (q := 231) rfl rfl rfl (by decide) (lv' := [(2, .int (x2 + 1)), (3, .int p2), (0, g_r Y 59), (1, .int x1)]) rfl ?_
          refine g_goto C dX12_opensWith_231 (tgt := 2) (by decide) ?_
          refine g_sub [2, 3, 0] (lv' := [(0, g_r Y 59), (1, .int x1), (2, .int (x2 + 1))]) rfl ?_
          exact ih x1 (x2 + 1) M6 h
      rw [if_neg e] at h
      have n1 := g_toI (n := 1) (v := 1) (by decide) e
      by_cases e : p3 = 2
      · rw [if_pos e] at h
        refine g_tabI C (off := 102) (tgt := 127) dX12_opensWith_25 (by rw [e]; decide) (by rw [e]; decide) (by rw [e]; decide) (by decide) ?_
        refine g_aload_n C 1 dX12_opensWith_127 (q := 128) rfl rfl rfl ?_
        refine g_get C (k := 59) (i := 21) (by decide) (gc_59 Y _ _) rfl kU_X12 (by decide) kF_X12_35 rfl dX12_opensWith_128 (q := 131) rfl ?_
        refine g_iload_n C 3 dX12_opensWith_131 (q := 132) rfl rfl rfl ?_
        refine g_aload_n C 1 dX12_opensWith_132 (q := 133) rfl rfl rfl ?_
        refine g_get C (k := 59) (i := 21) (by decide) (gc_59 Y _ _) rfl kU_X12 (by decide) kF_X12_35 rfl dX12_opensWith_133 (q := 136) rfl ?_
        refine g_aload_n C 1 dX12_opensWith_136 (q := 137) rfl rfl rfl ?_
        refine g_iload_n C 3 dX12_opensWith_137 (q := 138) rfl rfl rfl ?_
        refine g_iconst C (v := 1) dX12_opensWith_138 (q := 139) rfl (by decide) ?_
        obtain ⟨p8, hp8, h⟩ := g_bind h
        refine g_callV C (k := 59) (as := [.int x2, .int 1]) (st := [g_r Y 68, .int x2, g_r Y 68]) (m_X12_hang hp8) (g_hR (by decide)) (by decide) (by decide) (gc_59 Y _ _) rfl kM_X12_245 kI_X12_hang kS_X12_hang kN_X12 kC_X12_hang kD_X12_hang rfl (Nat.le_of_ble_eq_true rfl) dX12_opensWith_139 (q := 142) rfl ?_
        show g_G 4 X Y 142 [(3, .int p2), (0, g_r Y 59), (1, .int x1), (2, .int x2)] [.int p8, g_r Y 68, .int x2, g_r Y 68] M
        obtain ⟨v9, hv9, h⟩ := g_bind h
        refine g_zald C (k := 68) (n := 40) (by decide) (gc_68 Y _ _) hv9 dX12_opensWith_142 (q := 143) rfl ?_
        have hif := g_if h
        clear h
        refine g_if_ne C dX12_opensWith_143 (q := 146) (tgt := 160) rfl (by decide) (fun c => ?_) (fun c => ?_)
        · have h := hif.2 c
          clear hif
          refine g_iconst C (v := 1) dX12_opensWith_160 (q := 161) rfl (by decide) ?_
          refine g_goto C dX12_opensWith_161 (tgt := 165) (by decide) ?_
          obtain ⟨z11, hz11, h⟩ := g_bind h
          obtain ⟨M10, hM10, h⟩ := g_bind h
          refine g_zast C (k := 68) (n := 40) (by decide) (fun a => gc_68 Y a _) hz11 hM10 dX12_opensWith_165 (q := 166) rfl ?_
          refine g_goto C dX12_opensWith_166 (tgt := 228) (by decide) ?_
          refine g_iinc C (k := 3) (v := x2 + 1) dX12_opensWith_228 (q := 231) rfl rfl rfl (by decide) (lv' := [(2, .int (x2 + 1)), (3, .int p2), (0, g_r Y 59), (1, .int x1)]) rfl ?_
          refine g_goto C dX12_opensWith_231 (tgt := 2) (by decide) ?_
          refine g_sub [2, 3, 0] (lv' := [(0, g_r Y 59), (1, .int x1), (2, .int (x2 + 1))]) rfl ?_
          exact ih x1 (x2 + 1) M10 h
        · have h := hif.1 c
          clear hif
          refine g_aload_n C 1 dX12_opensWith_146 (q := 147) rfl rfl rfl ?_
          refine g_get C (k := 59) (i := 21) (by decide) (gc_59 Y _ _) rfl kU_X12 (by decide) kF_X12_35 rfl dX12_opensWith_147 (q := 150) rfl ?_
          refine g_aload_n C 1 dX12_opensWith_150 (q := 151) rfl rfl rfl ?_
          refine g_iload_n C 3 dX12_opensWith_151 (q := 152) rfl rfl rfl ?_
          refine g_iconst C (v := 2) dX12_opensWith_152 (q := 153) rfl (by decide) ?_
          obtain ⟨p12, hp12, h⟩ := g_bind h
          refine g_callV C (k := 59) (as := [.int x2, .int 2]) (st := [g_r Y 68, .int x2, g_r Y 68]) (m_X12_hang hp12) (g_hR (by decide)) (by decide) (by decide) (gc_59 Y _ _) rfl kM_X12_245 kI_X12_hang kS_X12_hang kN_X12 kC_X12_hang kD_X12_hang rfl (Nat.le_of_ble_eq_true rfl) dX12_opensWith_153 (q := 156) rfl ?_
          show g_G 4 X Y 156 [(3, .int p2), (0, g_r Y 59), (1, .int x1), (2, .int x2)] [.int p12, g_r Y 68, .int x2, g_r Y 68] M
          obtain ⟨v13, hv13, h⟩ := g_bind h
          refine g_zald C (k := 68) (n := 40) (by decide) (gc_68 Y _ _) hv13 dX12_opensWith_156 (q := 157) rfl ?_
          have hif := g_if h
          clear h
          refine g_if_eq C dX12_opensWith_157 (q := 160) (tgt := 164) rfl (by decide) (fun c => ?_) (fun c => ?_)
          · have h := hif.1 c
            clear hif
            refine g_iconst C (v := 0) dX12_opensWith_164 (q := 165) rfl (by decide) ?_
            obtain ⟨z15, hz15, h⟩ := g_bind h
            obtain ⟨M14, hM14, h⟩ := g_bind h
            refine g_zast C (k := 68) (n := 40) (by decide) (fun a => gc_68 Y a _) hz15 hM14 dX12_opensWith_165 (q := 166) rfl ?_
            refine g_goto C dX12_opensWith_166 (tgt := 228) (by decide) ?_
            refine g_iinc C (k := 3) (v := x2 + 1) dX12_opensWith_228 (q := 231) rfl rfl rfl (by decide) (lv' := [(2, .int (x2 + 1)), (3, .int p2), (0, g_r Y 59), (1, .int x1)]) rfl ?_
            refine g_goto C dX12_opensWith_231 (tgt := 2) (by decide) ?_
            refine g_sub [2, 3, 0] (lv' := [(0, g_r Y 59), (1, .int x1), (2, .int (x2 + 1))]) rfl ?_
            exact ih x1 (x2 + 1) M14 h
          · have h := hif.2 c
            clear hif
            refine g_iconst C (v := 1) dX12_opensWith_160 (q := 161) rfl (by decide) ?_
            refine g_goto C dX12_opensWith_161 (tgt := 165) (by decide) ?_
            obtain ⟨z17, hz17, h⟩ := g_bind h
            obtain ⟨M16, hM16, h⟩ := g_bind h
            refine g_zast C (k := 68) (n := 40) (by decide) (fun a => gc_68 Y a _) hz17 hM16 dX12_opensWith_165 (q := 166) rfl ?_
            refine g_goto C dX12_opensWith_166 (tgt := 228) (by decide) ?_
            refine g_iinc C (k := 3) (v := x2 + 1) dX12_opensWith_228 (q := 231) rfl rfl rfl (by decide) (lv' := [(2, .int (x2 + 1)), (3, .int p2), (0, g_r Y 59), (1, .int x1)]) rfl ?_
            refine g_goto C dX12_opensWith_231 (tgt := 2) (by decide) ?_
            refine g_sub [2, 3, 0] (lv' := [(0, g_r Y 59), (1, .int x1), (2, .int (x2 + 1))]) rfl ?_
            exact ih x1 (x2 + 1) M16 h
      rw [if_neg e] at h
      have n2 := g_toI (n := 2) (v := 2) (by decide) e
      by_cases e : p3 = 3
      · rw [if_pos e] at h
        refine g_tabI C (off := 144) (tgt := 169) dX12_opensWith_25 (by rw [e]; decide) (by rw [e]; decide) (by rw [e]; decide) (by decide) ?_
        refine g_aload_n C 1 dX12_opensWith_169 (q := 170) rfl rfl rfl ?_
        refine g_get C (k := 59) (i := 21) (by decide) (gc_59 Y _ _) rfl kU_X12 (by decide) kF_X12_35 rfl dX12_opensWith_170 (q := 173) rfl ?_
        refine g_iload_n C 3 dX12_opensWith_173 (q := 174) rfl rfl rfl ?_
        refine g_aload_n C 1 dX12_opensWith_174 (q := 175) rfl rfl rfl ?_
        refine g_get C (k := 59) (i := 21) (by decide) (gc_59 Y _ _) rfl kU_X12 (by decide) kF_X12_35 rfl dX12_opensWith_175 (q := 178) rfl ?_
        refine g_aload_n C 1 dX12_opensWith_178 (q := 179) rfl rfl rfl ?_
        refine g_iload_n C 3 dX12_opensWith_179 (q := 180) rfl rfl rfl ?_
        refine g_iconst C (v := 1) dX12_opensWith_180 (q := 181) rfl (by decide) ?_
        obtain ⟨p18, hp18, h⟩ := g_bind h
        refine g_callV C (k := 59) (as := [.int x2, .int 1]) (st := [g_r Y 68, .int x2, g_r Y 68]) (m_X12_hang hp18) (g_hR (by decide)) (by decide) (by decide) (gc_59 Y _ _) rfl kM_X12_245 kI_X12_hang kS_X12_hang kN_X12 kC_X12_hang kD_X12_hang rfl (Nat.le_of_ble_eq_true rfl) dX12_opensWith_181 (q := 184) rfl ?_
        show g_G 4 X Y 184 [(3, .int p2), (0, g_r Y 59), (1, .int x1), (2, .int x2)] [.int p18, g_r Y 68, .int x2, g_r Y 68] M
        obtain ⟨v19, hv19, h⟩ := g_bind h
        refine g_zald C (k := 68) (n := 40) (by decide) (gc_68 Y _ _) hv19 dX12_opensWith_184 (q := 185) rfl ?_
        have hif := g_if h
        clear h
        refine g_if_eq C dX12_opensWith_185 (q := 188) (tgt := 206) rfl (by decide) (fun c => ?_) (fun c => ?_)
        · have h := hif.1 c
          clear hif
          refine g_iconst C (v := 0) dX12_opensWith_206 (q := 207) rfl (by decide) ?_
          obtain ⟨z21, hz21, h⟩ := g_bind h
          obtain ⟨M20, hM20, h⟩ := g_bind h
          refine g_zast C (k := 68) (n := 40) (by decide) (fun a => gc_68 Y a _) hz21 hM20 dX12_opensWith_207 (q := 208) rfl ?_
          refine g_goto C dX12_opensWith_208 (tgt := 228) (by decide) ?_
          refine g_iinc C (k := 3) (v := x2 + 1) dX12_opensWith_228 (q := 231) rfl rfl rfl (by decide) (lv' := [(2, .int (x2 + 1)), (3, .int p2), (0, g_r Y 59), (1, .int x1)]) rfl ?_
          refine g_goto C dX12_opensWith_231 (tgt := 2) (by decide) ?_
          refine g_sub [2, 3, 0] (lv' := [(0, g_r Y 59), (1, .int x1), (2, .int (x2 + 1))]) rfl ?_
          exact ih x1 (x2 + 1) M20 h
        · have h := hif.2 c
          clear hif
          refine g_aload_n C 1 dX12_opensWith_188 (q := 189) rfl rfl rfl ?_
          refine g_get C (k := 59) (i := 21) (by decide) (gc_59 Y _ _) rfl kU_X12 (by decide) kF_X12_35 rfl dX12_opensWith_189 (q := 192) rfl ?_
          refine g_aload_n C 1 dX12_opensWith_192 (q := 193) rfl rfl rfl ?_
          refine g_iload_n C 3 dX12_opensWith_193 (q := 194) rfl rfl rfl ?_
          refine g_iconst C (v := 2) dX12_opensWith_194 (q := 195) rfl (by decide) ?_
          obtain ⟨p22, hp22, h⟩ := g_bind h
          refine g_callV C (k := 59) (as := [.int x2, .int 2]) (st := [g_r Y 68, .int x2, g_r Y 68]) (m_X12_hang hp22) (g_hR (by decide)) (by decide) (by decide) (gc_59 Y _ _) rfl kM_X12_245 kI_X12_hang kS_X12_hang kN_X12 kC_X12_hang kD_X12_hang rfl (Nat.le_of_ble_eq_true rfl) dX12_opensWith_195 (q := 198) rfl ?_
          show g_G 4 X Y 198 [(3, .int p2), (0, g_r Y 59), (1, .int x1), (2, .int x2)] [.int p22, g_r Y 68, .int x2, g_r Y 68] M
          obtain ⟨v23, hv23, h⟩ := g_bind h
          refine g_zald C (k := 68) (n := 40) (by decide) (gc_68 Y _ _) hv23 dX12_opensWith_198 (q := 199) rfl ?_
          have hif := g_if h
          clear h
          refine g_if_eq C dX12_opensWith_199 (q := 202) (tgt := 206) rfl (by decide) (fun c => ?_) (fun c => ?_)
          · have h := hif.1 c
            clear hif
            refine g_iconst C (v := 0) dX12_opensWith_206 (q := 207) rfl (by decide) ?_
            obtain ⟨z25, hz25, h⟩ := g_bind h
            obtain ⟨M24, hM24, h⟩ := g_bind h
            refine g_zast C (k := 68) (n := 40) (by decide) (fun a => gc_68 Y a _) hz25 hM24 dX12_opensWith_207 (q := 208) rfl ?_
            refine g_goto C dX12_opensWith_208 (tgt := 228) (by decide) ?_
            refine g_iinc C (k := 3) (v := x2 + 1) dX12_opensWith_228 (q := 231) rfl rfl rfl (by decide) (lv' := [(2, .int (x2 + 1)), (3, .int p2), (0, g_r Y 59), (1, .int x1)]) rfl ?_
            refine g_goto C dX12_opensWith_231 (tgt := 2) (by decide) ?_
            refine g_sub [2, 3, 0] (lv' := [(0, g_r Y 59), (1, .int x1), (2, .int (x2 + 1))]) rfl ?_
            exact ih x1 (x2 + 1) M24 h
          · have h := hif.2 c
            clear hif
            refine g_iconst C (v := 1) dX12_opensWith_202 (q := 203) rfl (by decide) ?_
            refine g_goto C dX12_opensWith_203 (tgt := 207) (by decide) ?_
            obtain ⟨z27, hz27, h⟩ := g_bind h
            obtain ⟨M26, hM26, h⟩ := g_bind h
            refine g_zast C (k := 68) (n := 40) (by decide) (fun a => gc_68 Y a _) hz27 hM26 dX12_opensWith_207 (q := 208) rfl ?_
            refine g_goto C dX12_opensWith_208 (tgt := 228) (by decide) ?_
            refine g_iinc C (k := 3) (v := x2 + 1) dX12_opensWith_228 (q := 231) rfl rfl rfl (by decide) (lv' := [(2, .int (x2 + 1)), (3, .int p2), (0, g_r Y 59), (1, .int x1)]) rfl ?_
            refine g_goto C dX12_opensWith_231 (tgt := 2) (by decide) ?_
            refine g_sub [2, 3, 0] (lv' := [(0, g_r Y 59), (1, .int x1), (2, .int (x2 + 1))]) rfl ?_
            exact ih x1 (x2 + 1) M26 h
      rw [if_neg e] at h
      have n3 := g_toI (n := 3) (v := 3) (by decide) e
      by_cases e : p3 = 5
      · rw [if_pos e] at h
        refine g_tabI C (off := 58) (tgt := 83) dX12_opensWith_25 (by rw [e]; decide) (by rw [e]; decide) (by rw [e]; decide) (by decide) ?_
        refine g_aload_n C 1 dX12_opensWith_83 (q := 84) rfl rfl rfl ?_
        refine g_get C (k := 59) (i := 21) (by decide) (gc_59 Y _ _) rfl kU_X12 (by decide) kF_X12_35 rfl dX12_opensWith_84 (q := 87) rfl ?_
        refine g_iload_n C 3 dX12_opensWith_87 (q := 88) rfl rfl rfl ?_
        refine g_iload_n C 2 dX12_opensWith_88 (q := 89) rfl rfl rfl ?_
        refine g_iload_n C 0 dX12_opensWith_89 (q := 90) rfl rfl rfl ?_
        refine g_ishr C dX12_opensWith_90 (q := 91) rfl ?_
        refine g_iconst C (v := 1) dX12_opensWith_91 (q := 92) rfl (by decide) ?_
        refine g_iand C dX12_opensWith_92 (q := 93) rfl ?_
        refine g_iconst C (v := 1) dX12_opensWith_93 (q := 94) rfl (by decide) ?_
        have hif := g_if h
        clear h
        refine g_icmp_eq C dX12_opensWith_94 (q := 97) (tgt := 118) rfl (by decide) (fun c => ?_) (fun c => ?_)
        · have h := hif.1 c
          clear hif
          refine g_iconst C (v := 1) dX12_opensWith_118 (q := 119) rfl (by decide) ?_
          refine g_goto C dX12_opensWith_119 (tgt := 123) (by decide) ?_
          obtain ⟨z29, hz29, h⟩ := g_bind h
          obtain ⟨M28, hM28, h⟩ := g_bind h
          refine g_zast C (k := 68) (n := 40) (by decide) (fun a => gc_68 Y a _) hz29 hM28 dX12_opensWith_123 (q := 124) rfl ?_
          refine g_goto C dX12_opensWith_124 (tgt := 228) (by decide) ?_
          refine g_iinc C (k := 3) (v := x2 + 1) dX12_opensWith_228 (q := 231) rfl rfl rfl (by decide) (lv' := [(2, .int (x2 + 1)), (3, .int p2), (0, g_r Y 59), (1, .int x1)]) rfl ?_
          refine g_goto C dX12_opensWith_231 (tgt := 2) (by decide) ?_
          refine g_sub [2, 3, 0] (lv' := [(0, g_r Y 59), (1, .int x1), (2, .int (x2 + 1))]) rfl ?_
          exact ih x1 (x2 + 1) M28 h
        · have h := hif.2 c
          clear hif
          refine g_iload_n C 2 dX12_opensWith_97 (q := 98) rfl rfl rfl ?_
          refine g_iload_n C 0 dX12_opensWith_98 (q := 99) rfl rfl rfl ?_
          refine g_bipush C (v := 23) dX12_opensWith_99 (q := 101) rfl (by decide) ?_
          have hif := g_if h
          clear h
          refine g_icmp_ne C dX12_opensWith_101 (q := 104) (tgt := 108) rfl (by decide) (fun c => ?_) (fun c => ?_)
          · have h := hif.2 c
            clear hif
            refine g_iload_n C 0 dX12_opensWith_108 (q := 109) rfl rfl rfl ?_
            refine g_iconst C (v := 1) dX12_opensWith_109 (q := 110) rfl (by decide) ?_
            refine g_iadd C dX12_opensWith_110 (q := 111) rfl ?_
            refine g_sub [1, 2, 3] (lv' := [(0, g_r Y 59), (1, .int x1), (2, .int x2)]) rfl ?_
            exact t_X12_opensWith_111 C E ih x1 x2 (p2 + 1) x1 x2 M h
          · have h := hif.1 c
            clear hif
            refine g_iconst C (v := 0) dX12_opensWith_104 (q := 105) rfl (by decide) ?_
            refine g_goto C dX12_opensWith_105 (tgt := 111) (by decide) ?_
            refine g_sub [1, 2, 3] (lv' := [(0, g_r Y 59), (1, .int x1), (2, .int x2)]) rfl ?_
            exact t_X12_opensWith_111 C E ih x1 x2 0 x1 x2 M h
      rw [if_neg e] at h
      have n5 := g_toI (n := 5) (v := 5) (by decide) e
      have hdef : g_G 4 X Y 211 [(3, .int p2), (0, g_r Y 59), (1, .int x1), (2, .int x2)] [] M := by
        refine g_aload_n C 1 dX12_opensWith_211 (q := 212) rfl rfl rfl ?_
        refine g_get C (k := 59) (i := 21) (by decide) (gc_59 Y _ _) rfl kU_X12 (by decide) kF_X12_35 rfl dX12_opensWith_212 (q := 215) rfl ?_
        refine g_iload_n C 3 dX12_opensWith_215 (q := 216) rfl rfl rfl ?_
        refine g_aload_n C 1 dX12_opensWith_216 (q := 217) rfl rfl rfl ?_
        refine g_get C (k := 59) (i := 21) (by decide) (gc_59 Y _ _) rfl kU_X12 (by decide) kF_X12_35 rfl dX12_opensWith_217 (q := 220) rfl ?_
        refine g_aload_n C 1 dX12_opensWith_220 (q := 221) rfl rfl rfl ?_
        refine g_iload_n C 3 dX12_opensWith_221 (q := 222) rfl rfl rfl ?_
        refine g_iconst C (v := 1) dX12_opensWith_222 (q := 223) rfl (by decide) ?_
        obtain ⟨p34, hp34, h⟩ := g_bind h
        refine g_callV C (k := 59) (as := [.int x2, .int 1]) (st := [g_r Y 68, .int x2, g_r Y 68]) (m_X12_hang hp34) (g_hR (by decide)) (by decide) (by decide) (gc_59 Y _ _) rfl kM_X12_245 kI_X12_hang kS_X12_hang kN_X12 kC_X12_hang kD_X12_hang rfl (Nat.le_of_ble_eq_true rfl) dX12_opensWith_223 (q := 226) rfl ?_
        show g_G 4 X Y 226 [(3, .int p2), (0, g_r Y 59), (1, .int x1), (2, .int x2)] [.int p34, g_r Y 68, .int x2, g_r Y 68] M
        obtain ⟨v35, hv35, h⟩ := g_bind h
        refine g_zald C (k := 68) (n := 40) (by decide) (gc_68 Y _ _) hv35 dX12_opensWith_226 (q := 227) rfl ?_
        obtain ⟨z37, hz37, h⟩ := g_bind h
        obtain ⟨M36, hM36, h⟩ := g_bind h
        refine g_zast C (k := 68) (n := 40) (by decide) (fun a => gc_68 Y a _) hz37 hM36 dX12_opensWith_227 (q := 228) rfl ?_
        refine g_iinc C (k := 3) (v := x2 + 1) dX12_opensWith_228 (q := 231) rfl rfl rfl (by decide) (lv' := [(2, .int (x2 + 1)), (3, .int p2), (0, g_r Y 59), (1, .int x1)]) rfl ?_
        refine g_goto C dX12_opensWith_231 (tgt := 2) (by decide) ?_
        refine g_sub [2, 3, 0] (lv' := [(0, g_r Y 59), (1, .int x1), (2, .int (x2 + 1))]) rfl ?_
        exact ih x1 (x2 + 1) M36 h
      by_cases e : p3 = 4
      · refine g_tabI C (off := 186) (tgt := 211) dX12_opensWith_25 (by rw [e]; decide) (by rw [e]; decide) (by rw [e]; decide) (by decide) ?_
        exact hdef
      have n4 := g_toI (n := 4) (v := 4) (by decide) e
      refine g_tabO C (tgt := 211) dX12_opensWith_25 (by omega) (by decide) hdef
theorem r_X12_opensWith_2 {p : g_M} {k234 : g_M → Option (g_M)} (hk234 : ∀ (M : g_M), k234 M = some p → g_fr [68] [] M p) (n : Nat) : ∀ (x1 : Int32) (x2 : Int32) (M : g_M), g_lp2 (F_X12_opensWith_2 k234) n x1 x2 M = some p → g_fr [68] [] M p := by
  induction n with
  | zero => intro x1 x2 M h; exact (g_nn h).elim
  | succ n ih =>
    intro x1 x2 M h
    have h : F_X12_opensWith_2 k234 (g_lp2 (F_X12_opensWith_2 k234) n) x1 x2 M = some p := h
    generalize g_lp2 (F_X12_opensWith_2 k234) n = k at h ih
    unfold F_X12_opensWith_2 at h
    have hf := g_fr.rfl (S := [68]) (T := []) (M := M)
    obtain ⟨v1, -, h⟩ := g_bind h
    rcases g_ifs h with h | h
    · exact hf.trans (hk234 M h)
    · obtain ⟨p2, -, h⟩ := g_bind h
      obtain ⟨p3, -, h⟩ := g_bind h
      rcases g_ifs h with h | h
      · rcases g_ifs h with h | h
        · obtain ⟨z7, -, h⟩ := g_bind h
          obtain ⟨M6, hM6, h⟩ := g_bind h
          have hf := hf.st hM6 (by decide)
          exact hf.trans (ih x1 (x2 + 1) M6 h)
        · obtain ⟨z5, -, h⟩ := g_bind h
          obtain ⟨M4, hM4, h⟩ := g_bind h
          have hf := hf.st hM4 (by decide)
          exact hf.trans (ih x1 (x2 + 1) M4 h)
      rcases g_ifs h with h | h
      · obtain ⟨p8, -, h⟩ := g_bind h
        obtain ⟨v9, -, h⟩ := g_bind h
        rcases g_ifs h with h | h
        · obtain ⟨p12, -, h⟩ := g_bind h
          obtain ⟨v13, -, h⟩ := g_bind h
          rcases g_ifs h with h | h
          · obtain ⟨z15, -, h⟩ := g_bind h
            obtain ⟨M14, hM14, h⟩ := g_bind h
            have hf := hf.st hM14 (by decide)
            exact hf.trans (ih x1 (x2 + 1) M14 h)
          · obtain ⟨z17, -, h⟩ := g_bind h
            obtain ⟨M16, hM16, h⟩ := g_bind h
            have hf := hf.st hM16 (by decide)
            exact hf.trans (ih x1 (x2 + 1) M16 h)
        · obtain ⟨z11, -, h⟩ := g_bind h
          obtain ⟨M10, hM10, h⟩ := g_bind h
          have hf := hf.st hM10 (by decide)
          exact hf.trans (ih x1 (x2 + 1) M10 h)
      rcases g_ifs h with h | h
      · obtain ⟨p18, -, h⟩ := g_bind h
        obtain ⟨v19, -, h⟩ := g_bind h
        rcases g_ifs h with h | h
        · obtain ⟨z21, -, h⟩ := g_bind h
          obtain ⟨M20, hM20, h⟩ := g_bind h
          have hf := hf.st hM20 (by decide)
          exact hf.trans (ih x1 (x2 + 1) M20 h)
        · obtain ⟨p22, -, h⟩ := g_bind h
          obtain ⟨v23, -, h⟩ := g_bind h
          rcases g_ifs h with h | h
          · obtain ⟨z25, -, h⟩ := g_bind h
            obtain ⟨M24, hM24, h⟩ := g_bind h
            have hf := hf.st hM24 (by decide)
            exact hf.trans (ih x1 (x2 + 1) M24 h)
          · obtain ⟨z27, -, h⟩ := g_bind h
            obtain ⟨M26, hM26, h⟩ := g_bind h
            have hf := hf.st hM26 (by decide)
            exact hf.trans (ih x1 (x2 + 1) M26 h)
      rcases g_ifs h with h | h
      · rcases g_ifs h with h | h
        · obtain ⟨z29, -, h⟩ := g_bind h
          obtain ⟨M28, hM28, h⟩ := g_bind h
          have hf := hf.st hM28 (by decide)
          exact hf.trans (ih x1 (x2 + 1) M28 h)
        · rcases g_ifs h with h | h
          · exact hf.trans (r_X12_opensWith_111 ih x1 x2 0 x1 x2 M h)
          · exact hf.trans (r_X12_opensWith_111 ih x1 x2 (p2 + 1) x1 x2 M h)
      obtain ⟨p34, -, h⟩ := g_bind h
      obtain ⟨v35, -, h⟩ := g_bind h
      obtain ⟨z37, -, h⟩ := g_bind h
      obtain ⟨M36, hM36, h⟩ := g_bind h
      have hf := hf.st hM36 (by decide)
      exact hf.trans (ih x1 (x2 + 1) M36 h)
def f_X12_opensWith (x1 : Int32) (M : g_M) : Option (g_M) :=
  g_lp2 (F_X12_opensWith_2 (fun (M : g_M) => some M)) 20000000 x1 0 M
set_option maxRecDepth 100000 in
theorem m_X12_opensWith {l : Launch} {Y : g_Y} {x1 : Int32} {M : g_M} {p : g_M} (h : f_X12_opensWith x1 M = some p) : g_R l Y (1) yX12_opensWith cX12_opensWith 4 none [g_r Y 59, .int x1] M none p := by
  unfold f_X12_opensWith at h
  refine g_R_of kP_X12 rfl (Nat.le_of_ble_eq_true rfl) (fun X C E => ?_)
  show g_G 4 X Y 0 [(0, g_r Y 59), (1, .int x1)] [] M
  refine g_iconst C (v := 0) dX12_opensWith_0 (q := 1) rfl (by decide) ?_
  refine g_istore_n C dX12_opensWith_1 (q := 2) rfl rfl (by decide) (lv' := [(2, .int 0), (0, g_r Y 59), (1, .int x1)]) rfl ?_
  refine g_sub [1, 2, 0] (lv' := [(0, g_r Y 59), (1, .int x1), (2, .int 0)]) rfl ?_
  refine t_X12_opensWith_2 C E ?_ 20000000 x1 0 M h
  · intro M h
    try dsimp only at h
    obtain rfl := Option.some.inj h
    exact g_vret C E dX12_opensWith_234
theorem r_X12_opensWith {x1 : Int32} {M : g_M} {p : g_M} (h : f_X12_opensWith x1 M = some p) : g_fr [68] [] M p := by
  unfold f_X12_opensWith at h
  have hf := g_fr.rfl (S := [68]) (T := []) (M := M)
  refine hf.trans (r_X12_opensWith_2 ?_ 20000000 x1 0 M h)
  · intro M h
    try dsimp only at h
    have hf := g_fr.rfl (S := [68]) (T := []) (M := M)
    obtain rfl := Option.some.inj h
    exact hf
def F_X12_comesOf_4 (k27 : Int32 → g_M → Option (Int32 × g_M)) (k : Int32 → Int32 → g_M → Option (Int32 × g_M)) (x2 : Int32) (x3 : Int32) (M : g_M) : Option (Int32 × g_M) :=
  (g_ld M 60 1208 3).bind fun v1 => (if v1 ≤ x3 then (k27 x2 M) else ((g_st M 69 40 x3 0).bind fun M2 => k x2 (x3 + 1) M2))
set_option maxRecDepth 100000 in
theorem t_X12_comesOf_4 {l : Launch} {X : g_X} {Y : g_Y} {p : Int32 × g_M} {k27 : Int32 → g_M → Option (Int32 × g_M)} (C : g_C l (g_rm (2)) RX12 cX12_comesOf 6 X Y) (E : g_E (some .int) X Y (some (.int p.1)) p.2) (hk27 : ∀ (x2 : Int32) (M : g_M), k27 x2 M = some p → g_G 6 X Y 27 [(0, g_r Y 59), (2, .int x2)] [] M) (n : Nat) : ∀ (x2 : Int32) (x3 : Int32) (M : g_M), g_lp2 (F_X12_comesOf_4 k27) n x2 x3 M = some p → g_G 6 X Y 4 [(0, g_r Y 59), (2, .int x2), (3, .int x3)] [] M := by
  induction n with
  | zero => intro x2 x3 M h; exact (g_nn h).elim
  | succ n ih =>
    intro x2 x3 M h
    have h : F_X12_comesOf_4 k27 (g_lp2 (F_X12_comesOf_4 k27) n) x2 x3 M = some p := h
    generalize g_lp2 (F_X12_comesOf_4 k27) n = k at h ih
    unfold F_X12_comesOf_4 at h
    refine g_iload_n C 2 dX12_comesOf_4 (q := 5) rfl rfl rfl ?_
    refine g_aload_n C 0 dX12_comesOf_5 (q := 6) rfl rfl rfl ?_
    refine g_get C (k := 59) (i := 0) (by decide) (gc_59 Y _ _) rfl kU_X12 (by decide) kF_X12_7 rfl dX12_comesOf_6 (q := 9) rfl ?_
    refine g_iconst C (v := 3) dX12_comesOf_9 (q := 10) rfl (by decide) ?_
    obtain ⟨v1, hv1, h⟩ := g_bind h
    refine g_iald C (k := 60) (n := 1208) (by decide) (gc_60 Y _ _) hv1 dX12_comesOf_10 (q := 11) rfl ?_
    have hif := g_if h
    clear h
    refine g_icmp_ge C dX12_comesOf_11 (q := 14) (tgt := 27) rfl (by decide) (fun c => ?_) (fun c => ?_)
    · have h := hif.1 c
      clear hif
      refine g_sub [0, 1] (lv' := [(0, g_r Y 59), (2, .int x2)]) rfl ?_
      exact hk27 x2 M h
    · have h := hif.2 c
      clear hif
      refine g_aload_n C 0 dX12_comesOf_14 (q := 15) rfl rfl rfl ?_
      refine g_get C (k := 59) (i := 22) (by decide) (gc_59 Y _ _) rfl kU_X12 (by decide) kF_X12_38 rfl dX12_comesOf_15 (q := 18) rfl ?_
      refine g_iload_n C 2 dX12_comesOf_18 (q := 19) rfl rfl rfl ?_
      refine g_iconst C (v := 0) dX12_comesOf_19 (q := 20) rfl (by decide) ?_
      obtain ⟨M2, hM2, h⟩ := g_bind h
      refine g_iast C (k := 69) (n := 40) (by decide) (fun a => gc_69 Y a _) hM2 dX12_comesOf_20 (q := 21) rfl ?_
      refine g_iinc C (k := 2) (v := x3 + 1) dX12_comesOf_21 (q := 24) rfl rfl rfl (by decide) (lv' := [(3, .int (x3 + 1)), (0, g_r Y 59), (2, .int x2)]) rfl ?_
      refine g_goto C dX12_comesOf_24 (tgt := 4) (by decide) ?_
      refine g_sub [1, 2, 0] (lv' := [(0, g_r Y 59), (2, .int x2), (3, .int (x3 + 1))]) rfl ?_
      exact ih x2 (x3 + 1) M2 h
theorem r_X12_comesOf_4 {p : Int32 × g_M} {k27 : Int32 → g_M → Option (Int32 × g_M)} (hk27 : ∀ (x2 : Int32) (M : g_M), k27 x2 M = some p → g_fr [68, 69] [] M p.2) (n : Nat) : ∀ (x2 : Int32) (x3 : Int32) (M : g_M), g_lp2 (F_X12_comesOf_4 k27) n x2 x3 M = some p → g_fr [68, 69] [] M p.2 := by
  induction n with
  | zero => intro x2 x3 M h; exact (g_nn h).elim
  | succ n ih =>
    intro x2 x3 M h
    have h : F_X12_comesOf_4 k27 (g_lp2 (F_X12_comesOf_4 k27) n) x2 x3 M = some p := h
    generalize g_lp2 (F_X12_comesOf_4 k27) n = k at h ih
    unfold F_X12_comesOf_4 at h
    have hf := g_fr.rfl (S := [68, 69]) (T := []) (M := M)
    obtain ⟨v1, -, h⟩ := g_bind h
    rcases g_ifs h with h | h
    · exact hf.trans (hk27 x2 M h)
    · obtain ⟨M2, hM2, h⟩ := g_bind h
      have hf := hf.st hM2 (by decide)
      exact hf.trans (ih x2 (x3 + 1) M2 h)
def F_X12_comesOf_46 (k117 : Int32 → Int32 → Int32 → g_M → Option (Int32 × g_M)) (k : Int32 → Int32 → Int32 → Int32 → g_M → Option (Int32 × g_M)) (x2 : Int32) (x3 : Int32) (x4 : Int32) (x5 : Int32) (M : g_M) : Option (Int32 × g_M) :=
  (g_ld M 60 1208 3).bind fun v4 => (if v4 ≤ x5 then (k117 x2 x3 x4 M) else ((f_X12_hang x5 0 M).bind fun p5 => (if p5 = 4 then ((g_ld M 69 40 x5).bind fun v6 => (if v6 = 0 then ((g_ld M 68 40 x5).bind fun v7 => (if v7 = 0 then (k x2 x3 x4 (x5 + 1) M) else ((g_st M 69 40 x5 x4).bind fun M8 => (f_X12_hang x5 3 M8).bind fun p9 => (some (x2 ||| ((1 : Int32) <<< (p9 &&& 31)))).bind fun y10 => k y10 1 x4 (x5 + 1) M8))) else (k x2 x3 x4 (x5 + 1) M))) else (k x2 x3 x4 (x5 + 1) M))))
set_option maxRecDepth 100000 in
theorem t_X12_comesOf_46 {l : Launch} {X : g_X} {Y : g_Y} {p : Int32 × g_M} {k117 : Int32 → Int32 → Int32 → g_M → Option (Int32 × g_M)} (C : g_C l (g_rm (2)) RX12 cX12_comesOf 6 X Y) (E : g_E (some .int) X Y (some (.int p.1)) p.2) (hk117 : ∀ (x2 : Int32) (x3 : Int32) (x4 : Int32) (M : g_M), k117 x2 x3 x4 M = some p → g_G 6 X Y 117 [(0, g_r Y 59), (2, .int x2), (3, .int x3), (4, .int x4)] [] M) (n : Nat) : ∀ (x2 : Int32) (x3 : Int32) (x4 : Int32) (x5 : Int32) (M : g_M), g_lp4 (F_X12_comesOf_46 k117) n x2 x3 x4 x5 M = some p → g_G 6 X Y 46 [(0, g_r Y 59), (2, .int x2), (3, .int x3), (4, .int x4), (5, .int x5)] [] M := by
  induction n with
  | zero => intro x2 x3 x4 x5 M h; exact (g_nn h).elim
  | succ n ih =>
    intro x2 x3 x4 x5 M h
    have h : F_X12_comesOf_46 k117 (g_lp4 (F_X12_comesOf_46 k117) n) x2 x3 x4 x5 M = some p := h
    generalize g_lp4 (F_X12_comesOf_46 k117) n = k at h ih
    unfold F_X12_comesOf_46 at h
    refine g_iload C 4 dX12_comesOf_46 (q := 48) rfl rfl ?_
    refine g_aload_n C 0 dX12_comesOf_48 (q := 49) rfl rfl rfl ?_
    refine g_get C (k := 59) (i := 0) (by decide) (gc_59 Y _ _) rfl kU_X12 (by decide) kF_X12_7 rfl dX12_comesOf_49 (q := 52) rfl ?_
    refine g_iconst C (v := 3) dX12_comesOf_52 (q := 53) rfl (by decide) ?_
    obtain ⟨v4, hv4, h⟩ := g_bind h
    refine g_iald C (k := 60) (n := 1208) (by decide) (gc_60 Y _ _) hv4 dX12_comesOf_53 (q := 54) rfl ?_
    have hif := g_if h
    clear h
    refine g_icmp_ge C dX12_comesOf_54 (q := 57) (tgt := 117) rfl (by decide) (fun c => ?_) (fun c => ?_)
    · have h := hif.1 c
      clear hif
      refine g_sub [0, 1, 2, 3] (lv' := [(0, g_r Y 59), (2, .int x2), (3, .int x3), (4, .int x4)]) rfl ?_
      exact hk117 x2 x3 x4 M h
    · have h := hif.2 c
      clear hif
      refine g_aload_n C 0 dX12_comesOf_57 (q := 58) rfl rfl rfl ?_
      refine g_iload C 4 dX12_comesOf_58 (q := 60) rfl rfl ?_
      refine g_iconst C (v := 0) dX12_comesOf_60 (q := 61) rfl (by decide) ?_
      obtain ⟨p5, hp5, h⟩ := g_bind h
      refine g_callV C (k := 59) (as := [.int x5, .int 0]) (st := []) (m_X12_hang hp5) (g_hR (by decide)) (by decide) (by decide) (gc_59 Y _ _) rfl kM_X12_245 kI_X12_hang kS_X12_hang kN_X12 kC_X12_hang kD_X12_hang rfl (Nat.le_of_ble_eq_true rfl) dX12_comesOf_61 (q := 64) rfl ?_
      show g_G 6 X Y 64 [(0, g_r Y 59), (2, .int x2), (3, .int x3), (4, .int x4), (5, .int x5)] [.int p5] M
      refine g_iconst C (v := 4) dX12_comesOf_64 (q := 65) rfl (by decide) ?_
      have hif := g_if h
      clear h
      refine g_icmp_ne C dX12_comesOf_65 (q := 68) (tgt := 111) rfl (by decide) (fun c => ?_) (fun c => ?_)
      · have h := hif.2 c
        clear hif
        refine g_iinc C (k := 4) (v := x5 + 1) dX12_comesOf_111 (q := 114) rfl rfl rfl (by decide) (lv' := [(5, .int (x5 + 1)), (0, g_r Y 59), (2, .int x2), (3, .int x3), (4, .int x4)]) rfl ?_
        refine g_goto C dX12_comesOf_114 (tgt := 46) (by decide) ?_
        refine g_sub [1, 2, 3, 4, 0] (lv' := [(0, g_r Y 59), (2, .int x2), (3, .int x3), (4, .int x4), (5, .int (x5 + 1))]) rfl ?_
        exact ih x2 x3 x4 (x5 + 1) M h
      · have h := hif.1 c
        clear hif
        refine g_aload_n C 0 dX12_comesOf_68 (q := 69) rfl rfl rfl ?_
        refine g_get C (k := 59) (i := 22) (by decide) (gc_59 Y _ _) rfl kU_X12 (by decide) kF_X12_38 rfl dX12_comesOf_69 (q := 72) rfl ?_
        refine g_iload C 4 dX12_comesOf_72 (q := 74) rfl rfl ?_
        obtain ⟨v6, hv6, h⟩ := g_bind h
        refine g_iald C (k := 69) (n := 40) (by decide) (gc_69 Y _ _) hv6 dX12_comesOf_74 (q := 75) rfl ?_
        have hif := g_if h
        clear h
        refine g_if_ne C dX12_comesOf_75 (q := 78) (tgt := 111) rfl (by decide) (fun c => ?_) (fun c => ?_)
        · have h := hif.2 c
          clear hif
          refine g_iinc C (k := 4) (v := x5 + 1) dX12_comesOf_111 (q := 114) rfl rfl rfl (by decide) (lv' := [(5, .int (x5 + 1)), (0, g_r Y 59), (2, .int x2), (3, .int x3), (4, .int x4)]) rfl ?_
          refine g_goto C dX12_comesOf_114 (tgt := 46) (by decide) ?_
          refine g_sub [1, 2, 3, 4, 0] (lv' := [(0, g_r Y 59), (2, .int x2), (3, .int x3), (4, .int x4), (5, .int (x5 + 1))]) rfl ?_
          exact ih x2 x3 x4 (x5 + 1) M h
        · have h := hif.1 c
          clear hif
          refine g_aload_n C 0 dX12_comesOf_78 (q := 79) rfl rfl rfl ?_
          refine g_get C (k := 59) (i := 21) (by decide) (gc_59 Y _ _) rfl kU_X12 (by decide) kF_X12_35 rfl dX12_comesOf_79 (q := 82) rfl ?_
          refine g_iload C 4 dX12_comesOf_82 (q := 84) rfl rfl ?_
          obtain ⟨v7, hv7, h⟩ := g_bind h
          refine g_zald C (k := 68) (n := 40) (by decide) (gc_68 Y _ _) hv7 dX12_comesOf_84 (q := 85) rfl ?_
          have hif := g_if h
          clear h
          refine g_if_eq C dX12_comesOf_85 (q := 88) (tgt := 111) rfl (by decide) (fun c => ?_) (fun c => ?_)
          · have h := hif.1 c
            clear hif
            refine g_iinc C (k := 4) (v := x5 + 1) dX12_comesOf_111 (q := 114) rfl rfl rfl (by decide) (lv' := [(5, .int (x5 + 1)), (0, g_r Y 59), (2, .int x2), (3, .int x3), (4, .int x4)]) rfl ?_
            refine g_goto C dX12_comesOf_114 (tgt := 46) (by decide) ?_
            refine g_sub [1, 2, 3, 4, 0] (lv' := [(0, g_r Y 59), (2, .int x2), (3, .int x3), (4, .int x4), (5, .int (x5 + 1))]) rfl ?_
            exact ih x2 x3 x4 (x5 + 1) M h
          · have h := hif.2 c
            clear hif
            refine g_aload_n C 0 dX12_comesOf_88 (q := 89) rfl rfl rfl ?_
            refine g_get C (k := 59) (i := 22) (by decide) (gc_59 Y _ _) rfl kU_X12 (by decide) kF_X12_38 rfl dX12_comesOf_89 (q := 92) rfl ?_
            refine g_iload C 4 dX12_comesOf_92 (q := 94) rfl rfl ?_
            refine g_iload C 3 dX12_comesOf_94 (q := 96) rfl rfl ?_
            obtain ⟨M8, hM8, h⟩ := g_bind h
            refine g_iast C (k := 69) (n := 40) (by decide) (fun a => gc_69 Y a _) hM8 dX12_comesOf_96 (q := 97) rfl ?_
            refine g_iload_n C 1 dX12_comesOf_97 (q := 98) rfl rfl rfl ?_
            refine g_iconst C (v := 1) dX12_comesOf_98 (q := 99) rfl (by decide) ?_
            refine g_aload_n C 0 dX12_comesOf_99 (q := 100) rfl rfl rfl ?_
            refine g_iload C 4 dX12_comesOf_100 (q := 102) rfl rfl ?_
            refine g_iconst C (v := 3) dX12_comesOf_102 (q := 103) rfl (by decide) ?_
            obtain ⟨p9, hp9, h⟩ := g_bind h
            refine g_callV C (k := 59) (as := [.int x5, .int 3]) (st := [.int 1, .int x2]) (m_X12_hang hp9) (g_hR (by decide)) (by decide) (by decide) (gc_59 Y _ _) rfl kM_X12_245 kI_X12_hang kS_X12_hang kN_X12 kC_X12_hang kD_X12_hang rfl (Nat.le_of_ble_eq_true rfl) dX12_comesOf_103 (q := 106) rfl ?_
            show g_G 6 X Y 106 [(0, g_r Y 59), (2, .int x2), (3, .int x3), (4, .int x4), (5, .int x5)] [.int p9, .int 1, .int x2] M8
            refine g_ishl C dX12_comesOf_106 (q := 107) rfl ?_
            refine g_ior C dX12_comesOf_107 (q := 108) rfl ?_
            obtain ⟨y10, hy10, h⟩ := g_bind h
            refine g_top hy10 ?_
            refine g_istore_n C dX12_comesOf_108 (q := 109) rfl rfl (by decide) (lv' := [(2, .int y10), (0, g_r Y 59), (3, .int x3), (4, .int x4), (5, .int x5)]) rfl ?_
            refine g_iconst C (v := 1) dX12_comesOf_109 (q := 110) rfl (by decide) ?_
            refine g_istore_n C dX12_comesOf_110 (q := 111) rfl rfl (by decide) (lv' := [(3, .int 1), (2, .int y10), (0, g_r Y 59), (4, .int x4), (5, .int x5)]) rfl ?_
            refine g_iinc C (k := 4) (v := x5 + 1) dX12_comesOf_111 (q := 114) rfl rfl rfl (by decide) (lv' := [(5, .int (x5 + 1)), (3, .int 1), (2, .int y10), (0, g_r Y 59), (4, .int x4)]) rfl ?_
            refine g_goto C dX12_comesOf_114 (tgt := 46) (by decide) ?_
            refine g_sub [3, 2, 1, 4, 0] (lv' := [(0, g_r Y 59), (2, .int y10), (3, .int 1), (4, .int x4), (5, .int (x5 + 1))]) rfl ?_
            exact ih y10 1 x4 (x5 + 1) M8 h
theorem r_X12_comesOf_46 {p : Int32 × g_M} {k117 : Int32 → Int32 → Int32 → g_M → Option (Int32 × g_M)} (hk117 : ∀ (x2 : Int32) (x3 : Int32) (x4 : Int32) (M : g_M), k117 x2 x3 x4 M = some p → g_fr [68, 69] [] M p.2) (n : Nat) : ∀ (x2 : Int32) (x3 : Int32) (x4 : Int32) (x5 : Int32) (M : g_M), g_lp4 (F_X12_comesOf_46 k117) n x2 x3 x4 x5 M = some p → g_fr [68, 69] [] M p.2 := by
  induction n with
  | zero => intro x2 x3 x4 x5 M h; exact (g_nn h).elim
  | succ n ih =>
    intro x2 x3 x4 x5 M h
    have h : F_X12_comesOf_46 k117 (g_lp4 (F_X12_comesOf_46 k117) n) x2 x3 x4 x5 M = some p := h
    generalize g_lp4 (F_X12_comesOf_46 k117) n = k at h ih
    unfold F_X12_comesOf_46 at h
    have hf := g_fr.rfl (S := [68, 69]) (T := []) (M := M)
    obtain ⟨v4, -, h⟩ := g_bind h
    rcases g_ifs h with h | h
    · exact hf.trans (hk117 x2 x3 x4 M h)
    · obtain ⟨p5, -, h⟩ := g_bind h
      rcases g_ifs h with h | h
      · obtain ⟨v6, -, h⟩ := g_bind h
        rcases g_ifs h with h | h
        · obtain ⟨v7, -, h⟩ := g_bind h
          rcases g_ifs h with h | h
          · exact hf.trans (ih x2 x3 x4 (x5 + 1) M h)
          · obtain ⟨M8, hM8, h⟩ := g_bind h
            have hf := hf.st hM8 (by decide)
            obtain ⟨p9, -, h⟩ := g_bind h
            obtain ⟨y10, -, h⟩ := g_bind h
            exact hf.trans (ih y10 1 x4 (x5 + 1) M8 h)
        · exact hf.trans (ih x2 x3 x4 (x5 + 1) M h)
      · exact hf.trans (ih x2 x3 x4 (x5 + 1) M h)
def F_X12_comesOf_32 (k123 : Int32 → g_M → Option (Int32 × g_M)) (k : Int32 → Int32 → Int32 → g_M → Option (Int32 × g_M)) (x2 : Int32) (x3 : Int32) (x4 : Int32) (M : g_M) : Option (Int32 × g_M) :=
  (if x3 = 0 then (k123 x2 M) else ((f_X12_opensWith x2 M).bind fun p3 => g_lp4 (F_X12_comesOf_46 (fun (x2 : Int32) (x3 : Int32) (x4 : Int32) (M : g_M) => k x2 x3 (x4 + 1) M)) 20000000 x2 0 x4 0 p3))
set_option maxRecDepth 100000 in
theorem t_X12_comesOf_32 {l : Launch} {X : g_X} {Y : g_Y} {p : Int32 × g_M} {k123 : Int32 → g_M → Option (Int32 × g_M)} (C : g_C l (g_rm (2)) RX12 cX12_comesOf 6 X Y) (E : g_E (some .int) X Y (some (.int p.1)) p.2) (hk123 : ∀ (x2 : Int32) (M : g_M), k123 x2 M = some p → g_G 6 X Y 123 [(2, .int x2)] [] M) (n : Nat) : ∀ (x2 : Int32) (x3 : Int32) (x4 : Int32) (M : g_M), g_lp3 (F_X12_comesOf_32 k123) n x2 x3 x4 M = some p → g_G 6 X Y 32 [(0, g_r Y 59), (2, .int x2), (3, .int x3), (4, .int x4)] [] M := by
  induction n with
  | zero => intro x2 x3 x4 M h; exact (g_nn h).elim
  | succ n ih =>
    intro x2 x3 x4 M h
    have h : F_X12_comesOf_32 k123 (g_lp3 (F_X12_comesOf_32 k123) n) x2 x3 x4 M = some p := h
    generalize g_lp3 (F_X12_comesOf_32 k123) n = k at h ih
    unfold F_X12_comesOf_32 at h
    refine g_iload_n C 2 dX12_comesOf_32 (q := 33) rfl rfl rfl ?_
    have hif := g_if h
    clear h
    refine g_if_eq C dX12_comesOf_33 (q := 36) (tgt := 123) rfl (by decide) (fun c => ?_) (fun c => ?_)
    · have h := hif.1 c
      clear hif
      refine g_sub [1] (lv' := [(2, .int x2)]) rfl ?_
      exact hk123 x2 M h
    · have h := hif.2 c
      clear hif
      refine g_iconst C (v := 0) dX12_comesOf_36 (q := 37) rfl (by decide) ?_
      refine g_istore_n C dX12_comesOf_37 (q := 38) rfl rfl (by decide) (lv' := [(3, .int 0), (0, g_r Y 59), (2, .int x2), (4, .int x4)]) rfl ?_
      refine g_aload_n C 1 dX12_comesOf_38 (q := 39) rfl rfl rfl ?_
      refine g_iload_n C 2 dX12_comesOf_39 (q := 40) rfl rfl rfl ?_
      obtain ⟨p3, hp3, h⟩ := g_bind h
      refine g_callV C (k := 59) (as := [.int x2]) (st := []) (m_X12_opensWith hp3) (g_hR (by decide)) (by decide) (by decide) (gc_59 Y _ _) rfl kM_X12_251 kI_X12_opensWith kS_X12_opensWith kN_X12 kC_X12_opensWith kD_X12_opensWith rfl (Nat.le_of_ble_eq_true rfl) dX12_comesOf_40 (q := 43) rfl ?_
      show g_G 6 X Y 43 [(3, .int 0), (0, g_r Y 59), (2, .int x2), (4, .int x4)] [] p3
      refine g_iconst C (v := 0) dX12_comesOf_43 (q := 44) rfl (by decide) ?_
      refine g_istore C dX12_comesOf_44 (q := 46) rfl (by decide) (lv' := [(5, .int 0), (3, .int 0), (0, g_r Y 59), (2, .int x2), (4, .int x4)]) rfl ?_
      refine g_sub [2, 3, 1, 4, 0] (lv' := [(0, g_r Y 59), (2, .int x2), (3, .int 0), (4, .int x4), (5, .int 0)]) rfl ?_
      refine t_X12_comesOf_46 C E ?_ 20000000 x2 0 x4 0 p3 h
      · intro x2 x3 x4 M h
        try dsimp only at h
        refine g_iinc C (k := 3) (v := x4 + 1) dX12_comesOf_117 (q := 120) rfl rfl rfl (by decide) (lv' := [(4, .int (x4 + 1)), (0, g_r Y 59), (2, .int x2), (3, .int x3)]) rfl ?_
        refine g_goto C dX12_comesOf_120 (tgt := 32) (by decide) ?_
        refine g_sub [1, 2, 3, 0] (lv' := [(0, g_r Y 59), (2, .int x2), (3, .int x3), (4, .int (x4 + 1))]) rfl ?_
        exact ih x2 x3 (x4 + 1) M h
theorem r_X12_comesOf_32 {p : Int32 × g_M} {k123 : Int32 → g_M → Option (Int32 × g_M)} (hk123 : ∀ (x2 : Int32) (M : g_M), k123 x2 M = some p → g_fr [68, 69] [] M p.2) (n : Nat) : ∀ (x2 : Int32) (x3 : Int32) (x4 : Int32) (M : g_M), g_lp3 (F_X12_comesOf_32 k123) n x2 x3 x4 M = some p → g_fr [68, 69] [] M p.2 := by
  induction n with
  | zero => intro x2 x3 x4 M h; exact (g_nn h).elim
  | succ n ih =>
    intro x2 x3 x4 M h
    have h : F_X12_comesOf_32 k123 (g_lp3 (F_X12_comesOf_32 k123) n) x2 x3 x4 M = some p := h
    generalize g_lp3 (F_X12_comesOf_32 k123) n = k at h ih
    unfold F_X12_comesOf_32 at h
    have hf := g_fr.rfl (S := [68, 69]) (T := []) (M := M)
    rcases g_ifs h with h | h
    · exact hf.trans (hk123 x2 M h)
    · obtain ⟨p3, hp3, h⟩ := g_bind h
      have hf := hf.trans ((r_X12_opensWith hp3).mono (by decide) (by decide))
      refine hf.trans (r_X12_comesOf_46 ?_ 20000000 x2 0 x4 0 p3 h)
      · intro x2 x3 x4 M h
        try dsimp only at h
        have hf := g_fr.rfl (S := [68, 69]) (T := []) (M := M)
        exact hf.trans (ih x2 x3 (x4 + 1) M h)
def f_X12_comesOf (x1 : Int32) (M : g_M) : Option (Int32 × g_M) :=
  g_lp2 (F_X12_comesOf_4 (fun (x2 : Int32) (M : g_M) => g_lp3 (F_X12_comesOf_32 (fun (x2 : Int32) (M : g_M) => some (x2, M))) 20000000 x2 1 1 M)) 20000000 x1 0 M
set_option maxRecDepth 100000 in
theorem m_X12_comesOf {l : Launch} {Y : g_Y} {x1 : Int32} {M : g_M} {p : Int32 × g_M} (h : f_X12_comesOf x1 M = some p) : g_R l Y (2) yX12_comesOf cX12_comesOf 6 (some .int) [g_r Y 59, .int x1] M (some (.int p.1)) p.2 := by
  unfold f_X12_comesOf at h
  refine g_R_of kP_X12 rfl (Nat.le_of_ble_eq_true rfl) (fun X C E => ?_)
  show g_G 6 X Y 0 [(0, g_r Y 59), (1, .int x1)] [] M
  refine g_iload_n C 1 dX12_comesOf_0 (q := 1) rfl rfl rfl ?_
  refine g_istore_n C dX12_comesOf_1 (q := 2) rfl rfl (by decide) (lv' := [(2, .int x1), (0, g_r Y 59), (1, .int x1)]) rfl ?_
  refine g_iconst C (v := 0) dX12_comesOf_2 (q := 3) rfl (by decide) ?_
  refine g_istore_n C dX12_comesOf_3 (q := 4) rfl rfl (by decide) (lv' := [(3, .int 0), (2, .int x1), (0, g_r Y 59), (1, .int x1)]) rfl ?_
  refine g_sub [2, 1, 0] (lv' := [(0, g_r Y 59), (2, .int x1), (3, .int 0)]) rfl ?_
  refine t_X12_comesOf_4 C E ?_ 20000000 x1 0 M h
  · intro x2 M h
    try dsimp only at h
    refine g_iconst C (v := 1) dX12_comesOf_27 (q := 28) rfl (by decide) ?_
    refine g_istore_n C dX12_comesOf_28 (q := 29) rfl rfl (by decide) (lv' := [(3, .int 1), (0, g_r Y 59), (2, .int x2)]) rfl ?_
    refine g_iconst C (v := 1) dX12_comesOf_29 (q := 30) rfl (by decide) ?_
    refine g_istore C dX12_comesOf_30 (q := 32) rfl (by decide) (lv' := [(4, .int 1), (3, .int 1), (0, g_r Y 59), (2, .int x2)]) rfl ?_
    refine g_sub [2, 3, 1, 0] (lv' := [(0, g_r Y 59), (2, .int x2), (3, .int 1), (4, .int 1)]) rfl ?_
    refine t_X12_comesOf_32 C E ?_ 20000000 x2 1 1 M h
    · intro x2 M h
      try dsimp only at h
      refine g_iload_n C 0 dX12_comesOf_123 (q := 124) rfl rfl rfl ?_
      obtain rfl := Option.some.inj h
      exact g_iret C E dX12_comesOf_124
theorem r_X12_comesOf {x1 : Int32} {M : g_M} {p : Int32 × g_M} (h : f_X12_comesOf x1 M = some p) : g_fr [68, 69] [] M p.2 := by
  unfold f_X12_comesOf at h
  have hf := g_fr.rfl (S := [68, 69]) (T := []) (M := M)
  refine hf.trans (r_X12_comesOf_4 ?_ 20000000 x1 0 M h)
  · intro x2 M h
    try dsimp only at h
    have hf := g_fr.rfl (S := [68, 69]) (T := []) (M := M)
    refine hf.trans (r_X12_comesOf_32 ?_ 20000000 x2 1 1 M h)
    · intro x2 M h
      try dsimp only at h
      have hf := g_fr.rfl (S := [68, 69]) (T := []) (M := M)
      obtain rfl := Option.some.inj h
      exact hf
def F_X12_keysOf_4 (M : g_M) (k57 : Int32 → Option (Int32)) (k : Int32 → Int32 → Int32 → Option (Int32)) (x1 : Int32) (x2 : Int32) (x3 : Int32) : Option (Int32) :=
  (g_ld M 60 1208 0).bind fun v1 => (if v1 ≤ x3 then (k57 x2) else ((if ((x1 >>> (x3 &&& 31)) &&& 1) = 1 then ((g_ld M 60 1208 (20 + x3)).bind fun v2 => (if v2 = 0 then ((g_ld M 60 1208 (30 + x3)).bind fun v3 => k x1 (x2 ||| v3) (x3 + 1)) else (k x1 (x2 ||| 0) (x3 + 1)))) else (k x1 (x2 ||| 0) (x3 + 1)))))
set_option maxRecDepth 100000 in
theorem t_X12_keysOf_4 {l : Launch} {X : g_X} {Y : g_Y} {p : Int32} {M : g_M} {k57 : Int32 → Option (Int32)} (C : g_C l (g_rm (0)) RX12 cX12_keysOf 4 X Y) (E : g_E (some .int) X Y (some (.int p)) M) (hk57 : ∀ (x2 : Int32), k57 x2 = some p → g_G 4 X Y 57 [(2, .int x2)] [] M) (n : Nat) : ∀ (x1 : Int32) (x2 : Int32) (x3 : Int32), g_lq3 (F_X12_keysOf_4 M k57) n x1 x2 x3 = some p → g_G 4 X Y 4 [(0, g_r Y 59), (1, .int x1), (2, .int x2), (3, .int x3)] [] M := by
  induction n with
  | zero => intro x1 x2 x3 h; exact (g_nn h).elim
  | succ n ih =>
    intro x1 x2 x3 h
    have h : F_X12_keysOf_4 M k57 (g_lq3 (F_X12_keysOf_4 M k57) n) x1 x2 x3 = some p := h
    generalize g_lq3 (F_X12_keysOf_4 M k57) n = k at h ih
    unfold F_X12_keysOf_4 at h
    refine g_iload_n C 3 dX12_keysOf_4 (q := 5) rfl rfl rfl ?_
    refine g_aload_n C 0 dX12_keysOf_5 (q := 6) rfl rfl rfl ?_
    refine g_get C (k := 59) (i := 0) (by decide) (gc_59 Y _ _) rfl kU_X12 (by decide) kF_X12_7 rfl dX12_keysOf_6 (q := 9) rfl ?_
    refine g_iconst C (v := 0) dX12_keysOf_9 (q := 10) rfl (by decide) ?_
    obtain ⟨v1, hv1, h⟩ := g_bind h
    refine g_iald C (k := 60) (n := 1208) (by decide) (gc_60 Y _ _) hv1 dX12_keysOf_10 (q := 11) rfl ?_
    have hif := g_if h
    clear h
    refine g_icmp_ge C dX12_keysOf_11 (q := 14) (tgt := 57) rfl (by decide) (fun c => ?_) (fun c => ?_)
    · have h := hif.1 c
      clear hif
      refine g_sub [2] (lv' := [(2, .int x2)]) rfl ?_
      exact hk57 x2 h
    · have h := hif.2 c
      clear hif
      refine g_iload_n C 2 dX12_keysOf_14 (q := 15) rfl rfl rfl ?_
      refine g_iload_n C 1 dX12_keysOf_15 (q := 16) rfl rfl rfl ?_
      refine g_iload_n C 3 dX12_keysOf_16 (q := 17) rfl rfl rfl ?_
      refine g_ishr C dX12_keysOf_17 (q := 18) rfl ?_
      refine g_iconst C (v := 1) dX12_keysOf_18 (q := 19) rfl (by decide) ?_
      refine g_iand C dX12_keysOf_19 (q := 20) rfl ?_
      refine g_iconst C (v := 1) dX12_keysOf_20 (q := 21) rfl (by decide) ?_
      have hif := g_if h
      clear h
      refine g_icmp_ne C dX12_keysOf_21 (q := 24) (tgt := 48) rfl (by decide) (fun c => ?_) (fun c => ?_)
      · have h := hif.2 c
        clear hif
        refine g_iconst C (v := 0) dX12_keysOf_48 (q := 49) rfl (by decide) ?_
        refine g_ior C dX12_keysOf_49 (q := 50) rfl ?_
        refine g_istore_n C dX12_keysOf_50 (q := 51) rfl rfl (by decide) (lv' := [(2, .int (x2 ||| 0)), (0, g_r Y 59), (1, .int x1), (3, .int x3)]) rfl ?_
        refine g_iinc C (k := 3) (v := x3 + 1) dX12_keysOf_51 (q := 54) rfl rfl rfl (by decide) (lv' := [(3, .int (x3 + 1)), (2, .int (x2 ||| 0)), (0, g_r Y 59), (1, .int x1)]) rfl ?_
        refine g_goto C dX12_keysOf_54 (tgt := 4) (by decide) ?_
        refine g_sub [2, 3, 1, 0] (lv' := [(0, g_r Y 59), (1, .int x1), (2, .int (x2 ||| 0)), (3, .int (x3 + 1))]) rfl ?_
        exact ih x1 (x2 ||| 0) (x3 + 1) h
      · have h := hif.1 c
        clear hif
        refine g_aload_n C 0 dX12_keysOf_24 (q := 25) rfl rfl rfl ?_
        refine g_get C (k := 59) (i := 0) (by decide) (gc_59 Y _ _) rfl kU_X12 (by decide) kF_X12_7 rfl dX12_keysOf_25 (q := 28) rfl ?_
        refine g_bipush C (v := 20) dX12_keysOf_28 (q := 30) rfl (by decide) ?_
        refine g_iload_n C 3 dX12_keysOf_30 (q := 31) rfl rfl rfl ?_
        refine g_iadd C dX12_keysOf_31 (q := 32) rfl ?_
        obtain ⟨v2, hv2, h⟩ := g_bind h
        refine g_iald C (k := 60) (n := 1208) (by decide) (gc_60 Y _ _) hv2 dX12_keysOf_32 (q := 33) rfl ?_
        have hif := g_if h
        clear h
        refine g_if_ne C dX12_keysOf_33 (q := 36) (tgt := 48) rfl (by decide) (fun c => ?_) (fun c => ?_)
        · have h := hif.2 c
          clear hif
          refine g_iconst C (v := 0) dX12_keysOf_48 (q := 49) rfl (by decide) ?_
          refine g_ior C dX12_keysOf_49 (q := 50) rfl ?_
          refine g_istore_n C dX12_keysOf_50 (q := 51) rfl rfl (by decide) (lv' := [(2, .int (x2 ||| 0)), (0, g_r Y 59), (1, .int x1), (3, .int x3)]) rfl ?_
          refine g_iinc C (k := 3) (v := x3 + 1) dX12_keysOf_51 (q := 54) rfl rfl rfl (by decide) (lv' := [(3, .int (x3 + 1)), (2, .int (x2 ||| 0)), (0, g_r Y 59), (1, .int x1)]) rfl ?_
          refine g_goto C dX12_keysOf_54 (tgt := 4) (by decide) ?_
          refine g_sub [2, 3, 1, 0] (lv' := [(0, g_r Y 59), (1, .int x1), (2, .int (x2 ||| 0)), (3, .int (x3 + 1))]) rfl ?_
          exact ih x1 (x2 ||| 0) (x3 + 1) h
        · have h := hif.1 c
          clear hif
          refine g_aload_n C 0 dX12_keysOf_36 (q := 37) rfl rfl rfl ?_
          refine g_get C (k := 59) (i := 0) (by decide) (gc_59 Y _ _) rfl kU_X12 (by decide) kF_X12_7 rfl dX12_keysOf_37 (q := 40) rfl ?_
          refine g_bipush C (v := 30) dX12_keysOf_40 (q := 42) rfl (by decide) ?_
          refine g_iload_n C 3 dX12_keysOf_42 (q := 43) rfl rfl rfl ?_
          refine g_iadd C dX12_keysOf_43 (q := 44) rfl ?_
          obtain ⟨v3, hv3, h⟩ := g_bind h
          refine g_iald C (k := 60) (n := 1208) (by decide) (gc_60 Y _ _) hv3 dX12_keysOf_44 (q := 45) rfl ?_
          refine g_goto C dX12_keysOf_45 (tgt := 49) (by decide) ?_
          refine g_ior C dX12_keysOf_49 (q := 50) rfl ?_
          refine g_istore_n C dX12_keysOf_50 (q := 51) rfl rfl (by decide) (lv' := [(2, .int (x2 ||| v3)), (0, g_r Y 59), (1, .int x1), (3, .int x3)]) rfl ?_
          refine g_iinc C (k := 3) (v := x3 + 1) dX12_keysOf_51 (q := 54) rfl rfl rfl (by decide) (lv' := [(3, .int (x3 + 1)), (2, .int (x2 ||| v3)), (0, g_r Y 59), (1, .int x1)]) rfl ?_
          refine g_goto C dX12_keysOf_54 (tgt := 4) (by decide) ?_
          refine g_sub [2, 3, 1, 0] (lv' := [(0, g_r Y 59), (1, .int x1), (2, .int (x2 ||| v3)), (3, .int (x3 + 1))]) rfl ?_
          exact ih x1 (x2 ||| v3) (x3 + 1) h
def f_X12_keysOf (x1 : Int32) (M : g_M) : Option (Int32) :=
  g_lq3 (F_X12_keysOf_4 M (fun (x2 : Int32) => some x2)) 20000000 x1 0 0
set_option maxRecDepth 100000 in
theorem m_X12_keysOf {l : Launch} {Y : g_Y} {x1 : Int32} {M : g_M} {p : Int32} (h : f_X12_keysOf x1 M = some p) : g_R l Y (0) yX12_keysOf cX12_keysOf 4 (some .int) [g_r Y 59, .int x1] M (some (.int p)) M := by
  unfold f_X12_keysOf at h
  refine g_R_of kP_X12 rfl (Nat.le_of_ble_eq_true rfl) (fun X C E => ?_)
  show g_G 4 X Y 0 [(0, g_r Y 59), (1, .int x1)] [] M
  refine g_iconst C (v := 0) dX12_keysOf_0 (q := 1) rfl (by decide) ?_
  refine g_istore_n C dX12_keysOf_1 (q := 2) rfl rfl (by decide) (lv' := [(2, .int 0), (0, g_r Y 59), (1, .int x1)]) rfl ?_
  refine g_iconst C (v := 0) dX12_keysOf_2 (q := 3) rfl (by decide) ?_
  refine g_istore_n C dX12_keysOf_3 (q := 4) rfl rfl (by decide) (lv' := [(3, .int 0), (2, .int 0), (0, g_r Y 59), (1, .int x1)]) rfl ?_
  refine g_sub [2, 3, 1, 0] (lv' := [(0, g_r Y 59), (1, .int x1), (2, .int 0), (3, .int 0)]) rfl ?_
  refine t_X12_keysOf_4 C E ?_ 20000000 x1 0 0 h
  · intro x2 h
    try dsimp only at h
    refine g_iload_n C 0 dX12_keysOf_57 (q := 58) rfl rfl rfl ?_
    obtain rfl := Option.some.inj h
    exact g_iret C E dX12_keysOf_58
