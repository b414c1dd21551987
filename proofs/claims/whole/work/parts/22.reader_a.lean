def f_X9_pass_18 (s0 : Int32) (M : g_M) : Option (Int32 × g_M) :=
  (if s0 = 0 then ((some (g_u M 32 6 ((M.1 32 6) + 0))).bind fun M2 => (g_bz s0).bind fun z3 => some (z3, M2)) else ((some (g_u M 32 6 ((M.1 32 6) + 1))).bind fun M4 => (g_bz s0).bind fun z5 => some (z5, M4)))
set_option maxRecDepth 100000 in
theorem t_X9_pass_18 {l : Launch} {X : g_X} {Y : g_Y} {p : Int32 × g_M} (C : g_C l (g_rm (0)) RX9 cX9_pass 3 X Y) (E : g_E (some .boolean) X Y (some (.int p.1)) p.2) (s0 : Int32) (M : g_M) (h : f_X9_pass_18 s0 M = some p) : g_G 3 X Y 18 [(0, g_r Y 32)] [.int s0] M := by
  unfold f_X9_pass_18 at h
  refine g_istore_n C dX9_pass_18 (q := 19) rfl rfl (by decide) (lv' := [(2, .int s0), (0, g_r Y 32)]) rfl ?_
  refine g_aload_n C 1 dX9_pass_19 (q := 20) rfl rfl rfl ?_
  refine g_dup C dX9_pass_20 (q := 21) rfl rfl ?_
  refine g_get C (k := 32) (i := 6) (by decide) (gc_32 Y _ _) rfl kU_X9 (by decide) kF_X9_38 rfl dX9_pass_21 (q := 24) rfl ?_
  refine g_iload_n C 0 dX9_pass_24 (q := 25) rfl rfl rfl ?_
  have hif := g_if h
  clear h
  refine g_if_eq C dX9_pass_25 (q := 28) (tgt := 32) rfl (by decide) (fun c => ?_) (fun c => ?_)
  · have h := hif.1 c
    clear hif
    refine g_iconst C (v := 0) dX9_pass_32 (q := 33) rfl (by decide) ?_
    refine g_iadd C dX9_pass_33 (q := 34) rfl ?_
    obtain ⟨M2, hM2, h⟩ := g_bind h
    refine g_put C (k := 32) (i := 6) (ty := .int) (by decide) (gc_32 Y _ _) (gp_32_6 Y _ _ _) rfl kU_X9 tyX9_ok nmX9 (by decide) kF_X9_38 rfl rfl rfl rfl (Nat.le_of_ble_eq_true rfl) dX9_pass_34 (q := 37) rfl ?_
    refine g_mem hM2 ?_
    refine g_iload_n C 0 dX9_pass_37 (q := 38) rfl rfl rfl ?_
    obtain ⟨z3, hz3, h⟩ := g_bind h
    obtain rfl := Option.some.inj h
    exact g_zret C hz3 E dX9_pass_38
  · have h := hif.2 c
    clear hif
    refine g_iconst C (v := 1) dX9_pass_28 (q := 29) rfl (by decide) ?_
    refine g_goto C dX9_pass_29 (tgt := 33) (by decide) ?_
    refine g_iadd C dX9_pass_33 (q := 34) rfl ?_
    obtain ⟨M4, hM4, h⟩ := g_bind h
    refine g_put C (k := 32) (i := 6) (ty := .int) (by decide) (gc_32 Y _ _) (gp_32_6 Y _ _ _) rfl kU_X9 tyX9_ok nmX9 (by decide) kF_X9_38 rfl rfl rfl rfl (Nat.le_of_ble_eq_true rfl) dX9_pass_34 (q := 37) rfl ?_
    refine g_mem hM4 ?_
    refine g_iload_n C 0 dX9_pass_37 (q := 38) rfl rfl rfl ?_
    obtain ⟨z5, hz5, h⟩ := g_bind h
    obtain rfl := Option.some.inj h
    exact g_zret C hz5 E dX9_pass_38
theorem r_X9_pass_18 {p : Int32 × g_M} (s0 : Int32) (M : g_M) (h : f_X9_pass_18 s0 M = some p) : g_fr [] [(32, 6)] M p.2 := by
  unfold f_X9_pass_18 at h
  have hf := g_fr.rfl (S := []) (T := [(32, 6)]) (M := M)
  rcases g_ifs h with h | h
  · obtain ⟨M2, hM2, h⟩ := g_bind h
    have hf := hf.pu hM2 (by decide)
    obtain ⟨z3, -, h⟩ := g_bind h
    obtain rfl := Option.some.inj h
    exact hf
  · obtain ⟨M4, hM4, h⟩ := g_bind h
    have hf := hf.pu hM4 (by decide)
    obtain ⟨z5, -, h⟩ := g_bind h
    obtain rfl := Option.some.inj h
    exact hf
def f_X9_pass (x1 : Int32) (M : g_M) : Option (Int32 × g_M) :=
  (g_ld M 77 121 (M.1 32 6)).bind fun v1 => (if v1 = x1 then (f_X9_pass_18 1 M) else (f_X9_pass_18 0 M))
set_option maxRecDepth 100000 in
theorem m_X9_pass {l : Launch} {Y : g_Y} {x1 : Int32} {M : g_M} {p : Int32 × g_M} (h : f_X9_pass x1 M = some p) : g_R l Y (0) yX9_pass cX9_pass 3 (some .boolean) [g_r Y 32, .int x1] M (some (.int p.1)) p.2 := by
  unfold f_X9_pass at h
  refine g_R_of kP_X9 rfl (Nat.le_of_ble_eq_true rfl) (fun X C E => ?_)
  show g_G 3 X Y 0 [(0, g_r Y 32), (1, .int x1)] [] M
  refine g_aload_n C 0 dX9_pass_0 (q := 1) rfl rfl rfl ?_
  refine g_get C (k := 32) (i := 3) (by decide) (gc_32 Y _ _) rfl kU_X9 (by decide) kF_X9_22 rfl dX9_pass_1 (q := 4) rfl ?_
  refine g_aload_n C 0 dX9_pass_4 (q := 5) rfl rfl rfl ?_
  refine g_get C (k := 32) (i := 6) (by decide) (gc_32 Y _ _) rfl kU_X9 (by decide) kF_X9_38 rfl dX9_pass_5 (q := 8) rfl ?_
  obtain ⟨v1, hv1, h⟩ := g_bind h
  refine g_iald C (k := 77) (n := 121) (by decide) (gc_77 Y _ _) hv1 dX9_pass_8 (q := 9) rfl ?_
  refine g_iload_n C 1 dX9_pass_9 (q := 10) rfl rfl rfl ?_
  have hif := g_if h
  clear h
  refine g_icmp_ne C dX9_pass_10 (q := 13) (tgt := 17) rfl (by decide) (fun c => ?_) (fun c => ?_)
  · have h := hif.2 c
    clear hif
    refine g_iconst C (v := 0) dX9_pass_17 (q := 18) rfl (by decide) ?_
    refine g_sub [0] (lv' := [(0, g_r Y 32)]) rfl ?_
    exact t_X9_pass_18 C E 0 M h
  · have h := hif.1 c
    clear hif
    refine g_iconst C (v := 1) dX9_pass_13 (q := 14) rfl (by decide) ?_
    refine g_goto C dX9_pass_14 (tgt := 18) (by decide) ?_
    refine g_sub [0] (lv' := [(0, g_r Y 32)]) rfl ?_
    exact t_X9_pass_18 C E 1 M h
theorem r_X9_pass {x1 : Int32} {M : g_M} {p : Int32 × g_M} (h : f_X9_pass x1 M = some p) : g_fr [] [(32, 6)] M p.2 := by
  unfold f_X9_pass at h
  have hf := g_fr.rfl (S := []) (T := [(32, 6)]) (M := M)
  obtain ⟨v1, -, h⟩ := g_bind h
  rcases g_ifs h with h | h
  · exact hf.trans (r_X9_pass_18 1 M h)
  · exact hf.trans (r_X9_pass_18 0 M h)
def f_X9_emit (x1 : Int32) (x2 : Int32) (x3 : Int32) (M : g_M) : Option (Int32 × g_M) :=
  (if 120 ≤ (M.1 32 2) then (some (1, M)) else ((f_X10_step x1 x2 x3 M).bind fun p1 => (g_st M 35 120 (M.1 32 2) p1).bind fun M2 => (some (g_u M2 32 2 ((M2.1 32 2) + 1))).bind fun M3 => some (1, M3)))
set_option maxRecDepth 100000 in
theorem m_X9_emit {l : Launch} {Y : g_Y} {x1 : Int32} {x2 : Int32} {x3 : Int32} {M : g_M} {p : Int32 × g_M} (h : f_X9_emit x1 x2 x3 M = some p) : g_R l Y (1) yX9_emit cX9_emit 4 (some .boolean) [g_r Y 32, .int x1, .int x2, .int x3] M (some (.int p.1)) p.2 := by
  unfold f_X9_emit at h
  refine g_R_of kP_X9 rfl (Nat.le_of_ble_eq_true rfl) (fun X C E => ?_)
  show g_G 4 X Y 0 [(0, g_r Y 32), (1, .int x1), (2, .int x2), (3, .int x3)] [] M
  refine g_aload_n C 0 dX9_emit_0 (q := 1) rfl rfl rfl ?_
  refine g_get C (k := 32) (i := 2) (by decide) (gc_32 Y _ _) rfl kU_X9 (by decide) kF_X9_34 rfl dX9_emit_1 (q := 4) rfl ?_
  refine g_bipush C (v := 120) dX9_emit_4 (q := 6) rfl (by decide) ?_
  have hif := g_if h
  clear h
  refine g_icmp_ge C dX9_emit_6 (q := 9) (tgt := 34) rfl (by decide) (fun c => ?_) (fun c => ?_)
  · have h := hif.1 c
    clear hif
    refine g_iconst C (v := 1) dX9_emit_34 (q := 35) rfl (by decide) ?_
    obtain rfl := Option.some.inj h
    exact g_zret C (g_bz_lit (by decide)) E dX9_emit_35
  · have h := hif.2 c
    clear hif
    refine g_aload_n C 0 dX9_emit_9 (q := 10) rfl rfl rfl ?_
    refine g_get C (k := 32) (i := 1) (by decide) (gc_32 Y _ _) rfl kU_X9 (by decide) kF_X9_18 rfl dX9_emit_10 (q := 13) rfl ?_
    refine g_aload_n C 0 dX9_emit_13 (q := 14) rfl rfl rfl ?_
    refine g_get C (k := 32) (i := 2) (by decide) (gc_32 Y _ _) rfl kU_X9 (by decide) kF_X9_34 rfl dX9_emit_14 (q := 17) rfl ?_
    refine g_iload_n C 1 dX9_emit_17 (q := 18) rfl rfl rfl ?_
    refine g_iload_n C 2 dX9_emit_18 (q := 19) rfl rfl rfl ?_
    refine g_iload_n C 3 dX9_emit_19 (q := 20) rfl rfl rfl ?_
    obtain ⟨p1, hp1, h⟩ := g_bind h
    refine g_callS C (as := [.int x1, .int x2, .int x3]) (st := [.int (M.1 32 2), g_r Y 35]) (m_X10_step hp1) (g_hR (by decide)) (by decide) kM_X9_70 kT_X10_step kN_X10 kC_X10_step kD_X10_step rfl (Nat.le_of_ble_eq_true rfl) dX9_emit_20 (q := 23) rfl ?_
    show g_G 4 X Y 23 [(0, g_r Y 32), (1, .int x1), (2, .int x2), (3, .int x3)] [.int p1, .int (M.1 32 2), g_r Y 35] M
    obtain ⟨M2, hM2, h⟩ := g_bind h
    refine g_iast C (k := 35) (n := 120) (by decide) (fun a => gc_35 Y a _) hM2 dX9_emit_23 (q := 24) rfl ?_
    refine g_aload_n C 0 dX9_emit_24 (q := 25) rfl rfl rfl ?_
    refine g_dup C dX9_emit_25 (q := 26) rfl rfl ?_
    refine g_get C (k := 32) (i := 2) (by decide) (gc_32 Y _ _) rfl kU_X9 (by decide) kF_X9_34 rfl dX9_emit_26 (q := 29) rfl ?_
    refine g_iconst C (v := 1) dX9_emit_29 (q := 30) rfl (by decide) ?_
    refine g_iadd C dX9_emit_30 (q := 31) rfl ?_
    obtain ⟨M3, hM3, h⟩ := g_bind h
    refine g_put C (k := 32) (i := 2) (ty := .int) (by decide) (gc_32 Y _ _) (gp_32_2 Y _ _ _) rfl kU_X9 tyX9_ok nmX9 (by decide) kF_X9_34 rfl rfl rfl rfl (Nat.le_of_ble_eq_true rfl) dX9_emit_31 (q := 34) rfl ?_
    refine g_mem hM3 ?_
    refine g_iconst C (v := 1) dX9_emit_34 (q := 35) rfl (by decide) ?_
    obtain rfl := Option.some.inj h
    exact g_zret C (g_bz_lit (by decide)) E dX9_emit_35
theorem r_X9_emit {x1 : Int32} {x2 : Int32} {x3 : Int32} {M : g_M} {p : Int32 × g_M} (h : f_X9_emit x1 x2 x3 M = some p) : g_fr [35] [(32, 2)] M p.2 := by
  unfold f_X9_emit at h
  have hf := g_fr.rfl (S := [35]) (T := [(32, 2)]) (M := M)
  rcases g_ifs h with h | h
  · obtain rfl := Option.some.inj h
    exact hf
  · obtain ⟨p1, -, h⟩ := g_bind h
    obtain ⟨M2, hM2, h⟩ := g_bind h
    have hf := hf.st hM2 (by decide)
    obtain ⟨M3, hM3, h⟩ := g_bind h
    have hf := hf.pu hM3 (by decide)
    obtain rfl := Option.some.inj h
    exact hf
def F_X9_readPart_52 (k131 : g_M → Option (Int32 × g_M)) (k : Int32 → Int32 → g_M → Option (Int32 × g_M)) (x1 : Int32) (x2 : Int32) (M : g_M) : Option (Int32 × g_M) :=
  (if x1 = 0 then (k131 M) else ((if 120 ≤ x2 then (k131 M) else ((g_ld M 79 121 (M.1 32 6)).bind fun v4 => (if 10 ≤ v4 then (k131 M) else ((g_ld M 79 121 (M.1 32 6)).bind fun v5 => (some (g_u M 32 7 ((M.1 32 7) ||| ((1 : Int32) <<< (v5 &&& 31))))).bind fun M6 => (some (g_u M6 32 6 ((M6.1 32 6) + 1))).bind fun M7 => (g_ld M7 77 121 (M7.1 32 6)).bind fun v8 => (if v8 = 2 then (k 1 (x2 + 1) M7) else (k 0 (x2 + 1) M7))))))))
set_option maxRecDepth 100000 in
theorem t_X9_readPart_52 {l : Launch} {X : g_X} {Y : g_Y} {p : Int32 × g_M} {k131 : g_M → Option (Int32 × g_M)} (C : g_C l (g_rm (1)) RX9 cX9_readPart 3 X Y) (E : g_E (some .boolean) X Y (some (.int p.1)) p.2) (hk131 : ∀ (M : g_M), k131 M = some p → g_G 3 X Y 131 [(0, g_r Y 32)] [] M) (n : Nat) : ∀ (x1 : Int32) (x2 : Int32) (M : g_M), g_lp2 (F_X9_readPart_52 k131) n x1 x2 M = some p → g_G 3 X Y 52 [(0, g_r Y 32), (1, .int x1), (2, .int x2)] [] M := by
  induction n with
  | zero => intro x1 x2 M h; exact (g_nn h).elim
  | succ n ih =>
    intro x1 x2 M h
    have h : F_X9_readPart_52 k131 (g_lp2 (F_X9_readPart_52 k131) n) x1 x2 M = some p := h
    generalize g_lp2 (F_X9_readPart_52 k131) n = k at h ih
    unfold F_X9_readPart_52 at h
    refine g_iload_n C 1 dX9_readPart_52 (q := 53) rfl rfl rfl ?_
    have hif := g_if h
    clear h
    refine g_if_eq C dX9_readPart_53 (q := 56) (tgt := 131) rfl (by decide) (fun c => ?_) (fun c => ?_)
    · have h := hif.1 c
      clear hif
      refine g_sub [0] (lv' := [(0, g_r Y 32)]) rfl ?_
      exact hk131 M h
    · have h := hif.2 c
      clear hif
      refine g_iload_n C 2 dX9_readPart_56 (q := 57) rfl rfl rfl ?_
      refine g_bipush C (v := 120) dX9_readPart_57 (q := 59) rfl (by decide) ?_
      have hif := g_if h
      clear h
      refine g_icmp_ge C dX9_readPart_59 (q := 62) (tgt := 131) rfl (by decide) (fun c => ?_) (fun c => ?_)
      · have h := hif.1 c
        clear hif
        refine g_sub [0] (lv' := [(0, g_r Y 32)]) rfl ?_
        exact hk131 M h
      · have h := hif.2 c
        clear hif
        refine g_aload_n C 0 dX9_readPart_62 (q := 63) rfl rfl rfl ?_
        refine g_get C (k := 32) (i := 5) (by decide) (gc_32 Y _ _) rfl kU_X9 (by decide) kF_X9_28 rfl dX9_readPart_63 (q := 66) rfl ?_
        refine g_aload_n C 0 dX9_readPart_66 (q := 67) rfl rfl rfl ?_
        refine g_get C (k := 32) (i := 6) (by decide) (gc_32 Y _ _) rfl kU_X9 (by decide) kF_X9_38 rfl dX9_readPart_67 (q := 70) rfl ?_
        obtain ⟨v4, hv4, h⟩ := g_bind h
        refine g_iald C (k := 79) (n := 121) (by decide) (gc_79 Y _ _) hv4 dX9_readPart_70 (q := 71) rfl ?_
        refine g_bipush C (v := 10) dX9_readPart_71 (q := 73) rfl (by decide) ?_
        have hif := g_if h
        clear h
        refine g_icmp_ge C dX9_readPart_73 (q := 76) (tgt := 131) rfl (by decide) (fun c => ?_) (fun c => ?_)
        · have h := hif.1 c
          clear hif
          refine g_sub [0] (lv' := [(0, g_r Y 32)]) rfl ?_
          exact hk131 M h
        · have h := hif.2 c
          clear hif
          refine g_aload_n C 0 dX9_readPart_76 (q := 77) rfl rfl rfl ?_
          refine g_dup C dX9_readPart_77 (q := 78) rfl rfl ?_
          refine g_get C (k := 32) (i := 7) (by decide) (gc_32 Y _ _) rfl kU_X9 (by decide) kF_X9_67 rfl dX9_readPart_78 (q := 81) rfl ?_
          refine g_iconst C (v := 1) dX9_readPart_81 (q := 82) rfl (by decide) ?_
          refine g_aload_n C 0 dX9_readPart_82 (q := 83) rfl rfl rfl ?_
          refine g_get C (k := 32) (i := 5) (by decide) (gc_32 Y _ _) rfl kU_X9 (by decide) kF_X9_28 rfl dX9_readPart_83 (q := 86) rfl ?_
          refine g_aload_n C 0 dX9_readPart_86 (q := 87) rfl rfl rfl ?_
          refine g_get C (k := 32) (i := 6) (by decide) (gc_32 Y _ _) rfl kU_X9 (by decide) kF_X9_38 rfl dX9_readPart_87 (q := 90) rfl ?_
          obtain ⟨v5, hv5, h⟩ := g_bind h
          refine g_iald C (k := 79) (n := 121) (by decide) (gc_79 Y _ _) hv5 dX9_readPart_90 (q := 91) rfl ?_
          refine g_ishl C dX9_readPart_91 (q := 92) rfl ?_
          refine g_ior C dX9_readPart_92 (q := 93) rfl ?_
          obtain ⟨M6, hM6, h⟩ := g_bind h
          refine g_put C (k := 32) (i := 7) (ty := .int) (by decide) (gc_32 Y _ _) (gp_32_7 Y _ _ _) rfl kU_X9 tyX9_ok nmX9 (by decide) kF_X9_67 rfl rfl rfl rfl (Nat.le_of_ble_eq_true rfl) dX9_readPart_93 (q := 96) rfl ?_
          refine g_mem hM6 ?_
          refine g_aload_n C 0 dX9_readPart_96 (q := 97) rfl rfl rfl ?_
          refine g_dup C dX9_readPart_97 (q := 98) rfl rfl ?_
          refine g_get C (k := 32) (i := 6) (by decide) (gc_32 Y _ _) rfl kU_X9 (by decide) kF_X9_38 rfl dX9_readPart_98 (q := 101) rfl ?_
          refine g_iconst C (v := 1) dX9_readPart_101 (q := 102) rfl (by decide) ?_
          refine g_iadd C dX9_readPart_102 (q := 103) rfl ?_
          obtain ⟨M7, hM7, h⟩ := g_bind h
          refine g_put C (k := 32) (i := 6) (ty := .int) (by decide) (gc_32 Y _ _) (gp_32_6 Y _ _ _) rfl kU_X9 tyX9_ok nmX9 (by decide) kF_X9_38 rfl rfl rfl rfl (Nat.le_of_ble_eq_true rfl) dX9_readPart_103 (q := 106) rfl ?_
          refine g_mem hM7 ?_
          refine g_aload_n C 0 dX9_readPart_106 (q := 107) rfl rfl rfl ?_
          refine g_get C (k := 32) (i := 3) (by decide) (gc_32 Y _ _) rfl kU_X9 (by decide) kF_X9_22 rfl dX9_readPart_107 (q := 110) rfl ?_
          refine g_aload_n C 0 dX9_readPart_110 (q := 111) rfl rfl rfl ?_
          refine g_get C (k := 32) (i := 6) (by decide) (gc_32 Y _ _) rfl kU_X9 (by decide) kF_X9_38 rfl dX9_readPart_111 (q := 114) rfl ?_
          obtain ⟨v8, hv8, h⟩ := g_bind h
          refine g_iald C (k := 77) (n := 121) (by decide) (gc_77 Y _ _) hv8 dX9_readPart_114 (q := 115) rfl ?_
          refine g_iconst C (v := 2) dX9_readPart_115 (q := 116) rfl (by decide) ?_
          have hif := g_if h
          clear h
          refine g_icmp_ne C dX9_readPart_116 (q := 119) (tgt := 123) rfl (by decide) (fun c => ?_) (fun c => ?_)
          · have h := hif.2 c
            clear hif
            refine g_iconst C (v := 0) dX9_readPart_123 (q := 124) rfl (by decide) ?_
            refine g_istore_n C dX9_readPart_124 (q := 125) rfl rfl (by decide) (lv' := [(1, .int 0), (0, g_r Y 32), (2, .int x2)]) rfl ?_
            refine g_iinc C (k := 2) (v := x2 + 1) dX9_readPart_125 (q := 128) rfl rfl rfl (by decide) (lv' := [(2, .int (x2 + 1)), (1, .int 0), (0, g_r Y 32)]) rfl ?_
            refine g_goto C dX9_readPart_128 (tgt := 52) (by decide) ?_
            refine g_sub [2, 1, 0] (lv' := [(0, g_r Y 32), (1, .int 0), (2, .int (x2 + 1))]) rfl ?_
            exact ih 0 (x2 + 1) M7 h
          · have h := hif.1 c
            clear hif
            refine g_iconst C (v := 1) dX9_readPart_119 (q := 120) rfl (by decide) ?_
            refine g_goto C dX9_readPart_120 (tgt := 124) (by decide) ?_
            refine g_istore_n C dX9_readPart_124 (q := 125) rfl rfl (by decide) (lv' := [(1, .int 1), (0, g_r Y 32), (2, .int x2)]) rfl ?_
            refine g_iinc C (k := 2) (v := x2 + 1) dX9_readPart_125 (q := 128) rfl rfl rfl (by decide) (lv' := [(2, .int (x2 + 1)), (1, .int 1), (0, g_r Y 32)]) rfl ?_
            refine g_goto C dX9_readPart_128 (tgt := 52) (by decide) ?_
            refine g_sub [2, 1, 0] (lv' := [(0, g_r Y 32), (1, .int 1), (2, .int (x2 + 1))]) rfl ?_
            exact ih 1 (x2 + 1) M7 h
theorem r_X9_readPart_52 {p : Int32 × g_M} {k131 : g_M → Option (Int32 × g_M)} (hk131 : ∀ (M : g_M), k131 M = some p → g_fr [] [(32, 6), (32, 7)] M p.2) (n : Nat) : ∀ (x1 : Int32) (x2 : Int32) (M : g_M), g_lp2 (F_X9_readPart_52 k131) n x1 x2 M = some p → g_fr [] [(32, 6), (32, 7)] M p.2 := by
  induction n with
  | zero => intro x1 x2 M h; exact (g_nn h).elim
  | succ n ih =>
    intro x1 x2 M h
    have h : F_X9_readPart_52 k131 (g_lp2 (F_X9_readPart_52 k131) n) x1 x2 M = some p := h
    generalize g_lp2 (F_X9_readPart_52 k131) n = k at h ih
    unfold F_X9_readPart_52 at h
    have hf := g_fr.rfl (S := []) (T := [(32, 6), (32, 7)]) (M := M)
    rcases g_ifs h with h | h
    · exact hf.trans (hk131 M h)
    · rcases g_ifs h with h | h
      · exact hf.trans (hk131 M h)
      · obtain ⟨v4, -, h⟩ := g_bind h
        rcases g_ifs h with h | h
        · exact hf.trans (hk131 M h)
        · obtain ⟨v5, -, h⟩ := g_bind h
          obtain ⟨M6, hM6, h⟩ := g_bind h
          have hf := hf.pu hM6 (by decide)
          obtain ⟨M7, hM7, h⟩ := g_bind h
          have hf := hf.pu hM7 (by decide)
          obtain ⟨v8, -, h⟩ := g_bind h
          rcases g_ifs h with h | h
          · exact hf.trans (ih 1 (x2 + 1) M7 h)
          · exact hf.trans (ih 0 (x2 + 1) M7 h)
def f_X9_readPart_131 (M : g_M) : Option (Int32 × g_M) :=
  (if (M.1 32 7) = 0 then (some (0, M)) else ((f_X9_pass 6 M).bind fun p9 => (if p9.1 = 0 then (some (0, p9.2)) else (some (1, p9.2)))))
set_option maxRecDepth 100000 in
theorem t_X9_readPart_131 {l : Launch} {X : g_X} {Y : g_Y} {p : Int32 × g_M} (C : g_C l (g_rm (1)) RX9 cX9_readPart 3 X Y) (E : g_E (some .boolean) X Y (some (.int p.1)) p.2) (M : g_M) (h : f_X9_readPart_131 M = some p) : g_G 3 X Y 131 [(0, g_r Y 32)] [] M := by
  unfold f_X9_readPart_131 at h
  refine g_aload_n C 0 dX9_readPart_131 (q := 132) rfl rfl rfl ?_
  refine g_get C (k := 32) (i := 7) (by decide) (gc_32 Y _ _) rfl kU_X9 (by decide) kF_X9_67 rfl dX9_readPart_132 (q := 135) rfl ?_
  have hif := g_if h
  clear h
  refine g_if_eq C dX9_readPart_135 (q := 138) (tgt := 151) rfl (by decide) (fun c => ?_) (fun c => ?_)
  · have h := hif.1 c
    clear hif
    refine g_iconst C (v := 0) dX9_readPart_151 (q := 152) rfl (by decide) ?_
    obtain rfl := Option.some.inj h
    exact g_zret C (g_bz_lit (by decide)) E dX9_readPart_152
  · have h := hif.2 c
    clear hif
    refine g_aload_n C 0 dX9_readPart_138 (q := 139) rfl rfl rfl ?_
    refine g_bipush C (v := 6) dX9_readPart_139 (q := 141) rfl (by decide) ?_
    obtain ⟨p9, hp9, h⟩ := g_bind h
    refine g_callV C (k := 32) (as := [.int 6]) (st := []) (m_X9_pass hp9) (g_hR (by decide)) (by decide) (by decide) (gc_32 Y _ _) rfl kM_X9_41 kI_X9_pass kS_X9_pass kN_X9 kC_X9_pass kD_X9_pass rfl (Nat.le_of_ble_eq_true rfl) dX9_readPart_141 (q := 144) rfl ?_
    show g_G 3 X Y 144 [(0, g_r Y 32)] [.int p9.1] p9.2
    have hif := g_if h
    clear h
    refine g_if_eq C dX9_readPart_144 (q := 147) (tgt := 151) rfl (by decide) (fun c => ?_) (fun c => ?_)
    · have h := hif.1 c
      clear hif
      refine g_iconst C (v := 0) dX9_readPart_151 (q := 152) rfl (by decide) ?_
      obtain rfl := Option.some.inj h
      exact g_zret C (g_bz_lit (by decide)) E dX9_readPart_152
    · have h := hif.2 c
      clear hif
      refine g_iconst C (v := 1) dX9_readPart_147 (q := 148) rfl (by decide) ?_
      refine g_goto C dX9_readPart_148 (tgt := 152) (by decide) ?_
      obtain rfl := Option.some.inj h
      exact g_zret C (g_bz_lit (by decide)) E dX9_readPart_152
theorem r_X9_readPart_131 {p : Int32 × g_M} (M : g_M) (h : f_X9_readPart_131 M = some p) : g_fr [] [(32, 6), (32, 7)] M p.2 := by
  unfold f_X9_readPart_131 at h
  have hf := g_fr.rfl (S := []) (T := [(32, 6), (32, 7)]) (M := M)
  rcases g_ifs h with h | h
  · obtain rfl := Option.some.inj h
    exact hf
  · obtain ⟨p9, hp9, h⟩ := g_bind h
    have hf := hf.trans ((r_X9_pass hp9).mono (by decide) (by decide))
    rcases g_ifs h with h | h
    · obtain rfl := Option.some.inj h
      exact hf
    · obtain rfl := Option.some.inj h
      exact hf
def f_X9_readPart (M : g_M) : Option (Int32 × g_M) :=
  (f_X9_pass 17 M).bind fun p1 => (if p1.1 = 0 then ((some (g_u p1.2 32 7 0)).bind fun M2 => (f_X9_pass 5 M2).bind fun p3 => (if p3.1 = 0 then (g_lp2 (F_X9_readPart_52 (fun (M : g_M) => f_X9_readPart_131 M)) 20000000 0 0 p3.2) else ((g_ld p3.2 77 121 (p3.2.1 32 6)).bind fun v10 => (if v10 = 2 then (g_lp2 (F_X9_readPart_52 (fun (M : g_M) => f_X9_readPart_131 M)) 20000000 1 0 p3.2) else (g_lp2 (F_X9_readPart_52 (fun (M : g_M) => f_X9_readPart_131 M)) 20000000 0 0 p3.2))))) else ((some (g_u p1.2 32 7 1023)).bind fun M11 => some (1, M11)))
set_option maxRecDepth 100000 in
theorem m_X9_readPart {l : Launch} {Y : g_Y} {M : g_M} {p : Int32 × g_M} (h : f_X9_readPart M = some p) : g_R l Y (1) yX9_readPart cX9_readPart 3 (some .boolean) [g_r Y 32] M (some (.int p.1)) p.2 := by
  unfold f_X9_readPart at h
  refine g_R_of kP_X9 rfl (Nat.le_of_ble_eq_true rfl) (fun X C E => ?_)
  show g_G 3 X Y 0 [(0, g_r Y 32)] [] M
  refine g_aload_n C 0 dX9_readPart_0 (q := 1) rfl rfl rfl ?_
  refine g_bipush C (v := 17) dX9_readPart_1 (q := 3) rfl (by decide) ?_
  obtain ⟨p1, hp1, h⟩ := g_bind h
  refine g_callV C (k := 32) (as := [.int 17]) (st := []) (m_X9_pass hp1) (g_hR (by decide)) (by decide) (by decide) (gc_32 Y _ _) rfl kM_X9_41 kI_X9_pass kS_X9_pass kN_X9 kC_X9_pass kD_X9_pass rfl (Nat.le_of_ble_eq_true rfl) dX9_readPart_3 (q := 6) rfl ?_
  show g_G 3 X Y 6 [(0, g_r Y 32)] [.int p1.1] p1.2
  have hif := g_if h
  clear h
  refine g_if_eq C dX9_readPart_6 (q := 9) (tgt := 18) rfl (by decide) (fun c => ?_) (fun c => ?_)
  · have h := hif.1 c
    clear hif
    refine g_aload_n C 0 dX9_readPart_18 (q := 19) rfl rfl rfl ?_
    refine g_iconst C (v := 0) dX9_readPart_19 (q := 20) rfl (by decide) ?_
    obtain ⟨M2, hM2, h⟩ := g_bind h
    refine g_put C (k := 32) (i := 7) (ty := .int) (by decide) (gc_32 Y _ _) (gp_32_7 Y _ _ _) rfl kU_X9 tyX9_ok nmX9 (by decide) kF_X9_67 rfl rfl rfl rfl (Nat.le_of_ble_eq_true rfl) dX9_readPart_20 (q := 23) rfl ?_
    refine g_mem hM2 ?_
    refine g_aload_n C 0 dX9_readPart_23 (q := 24) rfl rfl rfl ?_
    refine g_iconst C (v := 5) dX9_readPart_24 (q := 25) rfl (by decide) ?_
    obtain ⟨p3, hp3, h⟩ := g_bind h
    refine g_callV C (k := 32) (as := [.int 5]) (st := []) (m_X9_pass hp3) (g_hR (by decide)) (by decide) (by decide) (gc_32 Y _ _) rfl kM_X9_41 kI_X9_pass kS_X9_pass kN_X9 kC_X9_pass kD_X9_pass rfl (Nat.le_of_ble_eq_true rfl) dX9_readPart_25 (q := 28) rfl ?_
    show g_G 3 X Y 28 [(0, g_r Y 32)] [.int p3.1] p3.2
    have hif := g_if h
    clear h
    refine g_if_eq C dX9_readPart_28 (q := 31) (tgt := 48) rfl (by decide) (fun c => ?_) (fun c => ?_)
    · have h := hif.1 c
      clear hif
      refine g_iconst C (v := 0) dX9_readPart_48 (q := 49) rfl (by decide) ?_
      refine g_istore_n C dX9_readPart_49 (q := 50) rfl rfl (by decide) (lv' := [(1, .int 0), (0, g_r Y 32)]) rfl ?_
      refine g_iconst C (v := 0) dX9_readPart_50 (q := 51) rfl (by decide) ?_
      refine g_istore_n C dX9_readPart_51 (q := 52) rfl rfl (by decide) (lv' := [(2, .int 0), (1, .int 0), (0, g_r Y 32)]) rfl ?_
      refine g_sub [2, 1, 0] (lv' := [(0, g_r Y 32), (1, .int 0), (2, .int 0)]) rfl ?_
      refine t_X9_readPart_52 C E ?_ 20000000 0 0 p3.2 h
      · intro M h
        try dsimp only at h
        refine g_sub [0] (lv' := [(0, g_r Y 32)]) rfl ?_
        exact t_X9_readPart_131 C E M h
    · have h := hif.2 c
      clear hif
      refine g_aload_n C 0 dX9_readPart_31 (q := 32) rfl rfl rfl ?_
      refine g_get C (k := 32) (i := 3) (by decide) (gc_32 Y _ _) rfl kU_X9 (by decide) kF_X9_22 rfl dX9_readPart_32 (q := 35) rfl ?_
      refine g_aload_n C 0 dX9_readPart_35 (q := 36) rfl rfl rfl ?_
      refine g_get C (k := 32) (i := 6) (by decide) (gc_32 Y _ _) rfl kU_X9 (by decide) kF_X9_38 rfl dX9_readPart_36 (q := 39) rfl ?_
      obtain ⟨v10, hv10, h⟩ := g_bind h
      refine g_iald C (k := 77) (n := 121) (by decide) (gc_77 Y _ _) hv10 dX9_readPart_39 (q := 40) rfl ?_
      refine g_iconst C (v := 2) dX9_readPart_40 (q := 41) rfl (by decide) ?_
      have hif := g_if h
      clear h
      refine g_icmp_ne C dX9_readPart_41 (q := 44) (tgt := 48) rfl (by decide) (fun c => ?_) (fun c => ?_)
      · have h := hif.2 c
        clear hif
        refine g_iconst C (v := 0) dX9_readPart_48 (q := 49) rfl (by decide) ?_
        refine g_istore_n C dX9_readPart_49 (q := 50) rfl rfl (by decide) (lv' := [(1, .int 0), (0, g_r Y 32)]) rfl ?_
        refine g_iconst C (v := 0) dX9_readPart_50 (q := 51) rfl (by decide) ?_
        refine g_istore_n C dX9_readPart_51 (q := 52) rfl rfl (by decide) (lv' := [(2, .int 0), (1, .int 0), (0, g_r Y 32)]) rfl ?_
        refine g_sub [2, 1, 0] (lv' := [(0, g_r Y 32), (1, .int 0), (2, .int 0)]) rfl ?_
        refine t_X9_readPart_52 C E ?_ 20000000 0 0 p3.2 h
        · intro M h
          try dsimp only at h
          refine g_sub [0] (lv' := [(0, g_r Y 32)]) rfl ?_
          exact t_X9_readPart_131 C E M h
      · have h := hif.1 c
        clear hif
        refine g_iconst C (v := 1) dX9_readPart_44 (q := 45) rfl (by decide) ?_
        refine g_goto C dX9_readPart_45 (tgt := 49) (by decide) ?_
        refine g_istore_n C dX9_readPart_49 (q := 50) rfl rfl (by decide) (lv' := [(1, .int 1), (0, g_r Y 32)]) rfl ?_
        refine g_iconst C (v := 0) dX9_readPart_50 (q := 51) rfl (by decide) ?_
        refine g_istore_n C dX9_readPart_51 (q := 52) rfl rfl (by decide) (lv' := [(2, .int 0), (1, .int 1), (0, g_r Y 32)]) rfl ?_
        refine g_sub [2, 1, 0] (lv' := [(0, g_r Y 32), (1, .int 1), (2, .int 0)]) rfl ?_
        refine t_X9_readPart_52 C E ?_ 20000000 1 0 p3.2 h
        · intro M h
          try dsimp only at h
          refine g_sub [0] (lv' := [(0, g_r Y 32)]) rfl ?_
          exact t_X9_readPart_131 C E M h
  · have h := hif.2 c
    clear hif
    refine g_aload_n C 0 dX9_readPart_9 (q := 10) rfl rfl rfl ?_
    refine g_sipush C (v := 1023) dX9_readPart_10 (q := 13) rfl (by decide) ?_
    obtain ⟨M11, hM11, h⟩ := g_bind h
    refine g_put C (k := 32) (i := 7) (ty := .int) (by decide) (gc_32 Y _ _) (gp_32_7 Y _ _ _) rfl kU_X9 tyX9_ok nmX9 (by decide) kF_X9_67 rfl rfl rfl rfl (Nat.le_of_ble_eq_true rfl) dX9_readPart_13 (q := 16) rfl ?_
    refine g_mem hM11 ?_
    refine g_iconst C (v := 1) dX9_readPart_16 (q := 17) rfl (by decide) ?_
    obtain rfl := Option.some.inj h
    exact g_zret C (g_bz_lit (by decide)) E dX9_readPart_17
theorem r_X9_readPart {M : g_M} {p : Int32 × g_M} (h : f_X9_readPart M = some p) : g_fr [] [(32, 6), (32, 7)] M p.2 := by
  unfold f_X9_readPart at h
  have hf := g_fr.rfl (S := []) (T := [(32, 6), (32, 7)]) (M := M)
  obtain ⟨p1, hp1, h⟩ := g_bind h
  have hf := hf.trans ((r_X9_pass hp1).mono (by decide) (by decide))
  rcases g_ifs h with h | h
  · obtain ⟨M2, hM2, h⟩ := g_bind h
    have hf := hf.pu hM2 (by decide)
    obtain ⟨p3, hp3, h⟩ := g_bind h
    have hf := hf.trans ((r_X9_pass hp3).mono (by decide) (by decide))
    rcases g_ifs h with h | h
    · refine hf.trans (r_X9_readPart_52 ?_ 20000000 0 0 p3.2 h)
      · intro M h
        try dsimp only at h
        have hf := g_fr.rfl (S := []) (T := [(32, 6), (32, 7)]) (M := M)
        exact hf.trans (r_X9_readPart_131 M h)
    · obtain ⟨v10, -, h⟩ := g_bind h
      rcases g_ifs h with h | h
      · refine hf.trans (r_X9_readPart_52 ?_ 20000000 1 0 p3.2 h)
        · intro M h
          try dsimp only at h
          have hf := g_fr.rfl (S := []) (T := [(32, 6), (32, 7)]) (M := M)
          exact hf.trans (r_X9_readPart_131 M h)
      · refine hf.trans (r_X9_readPart_52 ?_ 20000000 0 0 p3.2 h)
        · intro M h
          try dsimp only at h
          have hf := g_fr.rfl (S := []) (T := [(32, 6), (32, 7)]) (M := M)
          exact hf.trans (r_X9_readPart_131 M h)
  · obtain ⟨M11, hM11, h⟩ := g_bind h
    have hf := hf.pu hM11 (by decide)
    obtain rfl := Option.some.inj h
    exact hf
def f_X9_readOne (kE : Int32 → g_M → Option (Int32 × g_M)) (x1 : Int32) (M : g_M) : Option (Int32 × g_M) :=
  (f_X9_pass 12 M).bind fun p1 => (if p1.1 = 0 then ((f_X9_pass 14 p1.2).bind fun p2 => (if p2.1 = 0 then ((f_X9_pass 15 p2.2).bind fun p3 => (if p3.1 = 0 then ((f_X9_pass 16 p3.2).bind fun p4 => (if p4.1 = 0 then ((if 6 ≤ x1 then (some (0, p4.2)) else ((f_X9_pass 3 p4.2).bind fun p5 => (if p5.1 = 0 then (some (0, p5.2)) else ((kE (x1 + 1) p5.2).bind fun p6 => (if p6.1 = 0 then (some (0, p6.2)) else ((f_X9_pass 4 p6.2).bind fun p7 => (if p7.1 = 0 then (some (0, p7.2)) else (some (1, p7.2)))))))))) else ((g_ld p4.2 79 121 (p4.2.1 32 6)).bind fun v8 => (f_X9_pass 2 p4.2).bind fun p9 => (if p9.1 = 0 then (some (0, p9.2)) else ((f_X9_emit 3 v8 0 p9.2).bind fun p10 => (if p10.1 = 0 then (some (0, p10.2)) else (some (1, p10.2)))))))) else ((f_X9_readPart p3.2).bind fun p11 => (if p11.1 = 0 then (some (0, p11.2)) else ((f_X9_emit 2 0 (p11.2.1 32 7) p11.2).bind fun p12 => (if p12.1 = 0 then (some (0, p12.2)) else (some (1, p12.2)))))))) else ((f_X9_readPart p2.2).bind fun p13 => (if p13.1 = 0 then (some (0, p13.2)) else ((f_X9_emit 1 0 (p13.2.1 32 7) p13.2).bind fun p14 => (if p14.1 = 0 then (some (0, p14.2)) else (some (1, p14.2)))))))) else ((g_ld p1.2 79 121 (p1.2.1 32 6)).bind fun v15 => (f_X9_pass 2 p1.2).bind fun p16 => (if p16.1 = 0 then (some (0, p16.2)) else ((f_X9_pass 13 p16.2).bind fun p17 => (if p17.1 = 0 then (some (0, p17.2)) else ((f_X9_readPart p17.2).bind fun p18 => (if p18.1 = 0 then (some (0, p18.2)) else ((f_X9_emit 0 v15 (p18.2.1 32 7) p18.2).bind fun p19 => (if p19.1 = 0 then (some (0, p19.2)) else (some (1, p19.2)))))))))))
set_option maxRecDepth 100000 in
theorem m_X9_readOne {l : Launch} {Y : g_Y} (kE : Int32 → g_M → Option (Int32 × g_M)) (hh : Nat) (hE : ∀ (x1 : Int32) (M : g_M) (p : Int32 × g_M), kE x1 M = some p → g_R l Y (hh) yX9_readEither cX9_readEither 4 (some .boolean) [g_r Y 32, .int x1] M (some (.int p.1)) p.2) {x1 : Int32} {M : g_M} {p : Int32 × g_M} (h : f_X9_readOne kE x1 M = some p) : g_R l Y (hh + 12) yX9_readOne cX9_readOne 3 (some .boolean) [g_r Y 32, .int x1] M (some (.int p.1)) p.2 := by
  unfold f_X9_readOne at h
  refine g_R_of kP_X9 rfl (Nat.le_of_ble_eq_true rfl) (fun X C E => ?_)
  show g_G 3 X Y 0 [(0, g_r Y 32), (1, .int x1)] [] M
  refine g_aload_n C 0 dX9_readOne_0 (q := 1) rfl rfl rfl ?_
  refine g_bipush C (v := 12) dX9_readOne_1 (q := 3) rfl (by decide) ?_
  obtain ⟨p1, hp1, h⟩ := g_bind h
  refine g_callV C (k := 32) (as := [.int 12]) (st := []) (m_X9_pass hp1) (g_hR (by omega)) (by decide) (by decide) (gc_32 Y _ _) rfl kM_X9_41 kI_X9_pass kS_X9_pass kN_X9 kC_X9_pass kD_X9_pass rfl (Nat.le_of_ble_eq_true rfl) dX9_readOne_3 (q := 6) rfl ?_
  show g_G 3 X Y 6 [(0, g_r Y 32), (1, .int x1)] [.int p1.1] p1.2
  have hif := g_if h
  clear h
  refine g_if_eq C dX9_readOne_6 (q := 9) (tgt := 62) rfl (by decide) (fun c => ?_) (fun c => ?_)
  · have h := hif.1 c
    clear hif
    refine g_aload_n C 0 dX9_readOne_62 (q := 63) rfl rfl rfl ?_
    refine g_bipush C (v := 14) dX9_readOne_63 (q := 65) rfl (by decide) ?_
    obtain ⟨p2, hp2, h⟩ := g_bind h
    refine g_callV C (k := 32) (as := [.int 14]) (st := []) (m_X9_pass hp2) (g_hR (by omega)) (by decide) (by decide) (gc_32 Y _ _) rfl kM_X9_41 kI_X9_pass kS_X9_pass kN_X9 kC_X9_pass kD_X9_pass rfl (Nat.le_of_ble_eq_true rfl) dX9_readOne_65 (q := 68) rfl ?_
    show g_G 3 X Y 68 [(0, g_r Y 32), (1, .int x1)] [.int p2.1] p2.2
    have hif := g_if h
    clear h
    refine g_if_eq C dX9_readOne_68 (q := 71) (tgt := 97) rfl (by decide) (fun c => ?_) (fun c => ?_)
    · have h := hif.1 c
      clear hif
      refine g_aload_n C 0 dX9_readOne_97 (q := 98) rfl rfl rfl ?_
      refine g_bipush C (v := 15) dX9_readOne_98 (q := 100) rfl (by decide) ?_
      obtain ⟨p3, hp3, h⟩ := g_bind h
      refine g_callV C (k := 32) (as := [.int 15]) (st := []) (m_X9_pass hp3) (g_hR (by omega)) (by decide) (by decide) (gc_32 Y _ _) rfl kM_X9_41 kI_X9_pass kS_X9_pass kN_X9 kC_X9_pass kD_X9_pass rfl (Nat.le_of_ble_eq_true rfl) dX9_readOne_100 (q := 103) rfl ?_
      show g_G 3 X Y 103 [(0, g_r Y 32), (1, .int x1)] [.int p3.1] p3.2
      have hif := g_if h
      clear h
      refine g_if_eq C dX9_readOne_103 (q := 106) (tgt := 132) rfl (by decide) (fun c => ?_) (fun c => ?_)
      · have h := hif.1 c
        clear hif
        refine g_aload_n C 0 dX9_readOne_132 (q := 133) rfl rfl rfl ?_
        refine g_bipush C (v := 16) dX9_readOne_133 (q := 135) rfl (by decide) ?_
        obtain ⟨p4, hp4, h⟩ := g_bind h
        refine g_callV C (k := 32) (as := [.int 16]) (st := []) (m_X9_pass hp4) (g_hR (by omega)) (by decide) (by decide) (gc_32 Y _ _) rfl kM_X9_41 kI_X9_pass kS_X9_pass kN_X9 kC_X9_pass kD_X9_pass rfl (Nat.le_of_ble_eq_true rfl) dX9_readOne_135 (q := 138) rfl ?_
        show g_G 3 X Y 138 [(0, g_r Y 32), (1, .int x1)] [.int p4.1] p4.2
        have hif := g_if h
        clear h
        refine g_if_eq C dX9_readOne_138 (q := 141) (tgt := 175) rfl (by decide) (fun c => ?_) (fun c => ?_)
        · have h := hif.1 c
          clear hif
          refine g_iload_n C 1 dX9_readOne_175 (q := 176) rfl rfl rfl ?_
          refine g_bipush C (v := 6) dX9_readOne_176 (q := 178) rfl (by decide) ?_
          have hif := g_if h
          clear h
          refine g_icmp_ge C dX9_readOne_178 (q := 181) (tgt := 211) rfl (by decide) (fun c => ?_) (fun c => ?_)
          · have h := hif.1 c
            clear hif
            refine g_iconst C (v := 0) dX9_readOne_211 (q := 212) rfl (by decide) ?_
            obtain rfl := Option.some.inj h
            exact g_zret C (g_bz_lit (by decide)) E dX9_readOne_212
          · have h := hif.2 c
            clear hif
            refine g_aload_n C 0 dX9_readOne_181 (q := 182) rfl rfl rfl ?_
            refine g_iconst C (v := 3) dX9_readOne_182 (q := 183) rfl (by decide) ?_
            obtain ⟨p5, hp5, h⟩ := g_bind h
            refine g_callV C (k := 32) (as := [.int 3]) (st := []) (m_X9_pass hp5) (g_hR (by omega)) (by decide) (by decide) (gc_32 Y _ _) rfl kM_X9_41 kI_X9_pass kS_X9_pass kN_X9 kC_X9_pass kD_X9_pass rfl (Nat.le_of_ble_eq_true rfl) dX9_readOne_183 (q := 186) rfl ?_
            show g_G 3 X Y 186 [(0, g_r Y 32), (1, .int x1)] [.int p5.1] p5.2
            have hif := g_if h
            clear h
            refine g_if_eq C dX9_readOne_186 (q := 189) (tgt := 211) rfl (by decide) (fun c => ?_) (fun c => ?_)
            · have h := hif.1 c
              clear hif
              refine g_iconst C (v := 0) dX9_readOne_211 (q := 212) rfl (by decide) ?_
              obtain rfl := Option.some.inj h
              exact g_zret C (g_bz_lit (by decide)) E dX9_readOne_212
            · have h := hif.2 c
              clear hif
              refine g_aload_n C 0 dX9_readOne_189 (q := 190) rfl rfl rfl ?_
              refine g_iload_n C 1 dX9_readOne_190 (q := 191) rfl rfl rfl ?_
              refine g_iconst C (v := 1) dX9_readOne_191 (q := 192) rfl (by decide) ?_
              refine g_iadd C dX9_readOne_192 (q := 193) rfl ?_
              obtain ⟨p6, hp6, h⟩ := g_bind h
              refine g_callV C (k := 32) (as := [.int (x1 + 1)]) (st := []) (hE _ _ _ hp6) (g_hR (by omega)) (by decide) (by decide) (gc_32 Y _ _) rfl kM_X9_45 kI_X9_readEither kS_X9_readEither kN_X9 kC_X9_readEither kD_X9_readEither rfl (Nat.le_of_ble_eq_true rfl) dX9_readOne_193 (q := 196) rfl ?_
              show g_G 3 X Y 196 [(0, g_r Y 32), (1, .int x1)] [.int p6.1] p6.2
              have hif := g_if h
              clear h
              refine g_if_eq C dX9_readOne_196 (q := 199) (tgt := 211) rfl (by decide) (fun c => ?_) (fun c => ?_)
              · have h := hif.1 c
                clear hif
                refine g_iconst C (v := 0) dX9_readOne_211 (q := 212) rfl (by decide) ?_
                obtain rfl := Option.some.inj h
                exact g_zret C (g_bz_lit (by decide)) E dX9_readOne_212
              · have h := hif.2 c
                clear hif
                refine g_aload_n C 0 dX9_readOne_199 (q := 200) rfl rfl rfl ?_
                refine g_iconst C (v := 4) dX9_readOne_200 (q := 201) rfl (by decide) ?_
                obtain ⟨p7, hp7, h⟩ := g_bind h
                refine g_callV C (k := 32) (as := [.int 4]) (st := []) (m_X9_pass hp7) (g_hR (by omega)) (by decide) (by decide) (gc_32 Y _ _) rfl kM_X9_41 kI_X9_pass kS_X9_pass kN_X9 kC_X9_pass kD_X9_pass rfl (Nat.le_of_ble_eq_true rfl) dX9_readOne_201 (q := 204) rfl ?_
                show g_G 3 X Y 204 [(0, g_r Y 32), (1, .int x1)] [.int p7.1] p7.2
                have hif := g_if h
                clear h
                refine g_if_eq C dX9_readOne_204 (q := 207) (tgt := 211) rfl (by decide) (fun c => ?_) (fun c => ?_)
                · have h := hif.1 c
                  clear hif
                  refine g_iconst C (v := 0) dX9_readOne_211 (q := 212) rfl (by decide) ?_
                  obtain rfl := Option.some.inj h
                  exact g_zret C (g_bz_lit (by decide)) E dX9_readOne_212
                · have h := hif.2 c
                  clear hif
                  refine g_iconst C (v := 1) dX9_readOne_207 (q := 208) rfl (by decide) ?_
                  refine g_goto C dX9_readOne_208 (tgt := 212) (by decide) ?_
                  obtain rfl := Option.some.inj h
                  exact g_zret C (g_bz_lit (by decide)) E dX9_readOne_212
        · have h := hif.2 c
          clear hif
          refine g_aload_n C 0 dX9_readOne_141 (q := 142) rfl rfl rfl ?_
          refine g_get C (k := 32) (i := 5) (by decide) (gc_32 Y _ _) rfl kU_X9 (by decide) kF_X9_28 rfl dX9_readOne_142 (q := 145) rfl ?_
          refine g_aload_n C 0 dX9_readOne_145 (q := 146) rfl rfl rfl ?_
          refine g_get C (k := 32) (i := 6) (by decide) (gc_32 Y _ _) rfl kU_X9 (by decide) kF_X9_38 rfl dX9_readOne_146 (q := 149) rfl ?_
          obtain ⟨v8, hv8, h⟩ := g_bind h
          refine g_iald C (k := 79) (n := 121) (by decide) (gc_79 Y _ _) hv8 dX9_readOne_149 (q := 150) rfl ?_
          refine g_istore_n C dX9_readOne_150 (q := 151) rfl rfl (by decide) (lv' := [(2, .int v8), (0, g_r Y 32), (1, .int x1)]) rfl ?_
          refine g_aload_n C 1 dX9_readOne_151 (q := 152) rfl rfl rfl ?_
          refine g_iconst C (v := 2) dX9_readOne_152 (q := 153) rfl (by decide) ?_
          obtain ⟨p9, hp9, h⟩ := g_bind h
          refine g_callV C (k := 32) (as := [.int 2]) (st := []) (m_X9_pass hp9) (g_hR (by omega)) (by decide) (by decide) (gc_32 Y _ _) rfl kM_X9_41 kI_X9_pass kS_X9_pass kN_X9 kC_X9_pass kD_X9_pass rfl (Nat.le_of_ble_eq_true rfl) dX9_readOne_153 (q := 156) rfl ?_
          show g_G 3 X Y 156 [(2, .int v8), (0, g_r Y 32), (1, .int x1)] [.int p9.1] p9.2
          have hif := g_if h
          clear h
          refine g_if_eq C dX9_readOne_156 (q := 159) (tgt := 173) rfl (by decide) (fun c => ?_) (fun c => ?_)
          · have h := hif.1 c
            clear hif
            refine g_iconst C (v := 0) dX9_readOne_173 (q := 174) rfl (by decide) ?_
            obtain rfl := Option.some.inj h
            exact g_zret C (g_bz_lit (by decide)) E dX9_readOne_174
          · have h := hif.2 c
            clear hif
            refine g_aload_n C 1 dX9_readOne_159 (q := 160) rfl rfl rfl ?_
            refine g_iconst C (v := 3) dX9_readOne_160 (q := 161) rfl (by decide) ?_
            refine g_iload_n C 0 dX9_readOne_161 (q := 162) rfl rfl rfl ?_
            refine g_iconst C (v := 0) dX9_readOne_162 (q := 163) rfl (by decide) ?_
            obtain ⟨p10, hp10, h⟩ := g_bind h
            refine g_callV C (k := 32) (as := [.int 3, .int v8, .int 0]) (st := []) (m_X9_emit hp10) (g_hR (by omega)) (by decide) (by decide) (gc_32 Y _ _) rfl kM_X9_50 kI_X9_emit kS_X9_emit kN_X9 kC_X9_emit kD_X9_emit rfl (Nat.le_of_ble_eq_true rfl) dX9_readOne_163 (q := 166) rfl ?_
            show g_G 3 X Y 166 [(2, .int v8), (0, g_r Y 32), (1, .int x1)] [.int p10.1] p10.2
            have hif := g_if h
            clear h
            refine g_if_eq C dX9_readOne_166 (q := 169) (tgt := 173) rfl (by decide) (fun c => ?_) (fun c => ?_)
            · have h := hif.1 c
              clear hif
              refine g_iconst C (v := 0) dX9_readOne_173 (q := 174) rfl (by decide) ?_
              obtain rfl := Option.some.inj h
              exact g_zret C (g_bz_lit (by decide)) E dX9_readOne_174
            · have h := hif.2 c
              clear hif
              refine g_iconst C (v := 1) dX9_readOne_169 (q := 170) rfl (by decide) ?_
              refine g_goto C dX9_readOne_170 (tgt := 174) (by decide) ?_
              obtain rfl := Option.some.inj h
              exact g_zret C (g_bz_lit (by decide)) E dX9_readOne_174
      · have h := hif.2 c
        clear hif
        refine g_aload_n C 0 dX9_readOne_106 (q := 107) rfl rfl rfl ?_
        obtain ⟨p11, hp11, h⟩ := g_bind h
        refine g_callV C (k := 32) (as := []) (st := []) (m_X9_readPart hp11) (g_hR (by omega)) (by decide) (by decide) (gc_32 Y _ _) rfl kM_X9_63 kI_X9_readPart kS_X9_readPart kN_X9 kC_X9_readPart kD_X9_readPart rfl (Nat.le_of_ble_eq_true rfl) dX9_readOne_107 (q := 110) rfl ?_
        show g_G 3 X Y 110 [(0, g_r Y 32), (1, .int x1)] [.int p11.1] p11.2
        have hif := g_if h
        clear h
        refine g_if_eq C dX9_readOne_110 (q := 113) (tgt := 130) rfl (by decide) (fun c => ?_) (fun c => ?_)
        · have h := hif.1 c
          clear hif
          refine g_iconst C (v := 0) dX9_readOne_130 (q := 131) rfl (by decide) ?_
          obtain rfl := Option.some.inj h
          exact g_zret C (g_bz_lit (by decide)) E dX9_readOne_131
        · have h := hif.2 c
          clear hif
          refine g_aload_n C 0 dX9_readOne_113 (q := 114) rfl rfl rfl ?_
          refine g_iconst C (v := 2) dX9_readOne_114 (q := 115) rfl (by decide) ?_
          refine g_iconst C (v := 0) dX9_readOne_115 (q := 116) rfl (by decide) ?_
          refine g_aload_n C 0 dX9_readOne_116 (q := 117) rfl rfl rfl ?_
          refine g_get C (k := 32) (i := 7) (by decide) (gc_32 Y _ _) rfl kU_X9 (by decide) kF_X9_67 rfl dX9_readOne_117 (q := 120) rfl ?_
          obtain ⟨p12, hp12, h⟩ := g_bind h
          refine g_callV C (k := 32) (as := [.int 2, .int 0, .int (p11.2.1 32 7)]) (st := []) (m_X9_emit hp12) (g_hR (by omega)) (by decide) (by decide) (gc_32 Y _ _) rfl kM_X9_50 kI_X9_emit kS_X9_emit kN_X9 kC_X9_emit kD_X9_emit rfl (Nat.le_of_ble_eq_true rfl) dX9_readOne_120 (q := 123) rfl ?_
          show g_G 3 X Y 123 [(0, g_r Y 32), (1, .int x1)] [.int p12.1] p12.2
          have hif := g_if h
          clear h
          refine g_if_eq C dX9_readOne_123 (q := 126) (tgt := 130) rfl (by decide) (fun c => ?_) (fun c => ?_)
          · have h := hif.1 c
            clear hif
            refine g_iconst C (v := 0) dX9_readOne_130 (q := 131) rfl (by decide) ?_
            obtain rfl := Option.some.inj h
            exact g_zret C (g_bz_lit (by decide)) E dX9_readOne_131
          · have h := hif.2 c
            clear hif
            refine g_iconst C (v := 1) dX9_readOne_126 (q := 127) rfl (by decide) ?_
            refine g_goto C dX9_readOne_127 (tgt := 131) (by decide) ?_
            obtain rfl := Option.some.inj h
            exact g_zret C (g_bz_lit (by decide)) E dX9_readOne_131
    · have h := hif.2 c
      clear hif
      refine g_aload_n C 0 dX9_readOne_71 (q := 72) rfl rfl rfl ?_
      obtain ⟨p13, hp13, h⟩ := g_bind h
      refine g_callV C (k := 32) (as := []) (st := []) (m_X9_readPart hp13) (g_hR (by omega)) (by decide) (by decide) (gc_32 Y _ _) rfl kM_X9_63 kI_X9_readPart kS_X9_readPart kN_X9 kC_X9_readPart kD_X9_readPart rfl (Nat.le_of_ble_eq_true rfl) dX9_readOne_72 (q := 75) rfl ?_
      show g_G 3 X Y 75 [(0, g_r Y 32), (1, .int x1)] [.int p13.1] p13.2
      have hif := g_if h
      clear h
      refine g_if_eq C dX9_readOne_75 (q := 78) (tgt := 95) rfl (by decide) (fun c => ?_) (fun c => ?_)
      · have h := hif.1 c
        clear hif
        refine g_iconst C (v := 0) dX9_readOne_95 (q := 96) rfl (by decide) ?_
        obtain rfl := Option.some.inj h
        exact g_zret C (g_bz_lit (by decide)) E dX9_readOne_96
      · have h := hif.2 c
        clear hif
        refine g_aload_n C 0 dX9_readOne_78 (q := 79) rfl rfl rfl ?_
        refine g_iconst C (v := 1) dX9_readOne_79 (q := 80) rfl (by decide) ?_
        refine g_iconst C (v := 0) dX9_readOne_80 (q := 81) rfl (by decide) ?_
        refine g_aload_n C 0 dX9_readOne_81 (q := 82) rfl rfl rfl ?_
        refine g_get C (k := 32) (i := 7) (by decide) (gc_32 Y _ _) rfl kU_X9 (by decide) kF_X9_67 rfl dX9_readOne_82 (q := 85) rfl ?_
        obtain ⟨p14, hp14, h⟩ := g_bind h
        refine g_callV C (k := 32) (as := [.int 1, .int 0, .int (p13.2.1 32 7)]) (st := []) (m_X9_emit hp14) (g_hR (by omega)) (by decide) (by decide) (gc_32 Y _ _) rfl kM_X9_50 kI_X9_emit kS_X9_emit kN_X9 kC_X9_emit kD_X9_emit rfl (Nat.le_of_ble_eq_true rfl) dX9_readOne_85 (q := 88) rfl ?_
        show g_G 3 X Y 88 [(0, g_r Y 32), (1, .int x1)] [.int p14.1] p14.2
        have hif := g_if h
        clear h
        refine g_if_eq C dX9_readOne_88 (q := 91) (tgt := 95) rfl (by decide) (fun c => ?_) (fun c => ?_)
        · have h := hif.1 c
          clear hif
          refine g_iconst C (v := 0) dX9_readOne_95 (q := 96) rfl (by decide) ?_
          obtain rfl := Option.some.inj h
          exact g_zret C (g_bz_lit (by decide)) E dX9_readOne_96
        · have h := hif.2 c
          clear hif
          refine g_iconst C (v := 1) dX9_readOne_91 (q := 92) rfl (by decide) ?_
          refine g_goto C dX9_readOne_92 (tgt := 96) (by decide) ?_
          obtain rfl := Option.some.inj h
          exact g_zret C (g_bz_lit (by decide)) E dX9_readOne_96
  · have h := hif.2 c
    clear hif
    refine g_aload_n C 0 dX9_readOne_9 (q := 10) rfl rfl rfl ?_
    refine g_get C (k := 32) (i := 5) (by decide) (gc_32 Y _ _) rfl kU_X9 (by decide) kF_X9_28 rfl dX9_readOne_10 (q := 13) rfl ?_
    refine g_aload_n C 0 dX9_readOne_13 (q := 14) rfl rfl rfl ?_
    refine g_get C (k := 32) (i := 6) (by decide) (gc_32 Y _ _) rfl kU_X9 (by decide) kF_X9_38 rfl dX9_readOne_14 (q := 17) rfl ?_
    obtain ⟨v15, hv15, h⟩ := g_bind h
    refine g_iald C (k := 79) (n := 121) (by decide) (gc_79 Y _ _) hv15 dX9_readOne_17 (q := 18) rfl ?_
    refine g_istore_n C dX9_readOne_18 (q := 19) rfl rfl (by decide) (lv' := [(2, .int v15), (0, g_r Y 32), (1, .int x1)]) rfl ?_
    refine g_aload_n C 1 dX9_readOne_19 (q := 20) rfl rfl rfl ?_
    refine g_iconst C (v := 2) dX9_readOne_20 (q := 21) rfl (by decide) ?_
    obtain ⟨p16, hp16, h⟩ := g_bind h
    refine g_callV C (k := 32) (as := [.int 2]) (st := []) (m_X9_pass hp16) (g_hR (by omega)) (by decide) (by decide) (gc_32 Y _ _) rfl kM_X9_41 kI_X9_pass kS_X9_pass kN_X9 kC_X9_pass kD_X9_pass rfl (Nat.le_of_ble_eq_true rfl) dX9_readOne_21 (q := 24) rfl ?_
    show g_G 3 X Y 24 [(2, .int v15), (0, g_r Y 32), (1, .int x1)] [.int p16.1] p16.2
    have hif := g_if h
    clear h
    refine g_if_eq C dX9_readOne_24 (q := 27) (tgt := 60) rfl (by decide) (fun c => ?_) (fun c => ?_)
    · have h := hif.1 c
      clear hif
      refine g_iconst C (v := 0) dX9_readOne_60 (q := 61) rfl (by decide) ?_
      obtain rfl := Option.some.inj h
      exact g_zret C (g_bz_lit (by decide)) E dX9_readOne_61
    · have h := hif.2 c
      clear hif
      refine g_aload_n C 1 dX9_readOne_27 (q := 28) rfl rfl rfl ?_
      refine g_bipush C (v := 13) dX9_readOne_28 (q := 30) rfl (by decide) ?_
      obtain ⟨p17, hp17, h⟩ := g_bind h
      refine g_callV C (k := 32) (as := [.int 13]) (st := []) (m_X9_pass hp17) (g_hR (by omega)) (by decide) (by decide) (gc_32 Y _ _) rfl kM_X9_41 kI_X9_pass kS_X9_pass kN_X9 kC_X9_pass kD_X9_pass rfl (Nat.le_of_ble_eq_true rfl) dX9_readOne_30 (q := 33) rfl ?_
      show g_G 3 X Y 33 [(2, .int v15), (0, g_r Y 32), (1, .int x1)] [.int p17.1] p17.2
      have hif := g_if h
      clear h
      refine g_if_eq C dX9_readOne_33 (q := 36) (tgt := 60) rfl (by decide) (fun c => ?_) (fun c => ?_)
      · have h := hif.1 c
        clear hif
        refine g_iconst C (v := 0) dX9_readOne_60 (q := 61) rfl (by decide) ?_
        obtain rfl := Option.some.inj h
        exact g_zret C (g_bz_lit (by decide)) E dX9_readOne_61
      · have h := hif.2 c
        clear hif
        refine g_aload_n C 1 dX9_readOne_36 (q := 37) rfl rfl rfl ?_
        obtain ⟨p18, hp18, h⟩ := g_bind h
        refine g_callV C (k := 32) (as := []) (st := []) (m_X9_readPart hp18) (g_hR (by omega)) (by decide) (by decide) (gc_32 Y _ _) rfl kM_X9_63 kI_X9_readPart kS_X9_readPart kN_X9 kC_X9_readPart kD_X9_readPart rfl (Nat.le_of_ble_eq_true rfl) dX9_readOne_37 (q := 40) rfl ?_
        show g_G 3 X Y 40 [(2, .int v15), (0, g_r Y 32), (1, .int x1)] [.int p18.1] p18.2
        have hif := g_if h
        clear h
        refine g_if_eq C dX9_readOne_40 (q := 43) (tgt := 60) rfl (by decide) (fun c => ?_) (fun c => ?_)
        · have h := hif.1 c
          clear hif
          refine g_iconst C (v := 0) dX9_readOne_60 (q := 61) rfl (by decide) ?_
          obtain rfl := Option.some.inj h
          exact g_zret C (g_bz_lit (by decide)) E dX9_readOne_61
        · have h := hif.2 c
          clear hif
          refine g_aload_n C 1 dX9_readOne_43 (q := 44) rfl rfl rfl ?_
          refine g_iconst C (v := 0) dX9_readOne_44 (q := 45) rfl (by decide) ?_
          refine g_iload_n C 0 dX9_readOne_45 (q := 46) rfl rfl rfl ?_
          refine g_aload_n C 1 dX9_readOne_46 (q := 47) rfl rfl rfl ?_
          refine g_get C (k := 32) (i := 7) (by decide) (gc_32 Y _ _) rfl kU_X9 (by decide) kF_X9_67 rfl dX9_readOne_47 (q := 50) rfl ?_
          obtain ⟨p19, hp19, h⟩ := g_bind h
          refine g_callV C (k := 32) (as := [.int 0, .int v15, .int (p18.2.1 32 7)]) (st := []) (m_X9_emit hp19) (g_hR (by omega)) (by decide) (by decide) (gc_32 Y _ _) rfl kM_X9_50 kI_X9_emit kS_X9_emit kN_X9 kC_X9_emit kD_X9_emit rfl (Nat.le_of_ble_eq_true rfl) dX9_readOne_50 (q := 53) rfl ?_
          show g_G 3 X Y 53 [(2, .int v15), (0, g_r Y 32), (1, .int x1)] [.int p19.1] p19.2
          have hif := g_if h
          clear h
          refine g_if_eq C dX9_readOne_53 (q := 56) (tgt := 60) rfl (by decide) (fun c => ?_) (fun c => ?_)
          · have h := hif.1 c
            clear hif
            refine g_iconst C (v := 0) dX9_readOne_60 (q := 61) rfl (by decide) ?_
            obtain rfl := Option.some.inj h
            exact g_zret C (g_bz_lit (by decide)) E dX9_readOne_61
          · have h := hif.2 c
            clear hif
            refine g_iconst C (v := 1) dX9_readOne_56 (q := 57) rfl (by decide) ?_
            refine g_goto C dX9_readOne_57 (tgt := 61) (by decide) ?_
            obtain rfl := Option.some.inj h
            exact g_zret C (g_bz_lit (by decide)) E dX9_readOne_61
theorem r_X9_readOne {kE : Int32 → g_M → Option (Int32 × g_M)} (hE : ∀ (x1 : Int32) (M : g_M) (p : Int32 × g_M), kE x1 M = some p → g_fr [35] [(32, 2), (32, 6), (32, 7)] M p.2) {x1 : Int32} {M : g_M} {p : Int32 × g_M} (h : f_X9_readOne kE x1 M = some p) : g_fr [35] [(32, 2), (32, 6), (32, 7)] M p.2 := by
  unfold f_X9_readOne at h
  have hf := g_fr.rfl (S := [35]) (T := [(32, 2), (32, 6), (32, 7)]) (M := M)
  obtain ⟨p1, hp1, h⟩ := g_bind h
  have hf := hf.trans ((r_X9_pass hp1).mono (by decide) (by decide))
  rcases g_ifs h with h | h
  · obtain ⟨p2, hp2, h⟩ := g_bind h
    have hf := hf.trans ((r_X9_pass hp2).mono (by decide) (by decide))
    rcases g_ifs h with h | h
    · obtain ⟨p3, hp3, h⟩ := g_bind h
      have hf := hf.trans ((r_X9_pass hp3).mono (by decide) (by decide))
      rcases g_ifs h with h | h
      · obtain ⟨p4, hp4, h⟩ := g_bind h
        have hf := hf.trans ((r_X9_pass hp4).mono (by decide) (by decide))
        rcases g_ifs h with h | h
        · rcases g_ifs h with h | h
          · obtain rfl := Option.some.inj h
            exact hf
          · obtain ⟨p5, hp5, h⟩ := g_bind h
            have hf := hf.trans ((r_X9_pass hp5).mono (by decide) (by decide))
            rcases g_ifs h with h | h
            · obtain rfl := Option.some.inj h
              exact hf
            · obtain ⟨p6, hp6, h⟩ := g_bind h
              have hf := hf.trans ((hE _ _ _ hp6).mono (by decide) (by decide))
              rcases g_ifs h with h | h
              · obtain rfl := Option.some.inj h
                exact hf
              · obtain ⟨p7, hp7, h⟩ := g_bind h
                have hf := hf.trans ((r_X9_pass hp7).mono (by decide) (by decide))
                rcases g_ifs h with h | h
                · obtain rfl := Option.some.inj h
                  exact hf
                · obtain rfl := Option.some.inj h
                  exact hf
        · obtain ⟨v8, -, h⟩ := g_bind h
          obtain ⟨p9, hp9, h⟩ := g_bind h
          have hf := hf.trans ((r_X9_pass hp9).mono (by decide) (by decide))
          rcases g_ifs h with h | h
          · obtain rfl := Option.some.inj h
            exact hf
          · obtain ⟨p10, hp10, h⟩ := g_bind h
            have hf := hf.trans ((r_X9_emit hp10).mono (by decide) (by decide))
            rcases g_ifs h with h | h
            · obtain rfl := Option.some.inj h
              exact hf
            · obtain rfl := Option.some.inj h
              exact hf
      · obtain ⟨p11, hp11, h⟩ := g_bind h
        have hf := hf.trans ((r_X9_readPart hp11).mono (by decide) (by decide))
        rcases g_ifs h with h | h
        · obtain rfl := Option.some.inj h
          exact hf
        · obtain ⟨p12, hp12, h⟩ := g_bind h
          have hf := hf.trans ((r_X9_emit hp12).mono (by decide) (by decide))
          rcases g_ifs h with h | h
          · obtain rfl := Option.some.inj h
            exact hf
          · obtain rfl := Option.some.inj h
            exact hf
    · obtain ⟨p13, hp13, h⟩ := g_bind h
      have hf := hf.trans ((r_X9_readPart hp13).mono (by decide) (by decide))
      rcases g_ifs h with h | h
      · obtain rfl := Option.some.inj h
        exact hf
      · obtain ⟨p14, hp14, h⟩ := g_bind h
        have hf := hf.trans ((r_X9_emit hp14).mono (by decide) (by decide))
        rcases g_ifs h with h | h
        · obtain rfl := Option.some.inj h
          exact hf
        · obtain rfl := Option.some.inj h
          exact hf
  · obtain ⟨v15, -, h⟩ := g_bind h
    obtain ⟨p16, hp16, h⟩ := g_bind h
    have hf := hf.trans ((r_X9_pass hp16).mono (by decide) (by decide))
    rcases g_ifs h with h | h
    · obtain rfl := Option.some.inj h
      exact hf
    · obtain ⟨p17, hp17, h⟩ := g_bind h
      have hf := hf.trans ((r_X9_pass hp17).mono (by decide) (by decide))
      rcases g_ifs h with h | h
      · obtain rfl := Option.some.inj h
        exact hf
      · obtain ⟨p18, hp18, h⟩ := g_bind h
        have hf := hf.trans ((r_X9_readPart hp18).mono (by decide) (by decide))
        rcases g_ifs h with h | h
        · obtain rfl := Option.some.inj h
          exact hf
        · obtain ⟨p19, hp19, h⟩ := g_bind h
          have hf := hf.trans ((r_X9_emit hp19).mono (by decide) (by decide))
          rcases g_ifs h with h | h
          · obtain rfl := Option.some.inj h
            exact hf
          · obtain rfl := Option.some.inj h
            exact hf
def F_X9_readNot (kE : Int32 → g_M → Option (Int32 × g_M)) (kN : Int32 → g_M → Option (Int32 × g_M)) (x1 : Int32) (M : g_M) : Option (Int32 × g_M) :=
  (g_ld M 77 121 (M.1 32 6)).bind fun v1 => (if v1 = 11 then ((if x1 < 6 then ((some (g_u M 32 6 ((M.1 32 6) + 1))).bind fun M2 => (kN (x1 + 1) M2).bind fun p3 => (f_X9_emit 4 0 0 p3.2).bind fun p4 => (g_bz p3.1).bind fun z5 => some (z5, p4.2)) else (some (0, M)))) else ((f_X9_readOne kE x1 M).bind fun p6 => (g_bz p6.1).bind fun z7 => some (z7, p6.2)))
def f_X9_readNot (kE : Int32 → g_M → Option (Int32 × g_M)) (d : Nat) (x1 : Int32) (M : g_M) : Option (Int32 × g_M) := g_lp1 (F_X9_readNot kE) d x1 M
set_option maxRecDepth 100000 in
theorem m_X9_readNot {l : Launch} {Y : g_Y} (kE : Int32 → g_M → Option (Int32 × g_M)) (hh : Nat) (hE : ∀ (x1 : Int32) (M : g_M) (p : Int32 × g_M), kE x1 M = some p → g_R l Y (hh) yX9_readEither cX9_readEither 4 (some .boolean) [g_r Y 32, .int x1] M (some (.int p.1)) p.2) (d : Nat) : ∀ (x1 : Int32) (M : g_M) (p : Int32 × g_M), f_X9_readNot kE d x1 M = some p → g_R l Y (hh + 13 + d) yX9_readNot cX9_readNot 3 (some .boolean) [g_r Y 32, .int x1] M (some (.int p.1)) p.2 := by
  induction d with
  | zero => intro x1 M p h; exact (g_nn h).elim
  | succ d hN =>
    intro x1 M p h
    have h : F_X9_readNot kE (g_lp1 (F_X9_readNot kE) d) x1 M = some p := h
    have hN : ∀ (x1 : Int32) (M : g_M) (p : Int32 × g_M), g_lp1 (F_X9_readNot kE) d x1 M = some p → g_R l Y (hh + 13 + d) yX9_readNot cX9_readNot 3 (some .boolean) [g_r Y 32, .int x1] M (some (.int p.1)) p.2 := hN
    generalize g_lp1 (F_X9_readNot kE) d = kN at h hN
    unfold F_X9_readNot at h
    refine g_R_of kP_X9 rfl (Nat.le_of_ble_eq_true rfl) (fun X C E => ?_)
    show g_G 3 X Y 0 [(0, g_r Y 32), (1, .int x1)] [] M
    refine g_aload_n C 0 dX9_readNot_0 (q := 1) rfl rfl rfl ?_
    refine g_get C (k := 32) (i := 3) (by decide) (gc_32 Y _ _) rfl kU_X9 (by decide) kF_X9_22 rfl dX9_readNot_1 (q := 4) rfl ?_
    refine g_aload_n C 0 dX9_readNot_4 (q := 5) rfl rfl rfl ?_
    refine g_get C (k := 32) (i := 6) (by decide) (gc_32 Y _ _) rfl kU_X9 (by decide) kF_X9_38 rfl dX9_readNot_5 (q := 8) rfl ?_
    obtain ⟨v1, hv1, h⟩ := g_bind h
    refine g_iald C (k := 77) (n := 121) (by decide) (gc_77 Y _ _) hv1 dX9_readNot_8 (q := 9) rfl ?_
    refine g_bipush C (v := 11) dX9_readNot_9 (q := 11) rfl (by decide) ?_
    have hif := g_if h
    clear h
    refine g_icmp_eq C dX9_readNot_11 (q := 14) (tgt := 20) rfl (by decide) (fun c => ?_) (fun c => ?_)
    · have h := hif.1 c
      clear hif
      refine g_iload_n C 1 dX9_readNot_20 (q := 21) rfl rfl rfl ?_
      refine g_bipush C (v := 6) dX9_readNot_21 (q := 23) rfl (by decide) ?_
      have hif := g_if h
      clear h
      refine g_icmp_lt C dX9_readNot_23 (q := 26) (tgt := 28) rfl (by decide) (fun c => ?_) (fun c => ?_)
      · have h := hif.1 c
        clear hif
        refine g_aload_n C 0 dX9_readNot_28 (q := 29) rfl rfl rfl ?_
        refine g_dup C dX9_readNot_29 (q := 30) rfl rfl ?_
        refine g_get C (k := 32) (i := 6) (by decide) (gc_32 Y _ _) rfl kU_X9 (by decide) kF_X9_38 rfl dX9_readNot_30 (q := 33) rfl ?_
        refine g_iconst C (v := 1) dX9_readNot_33 (q := 34) rfl (by decide) ?_
        refine g_iadd C dX9_readNot_34 (q := 35) rfl ?_
        obtain ⟨M2, hM2, h⟩ := g_bind h
        refine g_put C (k := 32) (i := 6) (ty := .int) (by decide) (gc_32 Y _ _) (gp_32_6 Y _ _ _) rfl kU_X9 tyX9_ok nmX9 (by decide) kF_X9_38 rfl rfl rfl rfl (Nat.le_of_ble_eq_true rfl) dX9_readNot_35 (q := 38) rfl ?_
        refine g_mem hM2 ?_
        refine g_aload_n C 0 dX9_readNot_38 (q := 39) rfl rfl rfl ?_
        refine g_iload_n C 1 dX9_readNot_39 (q := 40) rfl rfl rfl ?_
        refine g_iconst C (v := 1) dX9_readNot_40 (q := 41) rfl (by decide) ?_
        refine g_iadd C dX9_readNot_41 (q := 42) rfl ?_
        obtain ⟨p3, hp3, h⟩ := g_bind h
        refine g_callV C (k := 32) (as := [.int (x1 + 1)]) (st := []) (hN _ _ _ hp3) (g_hR (by omega)) (by decide) (by decide) (gc_32 Y _ _) rfl kM_X9_57 kI_X9_readNot kS_X9_readNot kN_X9 kC_X9_readNot kD_X9_readNot rfl (Nat.le_of_ble_eq_true rfl) dX9_readNot_42 (q := 45) rfl ?_
        show g_G 3 X Y 45 [(0, g_r Y 32), (1, .int x1)] [.int p3.1] p3.2
        refine g_istore_n C dX9_readNot_45 (q := 46) rfl rfl (by decide) (lv' := [(2, .int p3.1), (0, g_r Y 32), (1, .int x1)]) rfl ?_
        refine g_aload_n C 1 dX9_readNot_46 (q := 47) rfl rfl rfl ?_
        refine g_iconst C (v := 4) dX9_readNot_47 (q := 48) rfl (by decide) ?_
        refine g_iconst C (v := 0) dX9_readNot_48 (q := 49) rfl (by decide) ?_
        refine g_iconst C (v := 0) dX9_readNot_49 (q := 50) rfl (by decide) ?_
        obtain ⟨p4, hp4, h⟩ := g_bind h
        refine g_callV C (k := 32) (as := [.int 4, .int 0, .int 0]) (st := []) (m_X9_emit hp4) (g_hR (by omega)) (by decide) (by decide) (gc_32 Y _ _) rfl kM_X9_50 kI_X9_emit kS_X9_emit kN_X9 kC_X9_emit kD_X9_emit rfl (Nat.le_of_ble_eq_true rfl) dX9_readNot_50 (q := 53) rfl ?_
        show g_G 3 X Y 53 [(2, .int p3.1), (0, g_r Y 32), (1, .int x1)] [.int p4.1] p4.2
        refine g_pop C dX9_readNot_53 (q := 54) rfl rfl ?_
        refine g_iload_n C 0 dX9_readNot_54 (q := 55) rfl rfl rfl ?_
        obtain ⟨z5, hz5, h⟩ := g_bind h
        obtain rfl := Option.some.inj h
        exact g_zret C hz5 E dX9_readNot_55
      · have h := hif.2 c
        clear hif
        refine g_iconst C (v := 0) dX9_readNot_26 (q := 27) rfl (by decide) ?_
        obtain rfl := Option.some.inj h
        exact g_zret C (g_bz_lit (by decide)) E dX9_readNot_27
    · have h := hif.2 c
      clear hif
      refine g_aload_n C 0 dX9_readNot_14 (q := 15) rfl rfl rfl ?_
      refine g_iload_n C 1 dX9_readNot_15 (q := 16) rfl rfl rfl ?_
      obtain ⟨p6, hp6, h⟩ := g_bind h
      refine g_callV C (k := 32) (as := [.int x1]) (st := []) (m_X9_readOne kE hh hE hp6) (g_hR (by omega)) (by decide) (by decide) (gc_32 Y _ _) rfl kM_X9_60 kI_X9_readOne kS_X9_readOne kN_X9 kC_X9_readOne kD_X9_readOne rfl (Nat.le_of_ble_eq_true rfl) dX9_readNot_16 (q := 19) rfl ?_
      show g_G 3 X Y 19 [(0, g_r Y 32), (1, .int x1)] [.int p6.1] p6.2
      obtain ⟨z7, hz7, h⟩ := g_bind h
      obtain rfl := Option.some.inj h
      exact g_zret C hz7 E dX9_readNot_19
theorem r_X9_readNot {kE : Int32 → g_M → Option (Int32 × g_M)} (hE : ∀ (x1 : Int32) (M : g_M) (p : Int32 × g_M), kE x1 M = some p → g_fr [35] [(32, 2), (32, 6), (32, 7)] M p.2) (d : Nat) : ∀ (x1 : Int32) (M : g_M) (p : Int32 × g_M), f_X9_readNot kE d x1 M = some p → g_fr [35] [(32, 2), (32, 6), (32, 7)] M p.2 := by
  induction d with
  | zero => intro x1 M p h; exact (g_nn h).elim
  | succ d hN =>
    intro x1 M p h
    have h : F_X9_readNot kE (g_lp1 (F_X9_readNot kE) d) x1 M = some p := h
    have hN : ∀ (x1 : Int32) (M : g_M) (p : Int32 × g_M), g_lp1 (F_X9_readNot kE) d x1 M = some p → g_fr [35] [(32, 2), (32, 6), (32, 7)] M p.2 := hN
    generalize g_lp1 (F_X9_readNot kE) d = kN at h hN
    unfold F_X9_readNot at h
    have hf := g_fr.rfl (S := [35]) (T := [(32, 2), (32, 6), (32, 7)]) (M := M)
    obtain ⟨v1, -, h⟩ := g_bind h
    rcases g_ifs h with h | h
    · rcases g_ifs h with h | h
      · obtain ⟨M2, hM2, h⟩ := g_bind h
        have hf := hf.pu hM2 (by decide)
        obtain ⟨p3, hp3, h⟩ := g_bind h
        have hf := hf.trans ((hN _ _ _ hp3).mono (by decide) (by decide))
        obtain ⟨p4, hp4, h⟩ := g_bind h
        have hf := hf.trans ((r_X9_emit hp4).mono (by decide) (by decide))
        obtain ⟨z5, -, h⟩ := g_bind h
        obtain rfl := Option.some.inj h
        exact hf
      · obtain rfl := Option.some.inj h
        exact hf
    · obtain ⟨p6, hp6, h⟩ := g_bind h
      have hf := hf.trans ((r_X9_readOne hE hp6).mono (by decide) (by decide))
      obtain ⟨z7, -, h⟩ := g_bind h
      obtain rfl := Option.some.inj h
      exact hf
def F_X9_readBoth_8 (kE : Int32 → g_M → Option (Int32 × g_M)) (k47 : Int32 → g_M → Option (Int32 × g_M)) (k : Int32 → Int32 → Int32 → g_M → Option (Int32 × g_M)) (x1 : Int32) (x2 : Int32) (x3 : Int32) (M : g_M) : Option (Int32 × g_M) :=
  (if x2 = 0 then (k47 x2 M) else ((if 120 ≤ x3 then (k47 x2 M) else ((f_X9_pass 10 M).bind fun p2 => (if p2.1 = 0 then (k47 x2 p2.2) else ((f_X9_readNot kE 8 x1 p2.2).bind fun p3 => (f_X9_emit 5 0 0 p3.2).bind fun p4 => k x1 p3.1 (x3 + 1) p4.2))))))
set_option maxRecDepth 100000 in
theorem t_X9_readBoth_8 {l : Launch} {X : g_X} {Y : g_Y} {p : Int32 × g_M} {kE : Int32 → g_M → Option (Int32 × g_M)} {k47 : Int32 → g_M → Option (Int32 × g_M)} (hh : Nat) (hE : ∀ (x1 : Int32) (M : g_M) (p : Int32 × g_M), kE x1 M = some p → g_R l Y (hh) yX9_readEither cX9_readEither 4 (some .boolean) [g_r Y 32, .int x1] M (some (.int p.1)) p.2) (C : g_C l (g_rm (hh + 22)) RX9 cX9_readBoth 4 X Y) (E : g_E (some .boolean) X Y (some (.int p.1)) p.2) (hk47 : ∀ (x2 : Int32) (M : g_M), k47 x2 M = some p → g_G 4 X Y 47 [(2, .int x2)] [] M) (n : Nat) : ∀ (x1 : Int32) (x2 : Int32) (x3 : Int32) (M : g_M), g_lp3 (F_X9_readBoth_8 kE k47) n x1 x2 x3 M = some p → g_G 4 X Y 8 [(0, g_r Y 32), (1, .int x1), (2, .int x2), (3, .int x3)] [] M := by
  induction n with
  | zero => intro x1 x2 x3 M h; exact (g_nn h).elim
  | succ n ih =>
    intro x1 x2 x3 M h
    have h : F_X9_readBoth_8 kE k47 (g_lp3 (F_X9_readBoth_8 kE k47) n) x1 x2 x3 M = some p := h
    generalize g_lp3 (F_X9_readBoth_8 kE k47) n = k at h ih
    unfold F_X9_readBoth_8 at h
    refine g_iload_n C 2 dX9_readBoth_8 (q := 9) rfl rfl rfl ?_
    have hif := g_if h
    clear h
    refine g_if_eq C dX9_readBoth_9 (q := 12) (tgt := 47) rfl (by decide) (fun c => ?_) (fun c => ?_)
    · have h := hif.1 c
      clear hif
      refine g_sub [2] (lv' := [(2, .int x2)]) rfl ?_
      exact hk47 x2 M h
    · have h := hif.2 c
      clear hif
      refine g_iload_n C 3 dX9_readBoth_12 (q := 13) rfl rfl rfl ?_
      refine g_bipush C (v := 120) dX9_readBoth_13 (q := 15) rfl (by decide) ?_
      have hif := g_if h
      clear h
      refine g_icmp_ge C dX9_readBoth_15 (q := 18) (tgt := 47) rfl (by decide) (fun c => ?_) (fun c => ?_)
      · have h := hif.1 c
        clear hif
        refine g_sub [2] (lv' := [(2, .int x2)]) rfl ?_
        exact hk47 x2 M h
      · have h := hif.2 c
        clear hif
        refine g_aload_n C 0 dX9_readBoth_18 (q := 19) rfl rfl rfl ?_
        refine g_bipush C (v := 10) dX9_readBoth_19 (q := 21) rfl (by decide) ?_
        obtain ⟨p2, hp2, h⟩ := g_bind h
        refine g_callV C (k := 32) (as := [.int 10]) (st := []) (m_X9_pass hp2) (g_hR (by omega)) (by decide) (by decide) (gc_32 Y _ _) rfl kM_X9_41 kI_X9_pass kS_X9_pass kN_X9 kC_X9_pass kD_X9_pass rfl (Nat.le_of_ble_eq_true rfl) dX9_readBoth_21 (q := 24) rfl ?_
        show g_G 4 X Y 24 [(0, g_r Y 32), (1, .int x1), (2, .int x2), (3, .int x3)] [.int p2.1] p2.2
        have hif := g_if h
        clear h
        refine g_if_eq C dX9_readBoth_24 (q := 27) (tgt := 47) rfl (by decide) (fun c => ?_) (fun c => ?_)
        · have h := hif.1 c
          clear hif
          refine g_sub [2] (lv' := [(2, .int x2)]) rfl ?_
          exact hk47 x2 p2.2 h
        · have h := hif.2 c
          clear hif
          refine g_aload_n C 0 dX9_readBoth_27 (q := 28) rfl rfl rfl ?_
          refine g_iload_n C 1 dX9_readBoth_28 (q := 29) rfl rfl rfl ?_
          obtain ⟨p3, hp3, h⟩ := g_bind h
          refine g_callV C (k := 32) (as := [.int x1]) (st := []) (m_X9_readNot kE hh hE 8 _ _ _ hp3) (g_hR (by omega)) (by decide) (by decide) (gc_32 Y _ _) rfl kM_X9_57 kI_X9_readNot kS_X9_readNot kN_X9 kC_X9_readNot kD_X9_readNot rfl (Nat.le_of_ble_eq_true rfl) dX9_readBoth_29 (q := 32) rfl ?_
          show g_G 4 X Y 32 [(0, g_r Y 32), (1, .int x1), (2, .int x2), (3, .int x3)] [.int p3.1] p3.2
          refine g_istore_n C dX9_readBoth_32 (q := 33) rfl rfl (by decide) (lv' := [(2, .int p3.1), (0, g_r Y 32), (1, .int x1), (3, .int x3)]) rfl ?_
          refine g_aload_n C 1 dX9_readBoth_33 (q := 34) rfl rfl rfl ?_
          refine g_iconst C (v := 5) dX9_readBoth_34 (q := 35) rfl (by decide) ?_
          refine g_iconst C (v := 0) dX9_readBoth_35 (q := 36) rfl (by decide) ?_
          refine g_iconst C (v := 0) dX9_readBoth_36 (q := 37) rfl (by decide) ?_
          obtain ⟨p4, hp4, h⟩ := g_bind h
          refine g_callV C (k := 32) (as := [.int 5, .int 0, .int 0]) (st := []) (m_X9_emit hp4) (g_hR (by omega)) (by decide) (by decide) (gc_32 Y _ _) rfl kM_X9_50 kI_X9_emit kS_X9_emit kN_X9 kC_X9_emit kD_X9_emit rfl (Nat.le_of_ble_eq_true rfl) dX9_readBoth_37 (q := 40) rfl ?_
          show g_G 4 X Y 40 [(2, .int p3.1), (0, g_r Y 32), (1, .int x1), (3, .int x3)] [.int p4.1] p4.2
          refine g_pop C dX9_readBoth_40 (q := 41) rfl rfl ?_
          refine g_iinc C (k := 3) (v := x3 + 1) dX9_readBoth_41 (q := 44) rfl rfl rfl (by decide) (lv' := [(3, .int (x3 + 1)), (2, .int p3.1), (0, g_r Y 32), (1, .int x1)]) rfl ?_
          refine g_goto C dX9_readBoth_44 (tgt := 8) (by decide) ?_
          refine g_sub [2, 3, 1, 0] (lv' := [(0, g_r Y 32), (1, .int x1), (2, .int p3.1), (3, .int (x3 + 1))]) rfl ?_
          exact ih x1 p3.1 (x3 + 1) p4.2 h
theorem r_X9_readBoth_8 {p : Int32 × g_M} {kE : Int32 → g_M → Option (Int32 × g_M)} {k47 : Int32 → g_M → Option (Int32 × g_M)} (hE : ∀ (x1 : Int32) (M : g_M) (p : Int32 × g_M), kE x1 M = some p → g_fr [35] [(32, 2), (32, 6), (32, 7)] M p.2) (hk47 : ∀ (x2 : Int32) (M : g_M), k47 x2 M = some p → g_fr [35] [(32, 2), (32, 6), (32, 7)] M p.2) (n : Nat) : ∀ (x1 : Int32) (x2 : Int32) (x3 : Int32) (M : g_M), g_lp3 (F_X9_readBoth_8 kE k47) n x1 x2 x3 M = some p → g_fr [35] [(32, 2), (32, 6), (32, 7)] M p.2 := by
  induction n with
  | zero => intro x1 x2 x3 M h; exact (g_nn h).elim
  | succ n ih =>
    intro x1 x2 x3 M h
    have h : F_X9_readBoth_8 kE k47 (g_lp3 (F_X9_readBoth_8 kE k47) n) x1 x2 x3 M = some p := h
    generalize g_lp3 (F_X9_readBoth_8 kE k47) n = k at h ih
    unfold F_X9_readBoth_8 at h
    have hf := g_fr.rfl (S := [35]) (T := [(32, 2), (32, 6), (32, 7)]) (M := M)
    rcases g_ifs h with h | h
    · exact hf.trans (hk47 x2 M h)
    · rcases g_ifs h with h | h
      · exact hf.trans (hk47 x2 M h)
      · obtain ⟨p2, hp2, h⟩ := g_bind h
        have hf := hf.trans ((r_X9_pass hp2).mono (by decide) (by decide))
        rcases g_ifs h with h | h
        · exact hf.trans (hk47 x2 p2.2 h)
        · obtain ⟨p3, hp3, h⟩ := g_bind h
          have hf := hf.trans ((r_X9_readNot hE 8 _ _ _ hp3).mono (by decide) (by decide))
          obtain ⟨p4, hp4, h⟩ := g_bind h
          have hf := hf.trans ((r_X9_emit hp4).mono (by decide) (by decide))
          exact hf.trans (ih x1 p3.1 (x3 + 1) p4.2 h)
def f_X9_readBoth (kE : Int32 → g_M → Option (Int32 × g_M)) (x1 : Int32) (M : g_M) : Option (Int32 × g_M) :=
  (f_X9_readNot kE 8 x1 M).bind fun p1 => g_lp3 (F_X9_readBoth_8 kE (fun (x2 : Int32) (M : g_M) => (g_bz x2).bind fun z5 => some (z5, M))) 20000000 x1 p1.1 0 p1.2
set_option maxRecDepth 100000 in
theorem m_X9_readBoth {l : Launch} {Y : g_Y} (kE : Int32 → g_M → Option (Int32 × g_M)) (hh : Nat) (hE : ∀ (x1 : Int32) (M : g_M) (p : Int32 × g_M), kE x1 M = some p → g_R l Y (hh) yX9_readEither cX9_readEither 4 (some .boolean) [g_r Y 32, .int x1] M (some (.int p.1)) p.2) {x1 : Int32} {M : g_M} {p : Int32 × g_M} (h : f_X9_readBoth kE x1 M = some p) : g_R l Y (hh + 22) yX9_readBoth cX9_readBoth 4 (some .boolean) [g_r Y 32, .int x1] M (some (.int p.1)) p.2 := by
  unfold f_X9_readBoth at h
  refine g_R_of kP_X9 rfl (Nat.le_of_ble_eq_true rfl) (fun X C E => ?_)
  show g_G 4 X Y 0 [(0, g_r Y 32), (1, .int x1)] [] M
  refine g_aload_n C 0 dX9_readBoth_0 (q := 1) rfl rfl rfl ?_
  refine g_iload_n C 1 dX9_readBoth_1 (q := 2) rfl rfl rfl ?_
  obtain ⟨p1, hp1, h⟩ := g_bind h
  refine g_callV C (k := 32) (as := [.int x1]) (st := []) (m_X9_readNot kE hh hE 8 _ _ _ hp1) (g_hR (by omega)) (by decide) (by decide) (gc_32 Y _ _) rfl kM_X9_57 kI_X9_readNot kS_X9_readNot kN_X9 kC_X9_readNot kD_X9_readNot rfl (Nat.le_of_ble_eq_true rfl) dX9_readBoth_2 (q := 5) rfl ?_
  show g_G 4 X Y 5 [(0, g_r Y 32), (1, .int x1)] [.int p1.1] p1.2
  refine g_istore_n C dX9_readBoth_5 (q := 6) rfl rfl (by decide) (lv' := [(2, .int p1.1), (0, g_r Y 32), (1, .int x1)]) rfl ?_
  refine g_iconst C (v := 0) dX9_readBoth_6 (q := 7) rfl (by decide) ?_
  refine g_istore_n C dX9_readBoth_7 (q := 8) rfl rfl (by decide) (lv' := [(3, .int 0), (2, .int p1.1), (0, g_r Y 32), (1, .int x1)]) rfl ?_
  refine g_sub [2, 3, 1, 0] (lv' := [(0, g_r Y 32), (1, .int x1), (2, .int p1.1), (3, .int 0)]) rfl ?_
  refine t_X9_readBoth_8 hh hE C E ?_ 20000000 x1 p1.1 0 p1.2 h
  · intro x2 M h
    try dsimp only at h
    refine g_iload_n C 0 dX9_readBoth_47 (q := 48) rfl rfl rfl ?_
    obtain ⟨z5, hz5, h⟩ := g_bind h
    obtain rfl := Option.some.inj h
    exact g_zret C hz5 E dX9_readBoth_48
theorem r_X9_readBoth {kE : Int32 → g_M → Option (Int32 × g_M)} (hE : ∀ (x1 : Int32) (M : g_M) (p : Int32 × g_M), kE x1 M = some p → g_fr [35] [(32, 2), (32, 6), (32, 7)] M p.2) {x1 : Int32} {M : g_M} {p : Int32 × g_M} (h : f_X9_readBoth kE x1 M = some p) : g_fr [35] [(32, 2), (32, 6), (32, 7)] M p.2 := by
  unfold f_X9_readBoth at h
  have hf := g_fr.rfl (S := [35]) (T := [(32, 2), (32, 6), (32, 7)]) (M := M)
  obtain ⟨p1, hp1, h⟩ := g_bind h
  have hf := hf.trans ((r_X9_readNot hE 8 _ _ _ hp1).mono (by decide) (by decide))
  refine hf.trans (r_X9_readBoth_8 hE ?_ 20000000 x1 p1.1 0 p1.2 h)
  · intro x2 M h
    try dsimp only at h
    have hf := g_fr.rfl (S := [35]) (T := [(32, 2), (32, 6), (32, 7)]) (M := M)
    obtain ⟨z5, -, h⟩ := g_bind h
    obtain rfl := Option.some.inj h
    exact hf
def F_X9_readEither_8 (kE : Int32 → g_M → Option (Int32 × g_M)) (k48 : Int32 → g_M → Option (Int32 × g_M)) (k : Int32 → Int32 → Int32 → g_M → Option (Int32 × g_M)) (x1 : Int32) (x2 : Int32) (x3 : Int32) (M : g_M) : Option (Int32 × g_M) :=
  (if x2 = 0 then (k48 x2 M) else ((if 120 ≤ x3 then (k48 x2 M) else ((f_X9_pass 9 M).bind fun p2 => (if p2.1 = 0 then (k48 x2 p2.2) else ((f_X9_readBoth kE x1 p2.2).bind fun p3 => (f_X9_emit 6 0 0 p3.2).bind fun p4 => k x1 p3.1 (x3 + 1) p4.2))))))
set_option maxRecDepth 100000 in
theorem t_X9_readEither_8 {l : Launch} {X : g_X} {Y : g_Y} {p : Int32 × g_M} {kE : Int32 → g_M → Option (Int32 × g_M)} {k48 : Int32 → g_M → Option (Int32 × g_M)} (d : Nat) (hE : ∀ (x1 : Int32) (M : g_M) (p : Int32 × g_M), kE x1 M = some p → g_R l Y (23 * d) yX9_readEither cX9_readEither 4 (some .boolean) [g_r Y 32, .int x1] M (some (.int p.1)) p.2) (C : g_C l (g_rm (23 * (d + 1))) RX9 cX9_readEither 4 X Y) (E : g_E (some .boolean) X Y (some (.int p.1)) p.2) (hk48 : ∀ (x2 : Int32) (M : g_M), k48 x2 M = some p → g_G 4 X Y 48 [(2, .int x2)] [] M) (n : Nat) : ∀ (x1 : Int32) (x2 : Int32) (x3 : Int32) (M : g_M), g_lp3 (F_X9_readEither_8 kE k48) n x1 x2 x3 M = some p → g_G 4 X Y 8 [(0, g_r Y 32), (1, .int x1), (2, .int x2), (3, .int x3)] [] M := by
  induction n with
  | zero => intro x1 x2 x3 M h; exact (g_nn h).elim
  | succ n ih =>
    intro x1 x2 x3 M h
    have h : F_X9_readEither_8 kE k48 (g_lp3 (F_X9_readEither_8 kE k48) n) x1 x2 x3 M = some p := h
    generalize g_lp3 (F_X9_readEither_8 kE k48) n = k at h ih
    unfold F_X9_readEither_8 at h
    refine g_iload_n C 2 dX9_readEither_8 (q := 9) rfl rfl rfl ?_
    have hif := g_if h
    clear h
    refine g_if_eq C dX9_readEither_9 (q := 12) (tgt := 48) rfl (by decide) (fun c => ?_) (fun c => ?_)
    · have h := hif.1 c
      clear hif
      refine g_sub [2] (lv' := [(2, .int x2)]) rfl ?_
      exact hk48 x2 M h
    · have h := hif.2 c
      clear hif
      refine g_iload_n C 3 dX9_readEither_12 (q := 13) rfl rfl rfl ?_
      refine g_bipush C (v := 120) dX9_readEither_13 (q := 15) rfl (by decide) ?_
      have hif := g_if h
      clear h
      refine g_icmp_ge C dX9_readEither_15 (q := 18) (tgt := 48) rfl (by decide) (fun c => ?_) (fun c => ?_)
      · have h := hif.1 c
        clear hif
        refine g_sub [2] (lv' := [(2, .int x2)]) rfl ?_
        exact hk48 x2 M h
      · have h := hif.2 c
        clear hif
        refine g_aload_n C 0 dX9_readEither_18 (q := 19) rfl rfl rfl ?_
        refine g_bipush C (v := 9) dX9_readEither_19 (q := 21) rfl (by decide) ?_
        obtain ⟨p2, hp2, h⟩ := g_bind h
        refine g_callV C (k := 32) (as := [.int 9]) (st := []) (m_X9_pass hp2) (g_hR (by omega)) (by decide) (by decide) (gc_32 Y _ _) rfl kM_X9_41 kI_X9_pass kS_X9_pass kN_X9 kC_X9_pass kD_X9_pass rfl (Nat.le_of_ble_eq_true rfl) dX9_readEither_21 (q := 24) rfl ?_
        show g_G 4 X Y 24 [(0, g_r Y 32), (1, .int x1), (2, .int x2), (3, .int x3)] [.int p2.1] p2.2
        have hif := g_if h
        clear h
        refine g_if_eq C dX9_readEither_24 (q := 27) (tgt := 48) rfl (by decide) (fun c => ?_) (fun c => ?_)
        · have h := hif.1 c
          clear hif
          refine g_sub [2] (lv' := [(2, .int x2)]) rfl ?_
          exact hk48 x2 p2.2 h
        · have h := hif.2 c
          clear hif
          refine g_aload_n C 0 dX9_readEither_27 (q := 28) rfl rfl rfl ?_
          refine g_iload_n C 1 dX9_readEither_28 (q := 29) rfl rfl rfl ?_
          obtain ⟨p3, hp3, h⟩ := g_bind h
          refine g_callV C (k := 32) (as := [.int x1]) (st := []) (m_X9_readBoth kE (23 * d) hE hp3) (g_hR (by omega)) (by decide) (by decide) (gc_32 Y _ _) rfl kM_X9_54 kI_X9_readBoth kS_X9_readBoth kN_X9 kC_X9_readBoth kD_X9_readBoth rfl (Nat.le_of_ble_eq_true rfl) dX9_readEither_29 (q := 32) rfl ?_
          show g_G 4 X Y 32 [(0, g_r Y 32), (1, .int x1), (2, .int x2), (3, .int x3)] [.int p3.1] p3.2
          refine g_istore_n C dX9_readEither_32 (q := 33) rfl rfl (by decide) (lv' := [(2, .int p3.1), (0, g_r Y 32), (1, .int x1), (3, .int x3)]) rfl ?_
          refine g_aload_n C 1 dX9_readEither_33 (q := 34) rfl rfl rfl ?_
          refine g_bipush C (v := 6) dX9_readEither_34 (q := 36) rfl (by decide) ?_
          refine g_iconst C (v := 0) dX9_readEither_36 (q := 37) rfl (by decide) ?_
          refine g_iconst C (v := 0) dX9_readEither_37 (q := 38) rfl (by decide) ?_
          obtain ⟨p4, hp4, h⟩ := g_bind h
          refine g_callV C (k := 32) (as := [.int 6, .int 0, .int 0]) (st := []) (m_X9_emit hp4) (g_hR (by omega)) (by decide) (by decide) (gc_32 Y _ _) rfl kM_X9_50 kI_X9_emit kS_X9_emit kN_X9 kC_X9_emit kD_X9_emit rfl (Nat.le_of_ble_eq_true rfl) dX9_readEither_38 (q := 41) rfl ?_
          show g_G 4 X Y 41 [(2, .int p3.1), (0, g_r Y 32), (1, .int x1), (3, .int x3)] [.int p4.1] p4.2
          refine g_pop C dX9_readEither_41 (q := 42) rfl rfl ?_
          refine g_iinc C (k := 3) (v := x3 + 1) dX9_readEither_42 (q := 45) rfl rfl rfl (by decide) (lv' := [(3, .int (x3 + 1)), (2, .int p3.1), (0, g_r Y 32), (1, .int x1)]) rfl ?_
          refine g_goto C dX9_readEither_45 (tgt := 8) (by decide) ?_
          refine g_sub [2, 3, 1, 0] (lv' := [(0, g_r Y 32), (1, .int x1), (2, .int p3.1), (3, .int (x3 + 1))]) rfl ?_
          exact ih x1 p3.1 (x3 + 1) p4.2 h
theorem r_X9_readEither_8 {p : Int32 × g_M} {kE : Int32 → g_M → Option (Int32 × g_M)} {k48 : Int32 → g_M → Option (Int32 × g_M)} (hE : ∀ (x1 : Int32) (M : g_M) (p : Int32 × g_M), kE x1 M = some p → g_fr [35] [(32, 2), (32, 6), (32, 7)] M p.2) (hk48 : ∀ (x2 : Int32) (M : g_M), k48 x2 M = some p → g_fr [35] [(32, 2), (32, 6), (32, 7)] M p.2) (n : Nat) : ∀ (x1 : Int32) (x2 : Int32) (x3 : Int32) (M : g_M), g_lp3 (F_X9_readEither_8 kE k48) n x1 x2 x3 M = some p → g_fr [35] [(32, 2), (32, 6), (32, 7)] M p.2 := by
  induction n with
  | zero => intro x1 x2 x3 M h; exact (g_nn h).elim
  | succ n ih =>
    intro x1 x2 x3 M h
    have h : F_X9_readEither_8 kE k48 (g_lp3 (F_X9_readEither_8 kE k48) n) x1 x2 x3 M = some p := h
    generalize g_lp3 (F_X9_readEither_8 kE k48) n = k at h ih
    unfold F_X9_readEither_8 at h
    have hf := g_fr.rfl (S := [35]) (T := [(32, 2), (32, 6), (32, 7)]) (M := M)
    rcases g_ifs h with h | h
    · exact hf.trans (hk48 x2 M h)
    · rcases g_ifs h with h | h
      · exact hf.trans (hk48 x2 M h)
      · obtain ⟨p2, hp2, h⟩ := g_bind h
        have hf := hf.trans ((r_X9_pass hp2).mono (by decide) (by decide))
        rcases g_ifs h with h | h
        · exact hf.trans (hk48 x2 p2.2 h)
        · obtain ⟨p3, hp3, h⟩ := g_bind h
          have hf := hf.trans ((r_X9_readBoth hE hp3).mono (by decide) (by decide))
          obtain ⟨p4, hp4, h⟩ := g_bind h
          have hf := hf.trans ((r_X9_emit hp4).mono (by decide) (by decide))
          exact hf.trans (ih x1 p3.1 (x3 + 1) p4.2 h)
def F_X9_readEither (kE : Int32 → g_M → Option (Int32 × g_M)) (x1 : Int32) (M : g_M) : Option (Int32 × g_M) :=
  (f_X9_readBoth kE x1 M).bind fun p1 => g_lp3 (F_X9_readEither_8 kE (fun (x2 : Int32) (M : g_M) => (g_bz x2).bind fun z5 => some (z5, M))) 20000000 x1 p1.1 0 p1.2
def f_X9_readEither (d : Nat) (x1 : Int32) (M : g_M) : Option (Int32 × g_M) := g_lp1 (F_X9_readEither) d x1 M
set_option maxRecDepth 100000 in
theorem m_X9_readEither {l : Launch} {Y : g_Y} (d : Nat) : ∀ (x1 : Int32) (M : g_M) (p : Int32 × g_M), f_X9_readEither d x1 M = some p → g_R l Y (23 * d) yX9_readEither cX9_readEither 4 (some .boolean) [g_r Y 32, .int x1] M (some (.int p.1)) p.2 := by
  induction d with
  | zero => intro x1 M p h; exact (g_nn h).elim
  | succ d hE =>
    intro x1 M p h
    have h : F_X9_readEither (g_lp1 (F_X9_readEither) d) x1 M = some p := h
    have hE : ∀ (x1 : Int32) (M : g_M) (p : Int32 × g_M), g_lp1 (F_X9_readEither) d x1 M = some p → g_R l Y (23 * d) yX9_readEither cX9_readEither 4 (some .boolean) [g_r Y 32, .int x1] M (some (.int p.1)) p.2 := hE
    generalize g_lp1 (F_X9_readEither) d = kE at h hE
    unfold F_X9_readEither at h
    refine g_R_of kP_X9 rfl (Nat.le_of_ble_eq_true rfl) (fun X C E => ?_)
    show g_G 4 X Y 0 [(0, g_r Y 32), (1, .int x1)] [] M
    refine g_aload_n C 0 dX9_readEither_0 (q := 1) rfl rfl rfl ?_
    refine g_iload_n C 1 dX9_readEither_1 (q := 2) rfl rfl rfl ?_
    obtain ⟨p1, hp1, h⟩ := g_bind h
    refine g_callV C (k := 32) (as := [.int x1]) (st := []) (m_X9_readBoth kE (23 * d) hE hp1) (g_hR (by omega)) (by decide) (by decide) (gc_32 Y _ _) rfl kM_X9_54 kI_X9_readBoth kS_X9_readBoth kN_X9 kC_X9_readBoth kD_X9_readBoth rfl (Nat.le_of_ble_eq_true rfl) dX9_readEither_2 (q := 5) rfl ?_
    show g_G 4 X Y 5 [(0, g_r Y 32), (1, .int x1)] [.int p1.1] p1.2
    refine g_istore_n C dX9_readEither_5 (q := 6) rfl rfl (by decide) (lv' := [(2, .int p1.1), (0, g_r Y 32), (1, .int x1)]) rfl ?_
    refine g_iconst C (v := 0) dX9_readEither_6 (q := 7) rfl (by decide) ?_
    refine g_istore_n C dX9_readEither_7 (q := 8) rfl rfl (by decide) (lv' := [(3, .int 0), (2, .int p1.1), (0, g_r Y 32), (1, .int x1)]) rfl ?_
    refine g_sub [2, 3, 1, 0] (lv' := [(0, g_r Y 32), (1, .int x1), (2, .int p1.1), (3, .int 0)]) rfl ?_
    refine t_X9_readEither_8 d hE C E ?_ 20000000 x1 p1.1 0 p1.2 h
    · intro x2 M h
      try dsimp only at h
      refine g_iload_n C 0 dX9_readEither_48 (q := 49) rfl rfl rfl ?_
      obtain ⟨z5, hz5, h⟩ := g_bind h
      obtain rfl := Option.some.inj h
      exact g_zret C hz5 E dX9_readEither_49
theorem r_X9_readEither (d : Nat) : ∀ (x1 : Int32) (M : g_M) (p : Int32 × g_M), f_X9_readEither d x1 M = some p → g_fr [35] [(32, 2), (32, 6), (32, 7)] M p.2 := by
  induction d with
  | zero => intro x1 M p h; exact (g_nn h).elim
  | succ d hE =>
    intro x1 M p h
    have h : F_X9_readEither (g_lp1 (F_X9_readEither) d) x1 M = some p := h
    have hE : ∀ (x1 : Int32) (M : g_M) (p : Int32 × g_M), g_lp1 (F_X9_readEither) d x1 M = some p → g_fr [35] [(32, 2), (32, 6), (32, 7)] M p.2 := hE
    generalize g_lp1 (F_X9_readEither) d = kE at h hE
    unfold F_X9_readEither at h
    have hf := g_fr.rfl (S := [35]) (T := [(32, 2), (32, 6), (32, 7)]) (M := M)
    obtain ⟨p1, hp1, h⟩ := g_bind h
    have hf := hf.trans ((r_X9_readBoth hE hp1).mono (by decide) (by decide))
    refine hf.trans (r_X9_readEither_8 hE ?_ 20000000 x1 p1.1 0 p1.2 h)
    · intro x2 M h
      try dsimp only at h
      have hf := g_fr.rfl (S := [35]) (T := [(32, 2), (32, 6), (32, 7)]) (M := M)
      obtain ⟨z5, -, h⟩ := g_bind h
      obtain rfl := Option.some.inj h
      exact hf
def f_X9_isLetter (x0 : Int32) (M : g_M) : Option (Int32) :=
  (if x0 < 97 then (some 0) else ((if 122 < x0 then (some 0) else (some 1))))
set_option maxRecDepth 100000 in
theorem m_X9_isLetter {l : Launch} {Y : g_Y} {x0 : Int32} {M : g_M} {p : Int32} (h : f_X9_isLetter x0 M = some p) : g_R l Y (0) yX9_isLetter cX9_isLetter 1 (some .boolean) [.int x0] M (some (.int p)) M := by
  unfold f_X9_isLetter at h
  refine g_R_of kP_X9 rfl (Nat.le_of_ble_eq_true rfl) (fun X C E => ?_)
  show g_G 1 X Y 0 [(0, .int x0)] [] M
  refine g_iload_n C 0 dX9_isLetter_0 (q := 1) rfl rfl rfl ?_
  refine g_bipush C (v := 97) dX9_isLetter_1 (q := 3) rfl (by decide) ?_
  have hif := g_if h
  clear h
  refine g_icmp_lt C dX9_isLetter_3 (q := 6) (tgt := 16) rfl (by decide) (fun c => ?_) (fun c => ?_)
  · have h := hif.1 c
    clear hif
    refine g_iconst C (v := 0) dX9_isLetter_16 (q := 17) rfl (by decide) ?_
    obtain rfl := Option.some.inj h
    exact g_zret C (g_bz_lit (by decide)) E dX9_isLetter_17
  · have h := hif.2 c
    clear hif
    refine g_iload_n C 0 dX9_isLetter_6 (q := 7) rfl rfl rfl ?_
    refine g_bipush C (v := 122) dX9_isLetter_7 (q := 9) rfl (by decide) ?_
    have hif := g_if h
    clear h
    refine g_icmp_gt C dX9_isLetter_9 (q := 12) (tgt := 16) rfl (by decide) (fun c => ?_) (fun c => ?_)
    · have h := hif.1 c
      clear hif
      refine g_iconst C (v := 0) dX9_isLetter_16 (q := 17) rfl (by decide) ?_
      obtain rfl := Option.some.inj h
      exact g_zret C (g_bz_lit (by decide)) E dX9_isLetter_17
    · have h := hif.2 c
      clear hif
      refine g_iconst C (v := 1) dX9_isLetter_12 (q := 13) rfl (by decide) ?_
      refine g_goto C dX9_isLetter_13 (tgt := 17) (by decide) ?_
      obtain rfl := Option.some.inj h
      exact g_zret C (g_bz_lit (by decide)) E dX9_isLetter_17
def f_X9_isDigit (x0 : Int32) (M : g_M) : Option (Int32) :=
  (if x0 < 48 then (some 0) else ((if 57 < x0 then (some 0) else (some 1))))
set_option maxRecDepth 100000 in
theorem m_X9_isDigit {l : Launch} {Y : g_Y} {x0 : Int32} {M : g_M} {p : Int32} (h : f_X9_isDigit x0 M = some p) : g_R l Y (0) yX9_isDigit cX9_isDigit 1 (some .boolean) [.int x0] M (some (.int p)) M := by
  unfold f_X9_isDigit at h
  refine g_R_of kP_X9 rfl (Nat.le_of_ble_eq_true rfl) (fun X C E => ?_)
  show g_G 1 X Y 0 [(0, .int x0)] [] M
  refine g_iload_n C 0 dX9_isDigit_0 (q := 1) rfl rfl rfl ?_
  refine g_bipush C (v := 48) dX9_isDigit_1 (q := 3) rfl (by decide) ?_
  have hif := g_if h
  clear h
  refine g_icmp_lt C dX9_isDigit_3 (q := 6) (tgt := 16) rfl (by decide) (fun c => ?_) (fun c => ?_)
  · have h := hif.1 c
    clear hif
    refine g_iconst C (v := 0) dX9_isDigit_16 (q := 17) rfl (by decide) ?_
    obtain rfl := Option.some.inj h
    exact g_zret C (g_bz_lit (by decide)) E dX9_isDigit_17
  · have h := hif.2 c
    clear hif
    refine g_iload_n C 0 dX9_isDigit_6 (q := 7) rfl rfl rfl ?_
    refine g_bipush C (v := 57) dX9_isDigit_7 (q := 9) rfl (by decide) ?_
    have hif := g_if h
    clear h
    refine g_icmp_gt C dX9_isDigit_9 (q := 12) (tgt := 16) rfl (by decide) (fun c => ?_) (fun c => ?_)
    · have h := hif.1 c
      clear hif
      refine g_iconst C (v := 0) dX9_isDigit_16 (q := 17) rfl (by decide) ?_
      obtain rfl := Option.some.inj h
      exact g_zret C (g_bz_lit (by decide)) E dX9_isDigit_17
    · have h := hif.2 c
      clear hif
      refine g_iconst C (v := 1) dX9_isDigit_12 (q := 13) rfl (by decide) ?_
      refine g_goto C dX9_isDigit_13 (tgt := 17) (by decide) ?_
      obtain rfl := Option.some.inj h
      exact g_zret C (g_bz_lit (by decide)) E dX9_isDigit_17
def f_X9_endOf_63 (k : Int32 → Int32 → Int32 → Option (Int32)) (k89 : Int32 → Option (Int32)) (x2 : Int32) (x3 : Int32) (x4 : Int32) (M : g_M) : Option (Int32) :=
  (if x3 = 0 then (k89 x4) else ((g_ld M 34 120 x4).bind fun v5 => (f_X9_isDigit v5 M).bind fun p6 => (if p6 = 0 then (k89 x4) else (k x2 x3 (x4 + 1)))))
set_option maxRecDepth 100000 in
theorem t_X9_endOf_63 {l : Launch} {X : g_X} {Y : g_Y} {p : Int32} {M : g_M} {k : Int32 → Int32 → Int32 → Option (Int32)} {k89 : Int32 → Option (Int32)} (C : g_C l (g_rm (1)) RX9 cX9_endOf 5 X Y) (E : g_E (some .int) X Y (some (.int p)) M) (ih : ∀ (x2 : Int32) (x3 : Int32) (x4 : Int32), k x2 x3 x4 = some p → g_G 5 X Y 31 [(0, g_r Y 32), (2, .int x2), (3, .int x3), (4, .int x4)] [] M) (hk89 : ∀ (x4 : Int32), k89 x4 = some p → g_G 5 X Y 89 [(4, .int x4)] [] M) (x2 : Int32) (x3 : Int32) (x4 : Int32) (h : f_X9_endOf_63 k k89 x2 x3 x4 M = some p) : g_G 5 X Y 63 [(0, g_r Y 32), (2, .int x2), (3, .int x3), (4, .int x4)] [] M := by
  unfold f_X9_endOf_63 at h
  refine g_iload_n C 2 dX9_endOf_63 (q := 64) rfl rfl rfl ?_
  have hif := g_if h
  clear h
  refine g_if_eq C dX9_endOf_64 (q := 67) (tgt := 89) rfl (by decide) (fun c => ?_) (fun c => ?_)
  · have h := hif.1 c
    clear hif
    refine g_sub [3] (lv' := [(4, .int x4)]) rfl ?_
    exact hk89 x4 h
  · have h := hif.2 c
    clear hif
    refine g_aload_n C 0 dX9_endOf_67 (q := 68) rfl rfl rfl ?_
    refine g_get C (k := 32) (i := 0) (by decide) (gc_32 Y _ _) rfl kU_X9 (by decide) kF_X9_12 rfl dX9_endOf_68 (q := 71) rfl ?_
    refine g_get C (k := 33) (i := 0) (by decide) (gc_33 Y _ _) rfl kU_X8 (by decide) kF_X9_75 rfl dX9_endOf_71 (q := 74) rfl ?_
    refine g_iload C 3 dX9_endOf_74 (q := 76) rfl rfl ?_
    obtain ⟨v5, hv5, h⟩ := g_bind h
    refine g_iald C (k := 34) (n := 120) (by decide) (gc_34 Y _ _) hv5 dX9_endOf_76 (q := 77) rfl ?_
    obtain ⟨p6, hp6, h⟩ := g_bind h
    refine g_callS C (as := [.int v5]) (st := []) (m_X9_isDigit hp6) (g_hR (by decide)) (by decide) kM_X9_92 kT_X9_isDigit kN_X9 kC_X9_isDigit kD_X9_isDigit rfl (Nat.le_of_ble_eq_true rfl) dX9_endOf_77 (q := 80) rfl ?_
    show g_G 5 X Y 80 [(0, g_r Y 32), (2, .int x2), (3, .int x3), (4, .int x4)] [.int p6] M
    have hif := g_if h
    clear h
    refine g_if_eq C dX9_endOf_80 (q := 83) (tgt := 89) rfl (by decide) (fun c => ?_) (fun c => ?_)
    · have h := hif.1 c
      clear hif
      refine g_sub [3] (lv' := [(4, .int x4)]) rfl ?_
      exact hk89 x4 h
    · have h := hif.2 c
      clear hif
      refine g_iinc C (k := 3) (v := x4 + 1) dX9_endOf_83 (q := 86) rfl rfl rfl (by decide) (lv' := [(4, .int (x4 + 1)), (0, g_r Y 32), (2, .int x2), (3, .int x3)]) rfl ?_
      refine g_goto C dX9_endOf_86 (tgt := 31) (by decide) ?_
      refine g_sub [1, 2, 3, 0] (lv' := [(0, g_r Y 32), (2, .int x2), (3, .int x3), (4, .int (x4 + 1))]) rfl ?_
      exact ih x2 x3 (x4 + 1) h
def F_X9_endOf_31 (M : g_M) (k89 : Int32 → Option (Int32)) (k : Int32 → Int32 → Int32 → Option (Int32)) (x2 : Int32) (x3 : Int32) (x4 : Int32) : Option (Int32) :=
  (if (M.1 33 1) ≤ x4 then (k89 x4) else ((if x2 = 0 then (f_X9_endOf_63 k k89 x2 x3 x4 M) else ((g_ld M 34 120 x4).bind fun v7 => (f_X9_isLetter v7 M).bind fun p8 => (if p8 = 0 then (f_X9_endOf_63 k k89 x2 x3 x4 M) else (k x2 x3 (x4 + 1)))))))
set_option maxRecDepth 100000 in
theorem t_X9_endOf_31 {l : Launch} {X : g_X} {Y : g_Y} {p : Int32} {M : g_M} {k89 : Int32 → Option (Int32)} (C : g_C l (g_rm (1)) RX9 cX9_endOf 5 X Y) (E : g_E (some .int) X Y (some (.int p)) M) (hk89 : ∀ (x4 : Int32), k89 x4 = some p → g_G 5 X Y 89 [(4, .int x4)] [] M) (n : Nat) : ∀ (x2 : Int32) (x3 : Int32) (x4 : Int32), g_lq3 (F_X9_endOf_31 M k89) n x2 x3 x4 = some p → g_G 5 X Y 31 [(0, g_r Y 32), (2, .int x2), (3, .int x3), (4, .int x4)] [] M := by
  induction n with
  | zero => intro x2 x3 x4 h; exact (g_nn h).elim
  | succ n ih =>
    intro x2 x3 x4 h
    have h : F_X9_endOf_31 M k89 (g_lq3 (F_X9_endOf_31 M k89) n) x2 x3 x4 = some p := h
    generalize g_lq3 (F_X9_endOf_31 M k89) n = k at h ih
    unfold F_X9_endOf_31 at h
    refine g_iload C 3 dX9_endOf_31 (q := 33) rfl rfl ?_
    refine g_aload_n C 0 dX9_endOf_33 (q := 34) rfl rfl rfl ?_
    refine g_get C (k := 32) (i := 0) (by decide) (gc_32 Y _ _) rfl kU_X9 (by decide) kF_X9_12 rfl dX9_endOf_34 (q := 37) rfl ?_
    refine g_get C (k := 33) (i := 1) (by decide) (gc_33 Y _ _) rfl kU_X8 (by decide) kF_X9_74 rfl dX9_endOf_37 (q := 40) rfl ?_
    have hif := g_if h
    clear h
    refine g_icmp_ge C dX9_endOf_40 (q := 43) (tgt := 89) rfl (by decide) (fun c => ?_) (fun c => ?_)
    · have h := hif.1 c
      clear hif
      refine g_sub [3] (lv' := [(4, .int x4)]) rfl ?_
      exact hk89 x4 h
    · have h := hif.2 c
      clear hif
      refine g_iload_n C 1 dX9_endOf_43 (q := 44) rfl rfl rfl ?_
      have hif := g_if h
      clear h
      refine g_if_eq C dX9_endOf_44 (q := 47) (tgt := 63) rfl (by decide) (fun c => ?_) (fun c => ?_)
      · have h := hif.1 c
        clear hif
        refine g_sub [0, 1, 2, 3] (lv' := [(0, g_r Y 32), (2, .int x2), (3, .int x3), (4, .int x4)]) rfl ?_
        exact t_X9_endOf_63 C E ih hk89 x2 x3 x4 h
      · have h := hif.2 c
        clear hif
        refine g_aload_n C 0 dX9_endOf_47 (q := 48) rfl rfl rfl ?_
        refine g_get C (k := 32) (i := 0) (by decide) (gc_32 Y _ _) rfl kU_X9 (by decide) kF_X9_12 rfl dX9_endOf_48 (q := 51) rfl ?_
        refine g_get C (k := 33) (i := 0) (by decide) (gc_33 Y _ _) rfl kU_X8 (by decide) kF_X9_75 rfl dX9_endOf_51 (q := 54) rfl ?_
        refine g_iload C 3 dX9_endOf_54 (q := 56) rfl rfl ?_
        obtain ⟨v7, hv7, h⟩ := g_bind h
        refine g_iald C (k := 34) (n := 120) (by decide) (gc_34 Y _ _) hv7 dX9_endOf_56 (q := 57) rfl ?_
        obtain ⟨p8, hp8, h⟩ := g_bind h
        refine g_callS C (as := [.int v7]) (st := []) (m_X9_isLetter hp8) (g_hR (by decide)) (by decide) kM_X9_89 kT_X9_isLetter kN_X9 kC_X9_isLetter kD_X9_isLetter rfl (Nat.le_of_ble_eq_true rfl) dX9_endOf_57 (q := 60) rfl ?_
        show g_G 5 X Y 60 [(0, g_r Y 32), (2, .int x2), (3, .int x3), (4, .int x4)] [.int p8] M
        have hif := g_if h
        clear h
        refine g_if_ne C dX9_endOf_60 (q := 63) (tgt := 83) rfl (by decide) (fun c => ?_) (fun c => ?_)
        · have h := hif.2 c
          clear hif
          refine g_iinc C (k := 3) (v := x4 + 1) dX9_endOf_83 (q := 86) rfl rfl rfl (by decide) (lv' := [(4, .int (x4 + 1)), (0, g_r Y 32), (2, .int x2), (3, .int x3)]) rfl ?_
          refine g_goto C dX9_endOf_86 (tgt := 31) (by decide) ?_
          refine g_sub [1, 2, 3, 0] (lv' := [(0, g_r Y 32), (2, .int x2), (3, .int x3), (4, .int (x4 + 1))]) rfl ?_
          exact ih x2 x3 (x4 + 1) h
        · have h := hif.1 c
          clear hif
          refine g_sub [0, 1, 2, 3] (lv' := [(0, g_r Y 32), (2, .int x2), (3, .int x3), (4, .int x4)]) rfl ?_
          exact t_X9_endOf_63 C E ih hk89 x2 x3 x4 h
def f_X9_endOf (x1 : Int32) (M : g_M) : Option (Int32) :=
  (g_ld M 34 120 x1).bind fun v1 => (f_X9_isLetter v1 M).bind fun p2 => (g_ld M 34 120 x1).bind fun v3 => (f_X9_isDigit v3 M).bind fun p4 => g_lq3 (F_X9_endOf_31 M (fun (x4 : Int32) => some x4)) 20000000 p2 p4 (x1 + 1)
set_option maxRecDepth 100000 in
theorem m_X9_endOf {l : Launch} {Y : g_Y} {x1 : Int32} {M : g_M} {p : Int32} (h : f_X9_endOf x1 M = some p) : g_R l Y (1) yX9_endOf cX9_endOf 5 (some .int) [g_r Y 32, .int x1] M (some (.int p)) M := by
  unfold f_X9_endOf at h
  refine g_R_of kP_X9 rfl (Nat.le_of_ble_eq_true rfl) (fun X C E => ?_)
  show g_G 5 X Y 0 [(0, g_r Y 32), (1, .int x1)] [] M
  refine g_aload_n C 0 dX9_endOf_0 (q := 1) rfl rfl rfl ?_
  refine g_get C (k := 32) (i := 0) (by decide) (gc_32 Y _ _) rfl kU_X9 (by decide) kF_X9_12 rfl dX9_endOf_1 (q := 4) rfl ?_
  refine g_get C (k := 33) (i := 0) (by decide) (gc_33 Y _ _) rfl kU_X8 (by decide) kF_X9_75 rfl dX9_endOf_4 (q := 7) rfl ?_
  refine g_iload_n C 1 dX9_endOf_7 (q := 8) rfl rfl rfl ?_
  obtain ⟨v1, hv1, h⟩ := g_bind h
  refine g_iald C (k := 34) (n := 120) (by decide) (gc_34 Y _ _) hv1 dX9_endOf_8 (q := 9) rfl ?_
  obtain ⟨p2, hp2, h⟩ := g_bind h
  refine g_callS C (as := [.int v1]) (st := []) (m_X9_isLetter hp2) (g_hR (by decide)) (by decide) kM_X9_89 kT_X9_isLetter kN_X9 kC_X9_isLetter kD_X9_isLetter rfl (Nat.le_of_ble_eq_true rfl) dX9_endOf_9 (q := 12) rfl ?_
  show g_G 5 X Y 12 [(0, g_r Y 32), (1, .int x1)] [.int p2] M
  refine g_istore_n C dX9_endOf_12 (q := 13) rfl rfl (by decide) (lv' := [(2, .int p2), (0, g_r Y 32), (1, .int x1)]) rfl ?_
  refine g_aload_n C 1 dX9_endOf_13 (q := 14) rfl rfl rfl ?_
  refine g_get C (k := 32) (i := 0) (by decide) (gc_32 Y _ _) rfl kU_X9 (by decide) kF_X9_12 rfl dX9_endOf_14 (q := 17) rfl ?_
  refine g_get C (k := 33) (i := 0) (by decide) (gc_33 Y _ _) rfl kU_X8 (by decide) kF_X9_75 rfl dX9_endOf_17 (q := 20) rfl ?_
  refine g_iload_n C 2 dX9_endOf_20 (q := 21) rfl rfl rfl ?_
  obtain ⟨v3, hv3, h⟩ := g_bind h
  refine g_iald C (k := 34) (n := 120) (by decide) (gc_34 Y _ _) hv3 dX9_endOf_21 (q := 22) rfl ?_
  obtain ⟨p4, hp4, h⟩ := g_bind h
  refine g_callS C (as := [.int v3]) (st := []) (m_X9_isDigit hp4) (g_hR (by decide)) (by decide) kM_X9_92 kT_X9_isDigit kN_X9 kC_X9_isDigit kD_X9_isDigit rfl (Nat.le_of_ble_eq_true rfl) dX9_endOf_22 (q := 25) rfl ?_
  show g_G 5 X Y 25 [(2, .int p2), (0, g_r Y 32), (1, .int x1)] [.int p4] M
  refine g_istore_n C dX9_endOf_25 (q := 26) rfl rfl (by decide) (lv' := [(3, .int p4), (2, .int p2), (0, g_r Y 32), (1, .int x1)]) rfl ?_
  refine g_iload_n C 3 dX9_endOf_26 (q := 27) rfl rfl rfl ?_
  refine g_iconst C (v := 1) dX9_endOf_27 (q := 28) rfl (by decide) ?_
  refine g_iadd C dX9_endOf_28 (q := 29) rfl ?_
  refine g_istore C dX9_endOf_29 (q := 31) rfl (by decide) (lv' := [(4, .int (x1 + 1)), (3, .int p4), (2, .int p2), (0, g_r Y 32), (1, .int x1)]) rfl ?_
  refine g_sub [3, 2, 1, 0] (lv' := [(0, g_r Y 32), (2, .int p2), (3, .int p4), (4, .int (x1 + 1))]) rfl ?_
  refine t_X9_endOf_31 C E ?_ 20000000 p2 p4 (x1 + 1) h
  · intro x4 h
    try dsimp only at h
    refine g_iload C 0 dX9_endOf_89 (q := 91) rfl rfl ?_
    obtain rfl := Option.some.inj h
    exact g_iret C E dX9_endOf_91
def f_X9_signToken (x0 : Int32) (M : g_M) : Option (Int32) :=
  (if x0 = 40 then (some 3) else (if x0 = 41 then (some 4) else (if x0 = 91 then (some 5) else (if x0 = 93 then (some 6) else some 1))))
set_option maxRecDepth 100000 in
theorem m_X9_signToken {l : Launch} {Y : g_Y} {x0 : Int32} {M : g_M} {p : Int32} (h : f_X9_signToken x0 M = some p) : g_R l Y (0) yX9_signToken cX9_signToken 1 (some .int) [.int x0] M (some (.int p)) M := by
  unfold f_X9_signToken at h
  refine g_R_of kP_X9 rfl (Nat.le_of_ble_eq_true rfl) (fun X C E => ?_)
  show g_G 1 X Y 0 [(0, .int x0)] [] M
  refine g_iload_n C 0 dX9_signToken_0 (q := 1) rfl rfl rfl ?_
  by_cases e : x0 = 40
  · rw [if_pos e] at h
    refine g_look C (off := 43) (tgt := 44) dX9_signToken_1 (by decide) (by rw [e]; decide) (by decide) ?_
    refine g_iconst C (v := 3) dX9_signToken_44 (q := 45) rfl (by decide) ?_
    obtain rfl := Option.some.inj h
    exact g_iret C E dX9_signToken_45
  rw [if_neg e] at h
  have n40 := g_toI (n := 40) (v := 40) (by decide) e
  by_cases e : x0 = 41
  · rw [if_pos e] at h
    refine g_look C (off := 45) (tgt := 46) dX9_signToken_1 (by decide) (by rw [e]; decide) (by decide) ?_
    refine g_iconst C (v := 4) dX9_signToken_46 (q := 47) rfl (by decide) ?_
    obtain rfl := Option.some.inj h
    exact g_iret C E dX9_signToken_47
  rw [if_neg e] at h
  have n41 := g_toI (n := 41) (v := 41) (by decide) e
  by_cases e : x0 = 91
  · rw [if_pos e] at h
    refine g_look C (off := 47) (tgt := 48) dX9_signToken_1 (by decide) (by rw [e]; decide) (by decide) ?_
    refine g_iconst C (v := 5) dX9_signToken_48 (q := 49) rfl (by decide) ?_
    obtain rfl := Option.some.inj h
    exact g_iret C E dX9_signToken_49
  rw [if_neg e] at h
  have n91 := g_toI (n := 91) (v := 91) (by decide) e
  by_cases e : x0 = 93
  · rw [if_pos e] at h
    refine g_look C (off := 49) (tgt := 50) dX9_signToken_1 (by decide) (by rw [e]; decide) (by decide) ?_
    refine g_bipush C (v := 6) dX9_signToken_50 (q := 52) rfl (by decide) ?_
    obtain rfl := Option.some.inj h
    exact g_iret C E dX9_signToken_52
  rw [if_neg e] at h
  have n93 := g_toI (n := 93) (v := 93) (by decide) e
  have hdef : g_G 1 X Y 53 [(0, .int x0)] [] M := by
    refine g_iconst C (v := 1) dX9_signToken_53 (q := 54) rfl (by decide) ?_
    obtain rfl := Option.some.inj h
    exact g_iret C E dX9_signToken_54
  refine g_look C (off := 52) (tgt := 53) dX9_signToken_1 (by decide) (by simp [Op.lookupswitch.offset, Ne.symm n40, Ne.symm n41, Ne.symm n91, Ne.symm n93]) (by decide) hdef
def F_X9_numberOf_5 (M : g_M) (k41 : Int32 → Option (Int32)) (k : Int32 → Int32 → Int32 → Option (Int32)) (x2 : Int32) (x3 : Int32) (x4 : Int32) : Option (Int32) :=
  (if x2 ≤ x4 then (k41 x3) else ((g_ld M 34 120 x4).bind fun v1 => (some (if 100 < (((x3 * 10) + v1) - 48) then 100 else (((x3 * 10) + v1) - 48))).bind fun y2 => k x2 y2 (x4 + 1)))
set_option maxRecDepth 100000 in
theorem t_X9_numberOf_5 {l : Launch} {X : g_X} {Y : g_Y} {p : Int32} {M : g_M} {k41 : Int32 → Option (Int32)} (C : g_C l (g_rm (1)) RX9 cX9_numberOf 5 X Y) (E : g_E (some .int) X Y (some (.int p)) M) (hk41 : ∀ (x3 : Int32), k41 x3 = some p → g_G 5 X Y 41 [(3, .int x3)] [] M) (n : Nat) : ∀ (x2 : Int32) (x3 : Int32) (x4 : Int32), g_lq3 (F_X9_numberOf_5 M k41) n x2 x3 x4 = some p → g_G 5 X Y 5 [(0, g_r Y 32), (2, .int x2), (3, .int x3), (4, .int x4)] [] M := by
  induction n with
  | zero => intro x2 x3 x4 h; exact (g_nn h).elim
  | succ n ih =>
    intro x2 x3 x4 h
    have h : F_X9_numberOf_5 M k41 (g_lq3 (F_X9_numberOf_5 M k41) n) x2 x3 x4 = some p := h
    generalize g_lq3 (F_X9_numberOf_5 M k41) n = k at h ih
    unfold F_X9_numberOf_5 at h
    refine g_iload C 3 dX9_numberOf_5 (q := 7) rfl rfl ?_
    refine g_iload_n C 1 dX9_numberOf_7 (q := 8) rfl rfl rfl ?_
    have hif := g_if h
    clear h
    refine g_icmp_ge C dX9_numberOf_8 (q := 11) (tgt := 41) rfl (by decide) (fun c => ?_) (fun c => ?_)
    · have h := hif.1 c
      clear hif
      refine g_sub [2] (lv' := [(3, .int x3)]) rfl ?_
      exact hk41 x3 h
    · have h := hif.2 c
      clear hif
      refine g_iload_n C 2 dX9_numberOf_11 (q := 12) rfl rfl rfl ?_
      refine g_bipush C (v := 10) dX9_numberOf_12 (q := 14) rfl (by decide) ?_
      refine g_imul C dX9_numberOf_14 (q := 15) rfl ?_
      refine g_aload_n C 0 dX9_numberOf_15 (q := 16) rfl rfl rfl ?_
      refine g_get C (k := 32) (i := 0) (by decide) (gc_32 Y _ _) rfl kU_X9 (by decide) kF_X9_12 rfl dX9_numberOf_16 (q := 19) rfl ?_
      refine g_get C (k := 33) (i := 0) (by decide) (gc_33 Y _ _) rfl kU_X8 (by decide) kF_X9_75 rfl dX9_numberOf_19 (q := 22) rfl ?_
      refine g_iload C 3 dX9_numberOf_22 (q := 24) rfl rfl ?_
      obtain ⟨v1, hv1, h⟩ := g_bind h
      refine g_iald C (k := 34) (n := 120) (by decide) (gc_34 Y _ _) hv1 dX9_numberOf_24 (q := 25) rfl ?_
      refine g_iadd C dX9_numberOf_25 (q := 26) rfl ?_
      refine g_bipush C (v := 48) dX9_numberOf_26 (q := 28) rfl (by decide) ?_
      refine g_isub C dX9_numberOf_28 (q := 29) rfl ?_
      refine g_bipush C (v := 100) dX9_numberOf_29 (q := 31) rfl (by decide) ?_
      refine g_mmin C (st := []) kM_X9_101 (by decide) (by decide) (Nat.le_of_ble_eq_true rfl) dX9_numberOf_31 (q := 34) rfl ?_
      obtain ⟨y2, hy2, h⟩ := g_bind h
      refine g_top hy2 ?_
      refine g_istore_n C dX9_numberOf_34 (q := 35) rfl rfl (by decide) (lv' := [(3, .int y2), (0, g_r Y 32), (2, .int x2), (4, .int x4)]) rfl ?_
      refine g_iinc C (k := 3) (v := x4 + 1) dX9_numberOf_35 (q := 38) rfl rfl rfl (by decide) (lv' := [(4, .int (x4 + 1)), (3, .int y2), (0, g_r Y 32), (2, .int x2)]) rfl ?_
      refine g_goto C dX9_numberOf_38 (tgt := 5) (by decide) ?_
      refine g_sub [2, 3, 1, 0] (lv' := [(0, g_r Y 32), (2, .int x2), (3, .int y2), (4, .int (x4 + 1))]) rfl ?_
      exact ih x2 y2 (x4 + 1) h
def f_X9_numberOf (x1 : Int32) (x2 : Int32) (M : g_M) : Option (Int32) :=
  g_lq3 (F_X9_numberOf_5 M (fun (x3 : Int32) => some x3)) 20000000 x2 0 x1
set_option maxRecDepth 100000 in
theorem m_X9_numberOf {l : Launch} {Y : g_Y} {x1 : Int32} {x2 : Int32} {M : g_M} {p : Int32} (h : f_X9_numberOf x1 x2 M = some p) : g_R l Y (1) yX9_numberOf cX9_numberOf 5 (some .int) [g_r Y 32, .int x1, .int x2] M (some (.int p)) M := by
  unfold f_X9_numberOf at h
  refine g_R_of kP_X9 rfl (Nat.le_of_ble_eq_true rfl) (fun X C E => ?_)
  show g_G 5 X Y 0 [(0, g_r Y 32), (1, .int x1), (2, .int x2)] [] M
  refine g_iconst C (v := 0) dX9_numberOf_0 (q := 1) rfl (by decide) ?_
  refine g_istore_n C dX9_numberOf_1 (q := 2) rfl rfl (by decide) (lv' := [(3, .int 0), (0, g_r Y 32), (1, .int x1), (2, .int x2)]) rfl ?_
  refine g_iload_n C 2 dX9_numberOf_2 (q := 3) rfl rfl rfl ?_
  refine g_istore C dX9_numberOf_3 (q := 5) rfl (by decide) (lv' := [(4, .int x1), (3, .int 0), (0, g_r Y 32), (1, .int x1), (2, .int x2)]) rfl ?_
  refine g_sub [2, 4, 1, 0] (lv' := [(0, g_r Y 32), (2, .int x2), (3, .int 0), (4, .int x1)]) rfl ?_
  refine t_X9_numberOf_5 C E ?_ 20000000 x2 0 x1 h
  · intro x3 h
    try dsimp only at h
    refine g_iload_n C 0 dX9_numberOf_41 (q := 42) rfl rfl rfl ?_
    obtain rfl := Option.some.inj h
    exact g_iret C E dX9_numberOf_42
def F_X9_spells_32_15 (M : g_M) (j : Nat) (k45 : Option (Int32)) (k53 : Option (Int32)) (k : Int32 → Int32 → Option (Int32)) (x2 : Int32) (x4 : Int32) : Option (Int32) :=
  (f_J0_length_8abf5 j M).bind fun p2 => (if p2 ≤ x4 then (k53) else ((g_ld M 34 120 (x2 + x4)).bind fun v3 => (f_J0_charAt_5068e j x4 M).bind fun p4 => (if v3 = p4 then (k x2 (x4 + 1)) else (k45))))
set_option maxRecDepth 100000 in
theorem t_X9_spells_32_15 {l : Launch} {X : g_X} {Y : g_Y} {p : Int32} {M : g_M} {k45 : Option (Int32)} {k53 : Option (Int32)} (j : Nat) (C : g_C l (g_rm (5)) RX9 cX9_spells 5 X Y) (E : g_E (some .boolean) X Y (some (.int p)) M) (hj : j < 11) (hk45 : k45 = some p → g_G 5 X Y 45 [] [] M) (hk53 : k53 = some p → g_G 5 X Y 53 [] [] M) (n : Nat) : ∀ (x2 : Int32) (x4 : Int32), g_lq2 (F_X9_spells_32_15 M j k45 k53) n x2 x4 = some p → g_G 5 X Y 15 [(0, g_r Y 32), (1, .ref (Y.2.2.2.1 j)), (2, .int x2), (4, .int x4)] [] M := by
  induction n with
  | zero => intro x2 x4 h; exact (g_nn h).elim
  | succ n ih =>
    intro x2 x4 h
    have h : F_X9_spells_32_15 M j k45 k53 (g_lq2 (F_X9_spells_32_15 M j k45 k53) n) x2 x4 = some p := h
    generalize g_lq2 (F_X9_spells_32_15 M j k45 k53) n = k at h ih
    unfold F_X9_spells_32_15 at h
    refine g_iload C 3 dX9_spells_15 (q := 17) rfl rfl ?_
    refine g_aload_n C 1 dX9_spells_17 (q := 18) rfl rfl rfl ?_
    obtain ⟨p2, hp2, h⟩ := g_bind h
    refine g_callT C (j := j) (as := []) (st := [.int x4]) (m_J0_length_8abf5 (by omega) hp2) (g_hR (by decide)) (by decide) (by omega) kM_X9_132 kI_J0_length_8abf5 kS_J0_length_8abf5 kN_J0 kC_J0_length_8abf5 kD_J0_length_8abf5 rfl (Nat.le_of_ble_eq_true rfl) dX9_spells_18 (q := 21) rfl ?_
    show g_G 5 X Y 21 [(0, g_r Y 32), (1, .ref (Y.2.2.2.1 j)), (2, .int x2), (4, .int x4)] [.int p2, .int x4] M
    have hif := g_if h
    clear h
    refine g_icmp_ge C dX9_spells_21 (q := 24) (tgt := 53) rfl (by decide) (fun c => ?_) (fun c => ?_)
    · have h := hif.1 c
      clear hif
      refine g_sub [] (lv' := []) rfl ?_
      exact hk53 h
    · have h := hif.2 c
      clear hif
      refine g_aload_n C 0 dX9_spells_24 (q := 25) rfl rfl rfl ?_
      refine g_get C (k := 32) (i := 0) (by decide) (gc_32 Y _ _) rfl kU_X9 (by decide) kF_X9_12 rfl dX9_spells_25 (q := 28) rfl ?_
      refine g_get C (k := 33) (i := 0) (by decide) (gc_33 Y _ _) rfl kU_X8 (by decide) kF_X9_75 rfl dX9_spells_28 (q := 31) rfl ?_
      refine g_iload_n C 2 dX9_spells_31 (q := 32) rfl rfl rfl ?_
      refine g_iload C 3 dX9_spells_32 (q := 34) rfl rfl ?_
      refine g_iadd C dX9_spells_34 (q := 35) rfl ?_
      obtain ⟨v3, hv3, h⟩ := g_bind h
      refine g_iald C (k := 34) (n := 120) (by decide) (gc_34 Y _ _) hv3 dX9_spells_35 (q := 36) rfl ?_
      refine g_aload_n C 1 dX9_spells_36 (q := 37) rfl rfl rfl ?_
      refine g_iload C 3 dX9_spells_37 (q := 39) rfl rfl ?_
      obtain ⟨p4, hp4, h⟩ := g_bind h
      refine g_callT C (j := j) (as := [.int x4]) (st := [.int v3]) (m_J0_charAt_5068e (by omega) hp4) (g_hR (by decide)) (by decide) (by omega) kM_X9_137 kI_J0_charAt_5068e kS_J0_charAt_5068e kN_J0 kC_J0_charAt_5068e kD_J0_charAt_5068e rfl (Nat.le_of_ble_eq_true rfl) dX9_spells_39 (q := 42) rfl ?_
      show g_G 5 X Y 42 [(0, g_r Y 32), (1, .ref (Y.2.2.2.1 j)), (2, .int x2), (4, .int x4)] [.int p4, .int v3] M
      have hif := g_if h
      clear h
      refine g_icmp_eq C dX9_spells_42 (q := 45) (tgt := 47) rfl (by decide) (fun c => ?_) (fun c => ?_)
      · have h := hif.1 c
        clear hif
        refine g_iinc C (k := 3) (v := x4 + 1) dX9_spells_47 (q := 50) rfl rfl rfl (by decide) (lv' := [(4, .int (x4 + 1)), (0, g_r Y 32), (1, .ref (Y.2.2.2.1 j)), (2, .int x2)]) rfl ?_
        refine g_goto C dX9_spells_50 (tgt := 15) (by decide) ?_
        refine g_sub [1, 2, 3, 0] (lv' := [(0, g_r Y 32), (1, .ref (Y.2.2.2.1 j)), (2, .int x2), (4, .int (x4 + 1))]) rfl ?_
        exact ih x2 (x4 + 1) h
      · have h := hif.2 c
        clear hif
        refine g_sub [] (lv' := []) rfl ?_
        exact hk45 h
def f_X9_spells_32 (j : Nat) (x2 : Int32) (x3 : Int32) (M : g_M) : Option (Int32) :=
  (f_J0_length_8abf5 j M).bind fun p1 => (if (x3 - x2) = p1 then (g_lq2 (F_X9_spells_32_15 M j (some 0) (some 1)) 20000000 x2 0) else (some 0))
set_option maxRecDepth 100000 in
theorem m_X9_spells_32 {l : Launch} {Y : g_Y} (j : Nat) (hj : j < 11) {x2 : Int32} {x3 : Int32} {M : g_M} {p : Int32} (h : f_X9_spells_32 j x2 x3 M = some p) : g_R l Y (5) yX9_spells cX9_spells 5 (some .boolean) [g_r Y 32, .ref (Y.2.2.2.1 j), .int x2, .int x3] M (some (.int p)) M := by
  unfold f_X9_spells_32 at h
  refine g_R_of kP_X9 rfl (Nat.le_of_ble_eq_true rfl) (fun X C E => ?_)
  show g_G 5 X Y 0 [(0, g_r Y 32), (1, .ref (Y.2.2.2.1 j)), (2, .int x2), (3, .int x3)] [] M
  refine g_iload_n C 3 dX9_spells_0 (q := 1) rfl rfl rfl ?_
  refine g_iload_n C 2 dX9_spells_1 (q := 2) rfl rfl rfl ?_
  refine g_isub C dX9_spells_2 (q := 3) rfl ?_
  refine g_aload_n C 1 dX9_spells_3 (q := 4) rfl rfl rfl ?_
  obtain ⟨p1, hp1, h⟩ := g_bind h
  refine g_callT C (j := j) (as := []) (st := [.int (x3 - x2)]) (m_J0_length_8abf5 (by omega) hp1) (g_hR (by decide)) (by decide) (by omega) kM_X9_132 kI_J0_length_8abf5 kS_J0_length_8abf5 kN_J0 kC_J0_length_8abf5 kD_J0_length_8abf5 rfl (Nat.le_of_ble_eq_true rfl) dX9_spells_4 (q := 7) rfl ?_
  show g_G 5 X Y 7 [(0, g_r Y 32), (1, .ref (Y.2.2.2.1 j)), (2, .int x2), (3, .int x3)] [.int p1, .int (x3 - x2)] M
  have hif := g_if h
  clear h
  refine g_icmp_eq C dX9_spells_7 (q := 10) (tgt := 12) rfl (by decide) (fun c => ?_) (fun c => ?_)
  · have h := hif.1 c
    clear hif
    refine g_iconst C (v := 0) dX9_spells_12 (q := 13) rfl (by decide) ?_
    refine g_istore C dX9_spells_13 (q := 15) rfl (by decide) (lv' := [(4, .int 0), (0, g_r Y 32), (1, .ref (Y.2.2.2.1 j)), (2, .int x2), (3, .int x3)]) rfl ?_
    refine g_sub [1, 2, 3, 0] (lv' := [(0, g_r Y 32), (1, .ref (Y.2.2.2.1 j)), (2, .int x2), (4, .int 0)]) rfl ?_
    refine t_X9_spells_32_15 j C E hj ?_ ?_ 20000000 x2 0 h
    · intro  h
      try dsimp only at h
      refine g_iconst C (v := 0) dX9_spells_45 (q := 46) rfl (by decide) ?_
      obtain rfl := Option.some.inj h
      exact g_zret C (g_bz_lit (by decide)) E dX9_spells_46
    · intro  h
      try dsimp only at h
      refine g_iconst C (v := 1) dX9_spells_53 (q := 54) rfl (by decide) ?_
      obtain rfl := Option.some.inj h
      exact g_zret C (g_bz_lit (by decide)) E dX9_spells_54
  · have h := hif.2 c
    clear hif
    refine g_iconst C (v := 0) dX9_spells_10 (q := 11) rfl (by decide) ?_
    obtain rfl := Option.some.inj h
    exact g_zret C (g_bz_lit (by decide)) E dX9_spells_11
def f_X9_wordToken (x1 : Int32) (x2 : Int32) (M : g_M) : Option (Int32) :=
  (f_X9_spells_32 0 x1 x2 M).bind fun p1 => (if p1 = 0 then ((f_X9_spells_32 1 x1 x2 M).bind fun p2 => (if p2 = 0 then ((f_X9_spells_32 2 x1 x2 M).bind fun p3 => (if p3 = 0 then ((f_X9_spells_32 3 x1 x2 M).bind fun p4 => (if p4 = 0 then ((f_X9_spells_32 4 x1 x2 M).bind fun p5 => (if p5 = 0 then ((f_X9_spells_32 5 x1 x2 M).bind fun p6 => (if p6 = 0 then ((f_X9_spells_32 6 x1 x2 M).bind fun p7 => (if p7 = 0 then ((f_X9_spells_32 7 x1 x2 M).bind fun p8 => (if p8 = 0 then ((f_X9_spells_32 8 x1 x2 M).bind fun p9 => (if p9 = 0 then ((f_X9_spells_32 9 x1 x2 M).bind fun p10 => (if p10 = 0 then ((f_X9_spells_32 10 x1 x2 M).bind fun p11 => (if p11 = 0 then (some 1) else (some 17))) else (some 16))) else (some 15))) else (some 14))) else (some 13))) else (some 12))) else (some 11))) else (some 10))) else (some 9))) else (some 8))) else (some 7))
set_option maxRecDepth 100000 in
theorem m_X9_wordToken {l : Launch} {Y : g_Y} {x1 : Int32} {x2 : Int32} {M : g_M} {p : Int32} (h : f_X9_wordToken x1 x2 M = some p) : g_R l Y (6) yX9_wordToken cX9_wordToken 3 (some .int) [g_r Y 32, .int x1, .int x2] M (some (.int p)) M := by
  unfold f_X9_wordToken at h
  refine g_R_of kP_X9 rfl (Nat.le_of_ble_eq_true rfl) (fun X C E => ?_)
  show g_G 3 X Y 0 [(0, g_r Y 32), (1, .int x1), (2, .int x2)] [] M
  refine g_aload_n C 0 dX9_wordToken_0 (q := 1) rfl rfl rfl ?_
  refine g_ldcS C (tx := "may") (j := 0) (by decide +kernel) dX9_wordToken_1 (q := 3) rfl ?_
  refine g_iload_n C 1 dX9_wordToken_3 (q := 4) rfl rfl rfl ?_
  refine g_iload_n C 2 dX9_wordToken_4 (q := 5) rfl rfl rfl ?_
  obtain ⟨p1, hp1, h⟩ := g_bind h
  refine g_callV C (k := 32) (as := [.ref (Y.2.2.2.1 0), .int x1, .int x2]) (st := []) (m_X9_spells_32 0 (by decide) hp1) (g_hR (by decide)) (by decide) (by decide) (gc_32 Y _ _) rfl kM_X9_108 kI_X9_spells kS_X9_spells kN_X9 kC_X9_spells kD_X9_spells rfl (Nat.le_of_ble_eq_true rfl) dX9_wordToken_5 (q := 8) rfl ?_
  show g_G 3 X Y 8 [(0, g_r Y 32), (1, .int x1), (2, .int x2)] [.int p1] M
  have hif := g_if h
  clear h
  refine g_if_eq C dX9_wordToken_8 (q := 11) (tgt := 14) rfl (by decide) (fun c => ?_) (fun c => ?_)
  · have h := hif.1 c
    clear hif
    refine g_aload_n C 0 dX9_wordToken_14 (q := 15) rfl rfl rfl ?_
    refine g_ldcS C (tx := "never") (j := 1) (by decide +kernel) dX9_wordToken_15 (q := 17) rfl ?_
    refine g_iload_n C 1 dX9_wordToken_17 (q := 18) rfl rfl rfl ?_
    refine g_iload_n C 2 dX9_wordToken_18 (q := 19) rfl rfl rfl ?_
    obtain ⟨p2, hp2, h⟩ := g_bind h
    refine g_callV C (k := 32) (as := [.ref (Y.2.2.2.1 1), .int x1, .int x2]) (st := []) (m_X9_spells_32 1 (by decide) hp2) (g_hR (by decide)) (by decide) (by decide) (gc_32 Y _ _) rfl kM_X9_108 kI_X9_spells kS_X9_spells kN_X9 kC_X9_spells kD_X9_spells rfl (Nat.le_of_ble_eq_true rfl) dX9_wordToken_19 (q := 22) rfl ?_
    show g_G 3 X Y 22 [(0, g_r Y 32), (1, .int x1), (2, .int x2)] [.int p2] M
    have hif := g_if h
    clear h
    refine g_if_eq C dX9_wordToken_22 (q := 25) (tgt := 28) rfl (by decide) (fun c => ?_) (fun c => ?_)
    · have h := hif.1 c
      clear hif
      refine g_aload_n C 0 dX9_wordToken_28 (q := 29) rfl rfl rfl ?_
      refine g_ldcS C (tx := "or") (j := 2) (by decide +kernel) dX9_wordToken_29 (q := 31) rfl ?_
      refine g_iload_n C 1 dX9_wordToken_31 (q := 32) rfl rfl rfl ?_
      refine g_iload_n C 2 dX9_wordToken_32 (q := 33) rfl rfl rfl ?_
      obtain ⟨p3, hp3, h⟩ := g_bind h
      refine g_callV C (k := 32) (as := [.ref (Y.2.2.2.1 2), .int x1, .int x2]) (st := []) (m_X9_spells_32 2 (by decide) hp3) (g_hR (by decide)) (by decide) (by decide) (gc_32 Y _ _) rfl kM_X9_108 kI_X9_spells kS_X9_spells kN_X9 kC_X9_spells kD_X9_spells rfl (Nat.le_of_ble_eq_true rfl) dX9_wordToken_33 (q := 36) rfl ?_
      show g_G 3 X Y 36 [(0, g_r Y 32), (1, .int x1), (2, .int x2)] [.int p3] M
      have hif := g_if h
      clear h
      refine g_if_eq C dX9_wordToken_36 (q := 39) (tgt := 42) rfl (by decide) (fun c => ?_) (fun c => ?_)
      · have h := hif.1 c
        clear hif
        refine g_aload_n C 0 dX9_wordToken_42 (q := 43) rfl rfl rfl ?_
        refine g_ldcS C (tx := "and") (j := 3) (by decide +kernel) dX9_wordToken_43 (q := 45) rfl ?_
        refine g_iload_n C 1 dX9_wordToken_45 (q := 46) rfl rfl rfl ?_
        refine g_iload_n C 2 dX9_wordToken_46 (q := 47) rfl rfl rfl ?_
        obtain ⟨p4, hp4, h⟩ := g_bind h
        refine g_callV C (k := 32) (as := [.ref (Y.2.2.2.1 3), .int x1, .int x2]) (st := []) (m_X9_spells_32 3 (by decide) hp4) (g_hR (by decide)) (by decide) (by decide) (gc_32 Y _ _) rfl kM_X9_108 kI_X9_spells kS_X9_spells kN_X9 kC_X9_spells kD_X9_spells rfl (Nat.le_of_ble_eq_true rfl) dX9_wordToken_47 (q := 50) rfl ?_
        show g_G 3 X Y 50 [(0, g_r Y 32), (1, .int x1), (2, .int x2)] [.int p4] M
        have hif := g_if h
        clear h
        refine g_if_eq C dX9_wordToken_50 (q := 53) (tgt := 56) rfl (by decide) (fun c => ?_) (fun c => ?_)
        · have h := hif.1 c
          clear hif
          refine g_aload_n C 0 dX9_wordToken_56 (q := 57) rfl rfl rfl ?_
          refine g_ldcS C (tx := "not") (j := 4) (by decide +kernel) dX9_wordToken_57 (q := 59) rfl ?_
          refine g_iload_n C 1 dX9_wordToken_59 (q := 60) rfl rfl rfl ?_
          refine g_iload_n C 2 dX9_wordToken_60 (q := 61) rfl rfl rfl ?_
          obtain ⟨p5, hp5, h⟩ := g_bind h
          refine g_callV C (k := 32) (as := [.ref (Y.2.2.2.1 4), .int x1, .int x2]) (st := []) (m_X9_spells_32 4 (by decide) hp5) (g_hR (by decide)) (by decide) (by decide) (gc_32 Y _ _) rfl kM_X9_108 kI_X9_spells kS_X9_spells kN_X9 kC_X9_spells kD_X9_spells rfl (Nat.le_of_ble_eq_true rfl) dX9_wordToken_61 (q := 64) rfl ?_
          show g_G 3 X Y 64 [(0, g_r Y 32), (1, .int x1), (2, .int x2)] [.int p5] M
          have hif := g_if h
          clear h
          refine g_if_eq C dX9_wordToken_64 (q := 67) (tgt := 70) rfl (by decide) (fun c => ?_) (fun c => ?_)
          · have h := hif.1 c
            clear hif
            refine g_aload_n C 0 dX9_wordToken_70 (q := 71) rfl rfl rfl ?_
            refine g_ldcS C (tx := "least") (j := 5) (by decide +kernel) dX9_wordToken_71 (q := 73) rfl ?_
            refine g_iload_n C 1 dX9_wordToken_73 (q := 74) rfl rfl rfl ?_
            refine g_iload_n C 2 dX9_wordToken_74 (q := 75) rfl rfl rfl ?_
            obtain ⟨p6, hp6, h⟩ := g_bind h
            refine g_callV C (k := 32) (as := [.ref (Y.2.2.2.1 5), .int x1, .int x2]) (st := []) (m_X9_spells_32 5 (by decide) hp6) (g_hR (by decide)) (by decide) (by decide) (gc_32 Y _ _) rfl kM_X9_108 kI_X9_spells kS_X9_spells kN_X9 kC_X9_spells kD_X9_spells rfl (Nat.le_of_ble_eq_true rfl) dX9_wordToken_75 (q := 78) rfl ?_
            show g_G 3 X Y 78 [(0, g_r Y 32), (1, .int x1), (2, .int x2)] [.int p6] M
            have hif := g_if h
            clear h
            refine g_if_eq C dX9_wordToken_78 (q := 81) (tgt := 84) rfl (by decide) (fun c => ?_) (fun c => ?_)
            · have h := hif.1 c
              clear hif
              refine g_aload_n C 0 dX9_wordToken_84 (q := 85) rfl rfl rfl ?_
              refine g_ldcS C (tx := "of") (j := 6) (by decide +kernel) dX9_wordToken_85 (q := 87) rfl ?_
              refine g_iload_n C 1 dX9_wordToken_87 (q := 88) rfl rfl rfl ?_
              refine g_iload_n C 2 dX9_wordToken_88 (q := 89) rfl rfl rfl ?_
              obtain ⟨p7, hp7, h⟩ := g_bind h
              refine g_callV C (k := 32) (as := [.ref (Y.2.2.2.1 6), .int x1, .int x2]) (st := []) (m_X9_spells_32 6 (by decide) hp7) (g_hR (by decide)) (by decide) (by decide) (gc_32 Y _ _) rfl kM_X9_108 kI_X9_spells kS_X9_spells kN_X9 kC_X9_spells kD_X9_spells rfl (Nat.le_of_ble_eq_true rfl) dX9_wordToken_89 (q := 92) rfl ?_
              show g_G 3 X Y 92 [(0, g_r Y 32), (1, .int x1), (2, .int x2)] [.int p7] M
              have hif := g_if h
              clear h
              refine g_if_eq C dX9_wordToken_92 (q := 95) (tgt := 98) rfl (by decide) (fun c => ?_) (fun c => ?_)
              · have h := hif.1 c
                clear hif
                refine g_aload_n C 0 dX9_wordToken_98 (q := 99) rfl rfl rfl ?_
                refine g_ldcS C (tx := "all") (j := 7) (by decide +kernel) dX9_wordToken_99 (q := 101) rfl ?_
                refine g_iload_n C 1 dX9_wordToken_101 (q := 102) rfl rfl rfl ?_
                refine g_iload_n C 2 dX9_wordToken_102 (q := 103) rfl rfl rfl ?_
                obtain ⟨p8, hp8, h⟩ := g_bind h
                refine g_callV C (k := 32) (as := [.ref (Y.2.2.2.1 7), .int x1, .int x2]) (st := []) (m_X9_spells_32 7 (by decide) hp8) (g_hR (by decide)) (by decide) (by decide) (gc_32 Y _ _) rfl kM_X9_108 kI_X9_spells kS_X9_spells kN_X9 kC_X9_spells kD_X9_spells rfl (Nat.le_of_ble_eq_true rfl) dX9_wordToken_103 (q := 106) rfl ?_
                show g_G 3 X Y 106 [(0, g_r Y 32), (1, .int x1), (2, .int x2)] [.int p8] M
                have hif := g_if h
                clear h
                refine g_if_eq C dX9_wordToken_106 (q := 109) (tgt := 112) rfl (by decide) (fun c => ?_) (fun c => ?_)
                · have h := hif.1 c
                  clear hif
                  refine g_aload_n C 0 dX9_wordToken_112 (q := 113) rfl rfl rfl ?_
                  refine g_ldcS C (tx := "any") (j := 8) (by decide +kernel) dX9_wordToken_113 (q := 115) rfl ?_
                  refine g_iload_n C 1 dX9_wordToken_115 (q := 116) rfl rfl rfl ?_
                  refine g_iload_n C 2 dX9_wordToken_116 (q := 117) rfl rfl rfl ?_
                  obtain ⟨p9, hp9, h⟩ := g_bind h
                  refine g_callV C (k := 32) (as := [.ref (Y.2.2.2.1 8), .int x1, .int x2]) (st := []) (m_X9_spells_32 8 (by decide) hp9) (g_hR (by decide)) (by decide) (by decide) (gc_32 Y _ _) rfl kM_X9_108 kI_X9_spells kS_X9_spells kN_X9 kC_X9_spells kD_X9_spells rfl (Nat.le_of_ble_eq_true rfl) dX9_wordToken_117 (q := 120) rfl ?_
                  show g_G 3 X Y 120 [(0, g_r Y 32), (1, .int x1), (2, .int x2)] [.int p9] M
                  have hif := g_if h
                  clear h
                  refine g_if_eq C dX9_wordToken_120 (q := 123) (tgt := 126) rfl (by decide) (fun c => ?_) (fun c => ?_)
                  · have h := hif.1 c
                    clear hif
                    refine g_aload_n C 0 dX9_wordToken_126 (q := 127) rfl rfl rfl ?_
                    refine g_ldcS C (tx := "weigh") (j := 9) (by decide +kernel) dX9_wordToken_127 (q := 129) rfl ?_
                    refine g_iload_n C 1 dX9_wordToken_129 (q := 130) rfl rfl rfl ?_
                    refine g_iload_n C 2 dX9_wordToken_130 (q := 131) rfl rfl rfl ?_
                    obtain ⟨p10, hp10, h⟩ := g_bind h
                    refine g_callV C (k := 32) (as := [.ref (Y.2.2.2.1 9), .int x1, .int x2]) (st := []) (m_X9_spells_32 9 (by decide) hp10) (g_hR (by decide)) (by decide) (by decide) (gc_32 Y _ _) rfl kM_X9_108 kI_X9_spells kS_X9_spells kN_X9 kC_X9_spells kD_X9_spells rfl (Nat.le_of_ble_eq_true rfl) dX9_wordToken_131 (q := 134) rfl ?_
                    show g_G 3 X Y 134 [(0, g_r Y 32), (1, .int x1), (2, .int x2)] [.int p10] M
                    have hif := g_if h
                    clear h
                    refine g_if_eq C dX9_wordToken_134 (q := 137) (tgt := 140) rfl (by decide) (fun c => ?_) (fun c => ?_)
                    · have h := hif.1 c
                      clear hif
                      refine g_aload_n C 0 dX9_wordToken_140 (q := 141) rfl rfl rfl ?_
                      refine g_ldcS C (tx := "everyone") (j := 10) (by decide +kernel) dX9_wordToken_141 (q := 143) rfl ?_
                      refine g_iload_n C 1 dX9_wordToken_143 (q := 144) rfl rfl rfl ?_
                      refine g_iload_n C 2 dX9_wordToken_144 (q := 145) rfl rfl rfl ?_
                      obtain ⟨p11, hp11, h⟩ := g_bind h
                      refine g_callV C (k := 32) (as := [.ref (Y.2.2.2.1 10), .int x1, .int x2]) (st := []) (m_X9_spells_32 10 (by decide) hp11) (g_hR (by decide)) (by decide) (by decide) (gc_32 Y _ _) rfl kM_X9_108 kI_X9_spells kS_X9_spells kN_X9 kC_X9_spells kD_X9_spells rfl (Nat.le_of_ble_eq_true rfl) dX9_wordToken_145 (q := 148) rfl ?_
                      show g_G 3 X Y 148 [(0, g_r Y 32), (1, .int x1), (2, .int x2)] [.int p11] M
                      have hif := g_if h
                      clear h
                      refine g_if_eq C dX9_wordToken_148 (q := 151) (tgt := 156) rfl (by decide) (fun c => ?_) (fun c => ?_)
                      · have h := hif.1 c
                        clear hif
                        refine g_iconst C (v := 1) dX9_wordToken_156 (q := 157) rfl (by decide) ?_
                        obtain rfl := Option.some.inj h
                        exact g_iret C E dX9_wordToken_157
                      · have h := hif.2 c
                        clear hif
                        refine g_bipush C (v := 17) dX9_wordToken_151 (q := 153) rfl (by decide) ?_
                        refine g_goto C dX9_wordToken_153 (tgt := 157) (by decide) ?_
                        obtain rfl := Option.some.inj h
                        exact g_iret C E dX9_wordToken_157
                    · have h := hif.2 c
                      clear hif
                      refine g_bipush C (v := 16) dX9_wordToken_137 (q := 139) rfl (by decide) ?_
                      obtain rfl := Option.some.inj h
                      exact g_iret C E dX9_wordToken_139
                  · have h := hif.2 c
                    clear hif
                    refine g_bipush C (v := 15) dX9_wordToken_123 (q := 125) rfl (by decide) ?_
                    obtain rfl := Option.some.inj h
                    exact g_iret C E dX9_wordToken_125
                · have h := hif.2 c
                  clear hif
                  refine g_bipush C (v := 14) dX9_wordToken_109 (q := 111) rfl (by decide) ?_
                  obtain rfl := Option.some.inj h
                  exact g_iret C E dX9_wordToken_111
              · have h := hif.2 c
                clear hif
                refine g_bipush C (v := 13) dX9_wordToken_95 (q := 97) rfl (by decide) ?_
                obtain rfl := Option.some.inj h
                exact g_iret C E dX9_wordToken_97
            · have h := hif.2 c
              clear hif
              refine g_bipush C (v := 12) dX9_wordToken_81 (q := 83) rfl (by decide) ?_
              obtain rfl := Option.some.inj h
              exact g_iret C E dX9_wordToken_83
          · have h := hif.2 c
            clear hif
            refine g_bipush C (v := 11) dX9_wordToken_67 (q := 69) rfl (by decide) ?_
            obtain rfl := Option.some.inj h
            exact g_iret C E dX9_wordToken_69
        · have h := hif.2 c
          clear hif
          refine g_bipush C (v := 10) dX9_wordToken_53 (q := 55) rfl (by decide) ?_
          obtain rfl := Option.some.inj h
          exact g_iret C E dX9_wordToken_55
      · have h := hif.2 c
        clear hif
        refine g_bipush C (v := 9) dX9_wordToken_39 (q := 41) rfl (by decide) ?_
        obtain rfl := Option.some.inj h
        exact g_iret C E dX9_wordToken_41
    · have h := hif.2 c
      clear hif
      refine g_bipush C (v := 8) dX9_wordToken_25 (q := 27) rfl (by decide) ?_
      obtain rfl := Option.some.inj h
      exact g_iret C E dX9_wordToken_27
  · have h := hif.2 c
    clear hif
    refine g_bipush C (v := 7) dX9_wordToken_11 (q := 13) rfl (by decide) ?_
    obtain rfl := Option.some.inj h
    exact g_iret C E dX9_wordToken_13
def f_X9_tokenOf (x1 : Int32) (x2 : Int32) (M : g_M) : Option (Int32) :=
  (g_ld M 34 120 x1).bind fun v1 => (f_X9_isLetter v1 M).bind fun p2 => (if p2 = 0 then ((g_ld M 34 120 x1).bind fun v3 => (f_X9_isDigit v3 M).bind fun p4 => (if p4 = 0 then ((g_ld M 34 120 x1).bind fun v5 => (f_X9_signToken v5 M).bind fun p6 => some p6) else ((f_X9_numberOf x1 x2 M).bind fun p7 => (if p7 ≤ 99 then (some 2) else (some 1))))) else ((f_X9_wordToken x1 x2 M).bind fun p8 => some p8))
set_option maxRecDepth 100000 in
theorem m_X9_tokenOf {l : Launch} {Y : g_Y} {x1 : Int32} {x2 : Int32} {M : g_M} {p : Int32} (h : f_X9_tokenOf x1 x2 M = some p) : g_R l Y (7) yX9_tokenOf cX9_tokenOf 3 (some .int) [g_r Y 32, .int x1, .int x2] M (some (.int p)) M := by
  unfold f_X9_tokenOf at h
  refine g_R_of kP_X9 rfl (Nat.le_of_ble_eq_true rfl) (fun X C E => ?_)
  show g_G 3 X Y 0 [(0, g_r Y 32), (1, .int x1), (2, .int x2)] [] M
  refine g_aload_n C 0 dX9_tokenOf_0 (q := 1) rfl rfl rfl ?_
  refine g_get C (k := 32) (i := 0) (by decide) (gc_32 Y _ _) rfl kU_X9 (by decide) kF_X9_12 rfl dX9_tokenOf_1 (q := 4) rfl ?_
  refine g_get C (k := 33) (i := 0) (by decide) (gc_33 Y _ _) rfl kU_X8 (by decide) kF_X9_75 rfl dX9_tokenOf_4 (q := 7) rfl ?_
  refine g_iload_n C 1 dX9_tokenOf_7 (q := 8) rfl rfl rfl ?_
  obtain ⟨v1, hv1, h⟩ := g_bind h
  refine g_iald C (k := 34) (n := 120) (by decide) (gc_34 Y _ _) hv1 dX9_tokenOf_8 (q := 9) rfl ?_
  obtain ⟨p2, hp2, h⟩ := g_bind h
  refine g_callS C (as := [.int v1]) (st := []) (m_X9_isLetter hp2) (g_hR (by decide)) (by decide) kM_X9_89 kT_X9_isLetter kN_X9 kC_X9_isLetter kD_X9_isLetter rfl (Nat.le_of_ble_eq_true rfl) dX9_tokenOf_9 (q := 12) rfl ?_
  show g_G 3 X Y 12 [(0, g_r Y 32), (1, .int x1), (2, .int x2)] [.int p2] M
  have hif := g_if h
  clear h
  refine g_if_eq C dX9_tokenOf_12 (q := 15) (tgt := 22) rfl (by decide) (fun c => ?_) (fun c => ?_)
  · have h := hif.1 c
    clear hif
    refine g_aload_n C 0 dX9_tokenOf_22 (q := 23) rfl rfl rfl ?_
    refine g_get C (k := 32) (i := 0) (by decide) (gc_32 Y _ _) rfl kU_X9 (by decide) kF_X9_12 rfl dX9_tokenOf_23 (q := 26) rfl ?_
    refine g_get C (k := 33) (i := 0) (by decide) (gc_33 Y _ _) rfl kU_X8 (by decide) kF_X9_75 rfl dX9_tokenOf_26 (q := 29) rfl ?_
    refine g_iload_n C 1 dX9_tokenOf_29 (q := 30) rfl rfl rfl ?_
    obtain ⟨v3, hv3, h⟩ := g_bind h
    refine g_iald C (k := 34) (n := 120) (by decide) (gc_34 Y _ _) hv3 dX9_tokenOf_30 (q := 31) rfl ?_
    obtain ⟨p4, hp4, h⟩ := g_bind h
    refine g_callS C (as := [.int v3]) (st := []) (m_X9_isDigit hp4) (g_hR (by decide)) (by decide) kM_X9_92 kT_X9_isDigit kN_X9 kC_X9_isDigit kD_X9_isDigit rfl (Nat.le_of_ble_eq_true rfl) dX9_tokenOf_31 (q := 34) rfl ?_
    show g_G 3 X Y 34 [(0, g_r Y 32), (1, .int x1), (2, .int x2)] [.int p4] M
    have hif := g_if h
    clear h
    refine g_if_eq C dX9_tokenOf_34 (q := 37) (tgt := 54) rfl (by decide) (fun c => ?_) (fun c => ?_)
    · have h := hif.1 c
      clear hif
      refine g_aload_n C 0 dX9_tokenOf_54 (q := 55) rfl rfl rfl ?_
      refine g_get C (k := 32) (i := 0) (by decide) (gc_32 Y _ _) rfl kU_X9 (by decide) kF_X9_12 rfl dX9_tokenOf_55 (q := 58) rfl ?_
      refine g_get C (k := 33) (i := 0) (by decide) (gc_33 Y _ _) rfl kU_X8 (by decide) kF_X9_75 rfl dX9_tokenOf_58 (q := 61) rfl ?_
      refine g_iload_n C 1 dX9_tokenOf_61 (q := 62) rfl rfl rfl ?_
      obtain ⟨v5, hv5, h⟩ := g_bind h
      refine g_iald C (k := 34) (n := 120) (by decide) (gc_34 Y _ _) hv5 dX9_tokenOf_62 (q := 63) rfl ?_
      obtain ⟨p6, hp6, h⟩ := g_bind h
      refine g_callS C (as := [.int v5]) (st := []) (m_X9_signToken hp6) (g_hR (by decide)) (by decide) kM_X9_98 kT_X9_signToken kN_X9 kC_X9_signToken kD_X9_signToken rfl (Nat.le_of_ble_eq_true rfl) dX9_tokenOf_63 (q := 66) rfl ?_
      show g_G 3 X Y 66 [(0, g_r Y 32), (1, .int x1), (2, .int x2)] [.int p6] M
      obtain rfl := Option.some.inj h
      exact g_iret C E dX9_tokenOf_66
    · have h := hif.2 c
      clear hif
      refine g_aload_n C 0 dX9_tokenOf_37 (q := 38) rfl rfl rfl ?_
      refine g_iload_n C 1 dX9_tokenOf_38 (q := 39) rfl rfl rfl ?_
      refine g_iload_n C 2 dX9_tokenOf_39 (q := 40) rfl rfl rfl ?_
      obtain ⟨p7, hp7, h⟩ := g_bind h
      refine g_callV C (k := 32) (as := [.int x1, .int x2]) (st := []) (m_X9_numberOf hp7) (g_hR (by decide)) (by decide) (by decide) (gc_32 Y _ _) rfl kM_X9_86 kI_X9_numberOf kS_X9_numberOf kN_X9 kC_X9_numberOf kD_X9_numberOf rfl (Nat.le_of_ble_eq_true rfl) dX9_tokenOf_40 (q := 43) rfl ?_
      show g_G 3 X Y 43 [(0, g_r Y 32), (1, .int x1), (2, .int x2)] [.int p7] M
      refine g_bipush C (v := 99) dX9_tokenOf_43 (q := 45) rfl (by decide) ?_
      have hif := g_if h
      clear h
      refine g_icmp_le C dX9_tokenOf_45 (q := 48) (tgt := 52) rfl (by decide) (fun c => ?_) (fun c => ?_)
      · have h := hif.1 c
        clear hif
        refine g_iconst C (v := 2) dX9_tokenOf_52 (q := 53) rfl (by decide) ?_
        obtain rfl := Option.some.inj h
        exact g_iret C E dX9_tokenOf_53
      · have h := hif.2 c
        clear hif
        refine g_iconst C (v := 1) dX9_tokenOf_48 (q := 49) rfl (by decide) ?_
        refine g_goto C dX9_tokenOf_49 (tgt := 53) (by decide) ?_
        obtain rfl := Option.some.inj h
        exact g_iret C E dX9_tokenOf_53
  · have h := hif.2 c
    clear hif
    refine g_aload_n C 0 dX9_tokenOf_15 (q := 16) rfl rfl rfl ?_
    refine g_iload_n C 1 dX9_tokenOf_16 (q := 17) rfl rfl rfl ?_
    refine g_iload_n C 2 dX9_tokenOf_17 (q := 18) rfl rfl rfl ?_
    obtain ⟨p8, hp8, h⟩ := g_bind h
    refine g_callV C (k := 32) (as := [.int x1, .int x2]) (st := []) (m_X9_wordToken hp8) (g_hR (by decide)) (by decide) (by decide) (gc_32 Y _ _) rfl kM_X9_95 kI_X9_wordToken kS_X9_wordToken kN_X9 kC_X9_wordToken kD_X9_wordToken rfl (Nat.le_of_ble_eq_true rfl) dX9_tokenOf_18 (q := 21) rfl ?_
    show g_G 3 X Y 21 [(0, g_r Y 32), (1, .int x1), (2, .int x2)] [.int p8] M
    obtain rfl := Option.some.inj h
    exact g_iret C E dX9_tokenOf_21
def F_X9_findTokens_6 (k96 : Int32 → g_M → Option (g_M)) (k : Int32 → Int32 → Int32 → g_M → Option (g_M)) (x1 : Int32) (x2 : Int32) (x3 : Int32) (M : g_M) : Option (g_M) :=
  (if (M.1 33 1) ≤ x3 then (k96 x1 M) else ((if x3 < x2 then (k x1 x2 (x3 + 1) M) else ((g_ld M 34 120 x3).bind fun v1 => (if v1 = 32 then (k x1 x2 (x3 + 1) M) else ((f_X9_endOf x3 M).bind fun p2 => (f_X9_tokenOf x3 p2 M).bind fun p3 => (g_st M 77 121 x1 p3).bind fun M4 => (g_st M4 78 121 x1 x3).bind fun M5 => (g_ld M5 77 121 x1).bind fun v6 => (if v6 = 2 then ((f_X9_numberOf x3 p2 M5).bind fun p8 => (g_st M5 79 121 x1 p8).bind fun M9 => k (x1 + 1) p2 (x3 + 1) M9) else ((g_st M5 79 121 x1 0).bind fun M7 => k (x1 + 1) p2 (x3 + 1) M7))))))))
set_option maxRecDepth 100000 in
theorem t_X9_findTokens_6 {l : Launch} {X : g_X} {Y : g_Y} {p : g_M} {k96 : Int32 → g_M → Option (g_M)} (C : g_C l (g_rm (8)) RX9 cX9_findTokens 4 X Y) (E : g_E none X Y none p) (hk96 : ∀ (x1 : Int32) (M : g_M), k96 x1 M = some p → g_G 4 X Y 96 [(0, g_r Y 32), (1, .int x1)] [] M) (n : Nat) : ∀ (x1 : Int32) (x2 : Int32) (x3 : Int32) (M : g_M), g_lp3 (F_X9_findTokens_6 k96) n x1 x2 x3 M = some p → g_G 4 X Y 6 [(0, g_r Y 32), (1, .int x1), (2, .int x2), (3, .int x3)] [] M := by
  induction n with
  | zero => intro x1 x2 x3 M h; exact (g_nn h).elim
  | succ n ih =>
    intro x1 x2 x3 M h
    have h : F_X9_findTokens_6 k96 (g_lp3 (F_X9_findTokens_6 k96) n) x1 x2 x3 M = some p := h
    generalize g_lp3 (F_X9_findTokens_6 k96) n = k at h ih
    unfold F_X9_findTokens_6 at h
    refine g_iload_n C 3 dX9_findTokens_6 (q := 7) rfl rfl rfl ?_
    refine g_aload_n C 0 dX9_findTokens_7 (q := 8) rfl rfl rfl ?_
    refine g_get C (k := 32) (i := 0) (by decide) (gc_32 Y _ _) rfl kU_X9 (by decide) kF_X9_12 rfl dX9_findTokens_8 (q := 11) rfl ?_
    refine g_get C (k := 33) (i := 1) (by decide) (gc_33 Y _ _) rfl kU_X8 (by decide) kF_X9_74 rfl dX9_findTokens_11 (q := 14) rfl ?_
    have hif := g_if h
    clear h
    refine g_icmp_ge C dX9_findTokens_14 (q := 17) (tgt := 96) rfl (by decide) (fun c => ?_) (fun c => ?_)
    · have h := hif.1 c
      clear hif
      refine g_sub [0, 1] (lv' := [(0, g_r Y 32), (1, .int x1)]) rfl ?_
      exact hk96 x1 M h
    · have h := hif.2 c
      clear hif
      refine g_iload_n C 3 dX9_findTokens_17 (q := 18) rfl rfl rfl ?_
      refine g_iload_n C 2 dX9_findTokens_18 (q := 19) rfl rfl rfl ?_
      have hif := g_if h
      clear h
      refine g_icmp_lt C dX9_findTokens_19 (q := 22) (tgt := 90) rfl (by decide) (fun c => ?_) (fun c => ?_)
      · have h := hif.1 c
        clear hif
        refine g_iinc C (k := 3) (v := x3 + 1) dX9_findTokens_90 (q := 93) rfl rfl rfl (by decide) (lv' := [(3, .int (x3 + 1)), (0, g_r Y 32), (1, .int x1), (2, .int x2)]) rfl ?_
        refine g_goto C dX9_findTokens_93 (tgt := 6) (by decide) ?_
        refine g_sub [1, 2, 3, 0] (lv' := [(0, g_r Y 32), (1, .int x1), (2, .int x2), (3, .int (x3 + 1))]) rfl ?_
        exact ih x1 x2 (x3 + 1) M h
      · have h := hif.2 c
        clear hif
        refine g_aload_n C 0 dX9_findTokens_22 (q := 23) rfl rfl rfl ?_
        refine g_get C (k := 32) (i := 0) (by decide) (gc_32 Y _ _) rfl kU_X9 (by decide) kF_X9_12 rfl dX9_findTokens_23 (q := 26) rfl ?_
        refine g_get C (k := 33) (i := 0) (by decide) (gc_33 Y _ _) rfl kU_X8 (by decide) kF_X9_75 rfl dX9_findTokens_26 (q := 29) rfl ?_
        refine g_iload_n C 3 dX9_findTokens_29 (q := 30) rfl rfl rfl ?_
        obtain ⟨v1, hv1, h⟩ := g_bind h
        refine g_iald C (k := 34) (n := 120) (by decide) (gc_34 Y _ _) hv1 dX9_findTokens_30 (q := 31) rfl ?_
        refine g_bipush C (v := 32) dX9_findTokens_31 (q := 33) rfl (by decide) ?_
        have hif := g_if h
        clear h
        refine g_icmp_eq C dX9_findTokens_33 (q := 36) (tgt := 90) rfl (by decide) (fun c => ?_) (fun c => ?_)
        · have h := hif.1 c
          clear hif
          refine g_iinc C (k := 3) (v := x3 + 1) dX9_findTokens_90 (q := 93) rfl rfl rfl (by decide) (lv' := [(3, .int (x3 + 1)), (0, g_r Y 32), (1, .int x1), (2, .int x2)]) rfl ?_
          refine g_goto C dX9_findTokens_93 (tgt := 6) (by decide) ?_
          refine g_sub [1, 2, 3, 0] (lv' := [(0, g_r Y 32), (1, .int x1), (2, .int x2), (3, .int (x3 + 1))]) rfl ?_
          exact ih x1 x2 (x3 + 1) M h
        · have h := hif.2 c
          clear hif
          refine g_aload_n C 0 dX9_findTokens_36 (q := 37) rfl rfl rfl ?_
          refine g_iload_n C 3 dX9_findTokens_37 (q := 38) rfl rfl rfl ?_
          obtain ⟨p2, hp2, h⟩ := g_bind h
          refine g_callV C (k := 32) (as := [.int x3]) (st := []) (m_X9_endOf hp2) (g_hR (by decide)) (by decide) (by decide) (gc_32 Y _ _) rfl kM_X9_78 kI_X9_endOf kS_X9_endOf kN_X9 kC_X9_endOf kD_X9_endOf rfl (Nat.le_of_ble_eq_true rfl) dX9_findTokens_38 (q := 41) rfl ?_
          show g_G 4 X Y 41 [(0, g_r Y 32), (1, .int x1), (2, .int x2), (3, .int x3)] [.int p2] M
          refine g_istore_n C dX9_findTokens_41 (q := 42) rfl rfl (by decide) (lv' := [(2, .int p2), (0, g_r Y 32), (1, .int x1), (3, .int x3)]) rfl ?_
          refine g_aload_n C 1 dX9_findTokens_42 (q := 43) rfl rfl rfl ?_
          refine g_get C (k := 32) (i := 3) (by decide) (gc_32 Y _ _) rfl kU_X9 (by decide) kF_X9_22 rfl dX9_findTokens_43 (q := 46) rfl ?_
          refine g_iload_n C 2 dX9_findTokens_46 (q := 47) rfl rfl rfl ?_
          refine g_aload_n C 1 dX9_findTokens_47 (q := 48) rfl rfl rfl ?_
          refine g_iload_n C 3 dX9_findTokens_48 (q := 49) rfl rfl rfl ?_
          refine g_iload_n C 0 dX9_findTokens_49 (q := 50) rfl rfl rfl ?_
          obtain ⟨p3, hp3, h⟩ := g_bind h
          refine g_callV C (k := 32) (as := [.int x3, .int p2]) (st := [.int x1, g_r Y 77]) (m_X9_tokenOf hp3) (g_hR (by decide)) (by decide) (by decide) (gc_32 Y _ _) rfl kM_X9_82 kI_X9_tokenOf kS_X9_tokenOf kN_X9 kC_X9_tokenOf kD_X9_tokenOf rfl (Nat.le_of_ble_eq_true rfl) dX9_findTokens_50 (q := 53) rfl ?_
          show g_G 4 X Y 53 [(2, .int p2), (0, g_r Y 32), (1, .int x1), (3, .int x3)] [.int p3, .int x1, g_r Y 77] M
          obtain ⟨M4, hM4, h⟩ := g_bind h
          refine g_iast C (k := 77) (n := 121) (by decide) (fun a => gc_77 Y a _) hM4 dX9_findTokens_53 (q := 54) rfl ?_
          refine g_aload_n C 1 dX9_findTokens_54 (q := 55) rfl rfl rfl ?_
          refine g_get C (k := 32) (i := 4) (by decide) (gc_32 Y _ _) rfl kU_X9 (by decide) kF_X9_25 rfl dX9_findTokens_55 (q := 58) rfl ?_
          refine g_iload_n C 2 dX9_findTokens_58 (q := 59) rfl rfl rfl ?_
          refine g_iload_n C 3 dX9_findTokens_59 (q := 60) rfl rfl rfl ?_
          obtain ⟨M5, hM5, h⟩ := g_bind h
          refine g_iast C (k := 78) (n := 121) (by decide) (fun a => gc_78 Y a _) hM5 dX9_findTokens_60 (q := 61) rfl ?_
          refine g_aload_n C 1 dX9_findTokens_61 (q := 62) rfl rfl rfl ?_
          refine g_get C (k := 32) (i := 5) (by decide) (gc_32 Y _ _) rfl kU_X9 (by decide) kF_X9_28 rfl dX9_findTokens_62 (q := 65) rfl ?_
          refine g_iload_n C 2 dX9_findTokens_65 (q := 66) rfl rfl rfl ?_
          refine g_aload_n C 1 dX9_findTokens_66 (q := 67) rfl rfl rfl ?_
          refine g_get C (k := 32) (i := 3) (by decide) (gc_32 Y _ _) rfl kU_X9 (by decide) kF_X9_22 rfl dX9_findTokens_67 (q := 70) rfl ?_
          refine g_iload_n C 2 dX9_findTokens_70 (q := 71) rfl rfl rfl ?_
          obtain ⟨v6, hv6, h⟩ := g_bind h
          refine g_iald C (k := 77) (n := 121) (by decide) (gc_77 Y _ _) hv6 dX9_findTokens_71 (q := 72) rfl ?_
          refine g_iconst C (v := 2) dX9_findTokens_72 (q := 73) rfl (by decide) ?_
          have hif := g_if h
          clear h
          refine g_icmp_ne C dX9_findTokens_73 (q := 76) (tgt := 85) rfl (by decide) (fun c => ?_) (fun c => ?_)
          · have h := hif.2 c
            clear hif
            refine g_iconst C (v := 0) dX9_findTokens_85 (q := 86) rfl (by decide) ?_
            obtain ⟨M7, hM7, h⟩ := g_bind h
            refine g_iast C (k := 79) (n := 121) (by decide) (fun a => gc_79 Y a _) hM7 dX9_findTokens_86 (q := 87) rfl ?_
            refine g_iinc C (k := 2) (v := x1 + 1) dX9_findTokens_87 (q := 90) rfl rfl rfl (by decide) (lv' := [(1, .int (x1 + 1)), (2, .int p2), (0, g_r Y 32), (3, .int x3)]) rfl ?_
            refine g_iinc C (k := 3) (v := x3 + 1) dX9_findTokens_90 (q := 93) rfl rfl rfl (by decide) (lv' := [(3, .int (x3 + 1)), (1, .int (x1 + 1)), (2, .int p2), (0, g_r Y 32)]) rfl ?_
            refine g_goto C dX9_findTokens_93 (tgt := 6) (by decide) ?_
            refine g_sub [3, 1, 2, 0] (lv' := [(0, g_r Y 32), (1, .int (x1 + 1)), (2, .int p2), (3, .int (x3 + 1))]) rfl ?_
            exact ih (x1 + 1) p2 (x3 + 1) M7 h
          · have h := hif.1 c
            clear hif
            refine g_aload_n C 1 dX9_findTokens_76 (q := 77) rfl rfl rfl ?_
            refine g_iload_n C 3 dX9_findTokens_77 (q := 78) rfl rfl rfl ?_
            refine g_iload_n C 0 dX9_findTokens_78 (q := 79) rfl rfl rfl ?_
            obtain ⟨p8, hp8, h⟩ := g_bind h
            refine g_callV C (k := 32) (as := [.int x3, .int p2]) (st := [.int x1, g_r Y 79]) (m_X9_numberOf hp8) (g_hR (by decide)) (by decide) (by decide) (gc_32 Y _ _) rfl kM_X9_86 kI_X9_numberOf kS_X9_numberOf kN_X9 kC_X9_numberOf kD_X9_numberOf rfl (Nat.le_of_ble_eq_true rfl) dX9_findTokens_79 (q := 82) rfl ?_
            show g_G 4 X Y 82 [(2, .int p2), (0, g_r Y 32), (1, .int x1), (3, .int x3)] [.int p8, .int x1, g_r Y 79] M5
            refine g_goto C dX9_findTokens_82 (tgt := 86) (by decide) ?_
            obtain ⟨M9, hM9, h⟩ := g_bind h
            refine g_iast C (k := 79) (n := 121) (by decide) (fun a => gc_79 Y a _) hM9 dX9_findTokens_86 (q := 87) rfl ?_
            refine g_iinc C (k := 2) (v := x1 + 1) dX9_findTokens_87 (q := 90) rfl rfl rfl (by decide) (lv' := [(1, .int (x1 + 1)), (2, .int p2), (0, g_r Y 32), (3, .int x3)]) rfl ?_
            refine g_iinc C (k := 3) (v := x3 + 1) dX9_findTokens_90 (q := 93) rfl rfl rfl (by decide) (lv' := [(3, .int (x3 + 1)), (1, .int (x1 + 1)), (2, .int p2), (0, g_r Y 32)]) rfl ?_
            refine g_goto C dX9_findTokens_93 (tgt := 6) (by decide) ?_
            refine g_sub [3, 1, 2, 0] (lv' := [(0, g_r Y 32), (1, .int (x1 + 1)), (2, .int p2), (3, .int (x3 + 1))]) rfl ?_
            exact ih (x1 + 1) p2 (x3 + 1) M9 h
theorem r_X9_findTokens_6 {p : g_M} {k96 : Int32 → g_M → Option (g_M)} (hk96 : ∀ (x1 : Int32) (M : g_M), k96 x1 M = some p → g_fr [77, 78, 79] [] M p) (n : Nat) : ∀ (x1 : Int32) (x2 : Int32) (x3 : Int32) (M : g_M), g_lp3 (F_X9_findTokens_6 k96) n x1 x2 x3 M = some p → g_fr [77, 78, 79] [] M p := by
  induction n with
  | zero => intro x1 x2 x3 M h; exact (g_nn h).elim
  | succ n ih =>
    intro x1 x2 x3 M h
    have h : F_X9_findTokens_6 k96 (g_lp3 (F_X9_findTokens_6 k96) n) x1 x2 x3 M = some p := h
    generalize g_lp3 (F_X9_findTokens_6 k96) n = k at h ih
    unfold F_X9_findTokens_6 at h
    have hf := g_fr.rfl (S := [77, 78, 79]) (T := []) (M := M)
    rcases g_ifs h with h | h
    · exact hf.trans (hk96 x1 M h)
    · rcases g_ifs h with h | h
      · exact hf.trans (ih x1 x2 (x3 + 1) M h)
      · obtain ⟨v1, -, h⟩ := g_bind h
        rcases g_ifs h with h | h
        · exact hf.trans (ih x1 x2 (x3 + 1) M h)
        · obtain ⟨p2, -, h⟩ := g_bind h
          obtain ⟨p3, -, h⟩ := g_bind h
          obtain ⟨M4, hM4, h⟩ := g_bind h
          have hf := hf.st hM4 (by decide)
          obtain ⟨M5, hM5, h⟩ := g_bind h
          have hf := hf.st hM5 (by decide)
          obtain ⟨v6, -, h⟩ := g_bind h
          rcases g_ifs h with h | h
          · obtain ⟨p8, -, h⟩ := g_bind h
            obtain ⟨M9, hM9, h⟩ := g_bind h
            have hf := hf.st hM9 (by decide)
            exact hf.trans (ih (x1 + 1) p2 (x3 + 1) M9 h)
          · obtain ⟨M7, hM7, h⟩ := g_bind h
            have hf := hf.st hM7 (by decide)
            exact hf.trans (ih (x1 + 1) p2 (x3 + 1) M7 h)
def f_X9_findTokens (M : g_M) : Option (g_M) :=
  g_lp3 (F_X9_findTokens_6 (fun (x1 : Int32) (M : g_M) => (g_st M 77 121 x1 0).bind fun M10 => (g_st M10 78 121 x1 (M10.1 33 1)).bind fun M11 => (g_st M11 79 121 x1 0).bind fun M12 => some M12)) 20000000 0 0 0 M
set_option maxRecDepth 100000 in
theorem m_X9_findTokens {l : Launch} {Y : g_Y} {M : g_M} {p : g_M} (h : f_X9_findTokens M = some p) : g_R l Y (8) yX9_findTokens cX9_findTokens 4 none [g_r Y 32] M none p := by
  unfold f_X9_findTokens at h
  refine g_R_of kP_X9 rfl (Nat.le_of_ble_eq_true rfl) (fun X C E => ?_)
  show g_G 4 X Y 0 [(0, g_r Y 32)] [] M
  refine g_iconst C (v := 0) dX9_findTokens_0 (q := 1) rfl (by decide) ?_
  refine g_istore_n C dX9_findTokens_1 (q := 2) rfl rfl (by decide) (lv' := [(1, .int 0), (0, g_r Y 32)]) rfl ?_
  refine g_iconst C (v := 0) dX9_findTokens_2 (q := 3) rfl (by decide) ?_
  refine g_istore_n C dX9_findTokens_3 (q := 4) rfl rfl (by decide) (lv' := [(2, .int 0), (1, .int 0), (0, g_r Y 32)]) rfl ?_
  refine g_iconst C (v := 0) dX9_findTokens_4 (q := 5) rfl (by decide) ?_
  refine g_istore_n C dX9_findTokens_5 (q := 6) rfl rfl (by decide) (lv' := [(3, .int 0), (2, .int 0), (1, .int 0), (0, g_r Y 32)]) rfl ?_
  refine g_sub [3, 2, 1, 0] (lv' := [(0, g_r Y 32), (1, .int 0), (2, .int 0), (3, .int 0)]) rfl ?_
  refine t_X9_findTokens_6 C E ?_ 20000000 0 0 0 M h
  · intro x1 M h
    try dsimp only at h
    refine g_aload_n C 0 dX9_findTokens_96 (q := 97) rfl rfl rfl ?_
    refine g_get C (k := 32) (i := 3) (by decide) (gc_32 Y _ _) rfl kU_X9 (by decide) kF_X9_22 rfl dX9_findTokens_97 (q := 100) rfl ?_
    refine g_iload_n C 1 dX9_findTokens_100 (q := 101) rfl rfl rfl ?_
    refine g_iconst C (v := 0) dX9_findTokens_101 (q := 102) rfl (by decide) ?_
    obtain ⟨M10, hM10, h⟩ := g_bind h
    refine g_iast C (k := 77) (n := 121) (by decide) (fun a => gc_77 Y a _) hM10 dX9_findTokens_102 (q := 103) rfl ?_
    refine g_aload_n C 0 dX9_findTokens_103 (q := 104) rfl rfl rfl ?_
    refine g_get C (k := 32) (i := 4) (by decide) (gc_32 Y _ _) rfl kU_X9 (by decide) kF_X9_25 rfl dX9_findTokens_104 (q := 107) rfl ?_
    refine g_iload_n C 1 dX9_findTokens_107 (q := 108) rfl rfl rfl ?_
    refine g_aload_n C 0 dX9_findTokens_108 (q := 109) rfl rfl rfl ?_
    refine g_get C (k := 32) (i := 0) (by decide) (gc_32 Y _ _) rfl kU_X9 (by decide) kF_X9_12 rfl dX9_findTokens_109 (q := 112) rfl ?_
    refine g_get C (k := 33) (i := 1) (by decide) (gc_33 Y _ _) rfl kU_X8 (by decide) kF_X9_74 rfl dX9_findTokens_112 (q := 115) rfl ?_
    obtain ⟨M11, hM11, h⟩ := g_bind h
    refine g_iast C (k := 78) (n := 121) (by decide) (fun a => gc_78 Y a _) hM11 dX9_findTokens_115 (q := 116) rfl ?_
    refine g_aload_n C 0 dX9_findTokens_116 (q := 117) rfl rfl rfl ?_
    refine g_get C (k := 32) (i := 5) (by decide) (gc_32 Y _ _) rfl kU_X9 (by decide) kF_X9_28 rfl dX9_findTokens_117 (q := 120) rfl ?_
    refine g_iload_n C 1 dX9_findTokens_120 (q := 121) rfl rfl rfl ?_
    refine g_iconst C (v := 0) dX9_findTokens_121 (q := 122) rfl (by decide) ?_
    obtain ⟨M12, hM12, h⟩ := g_bind h
    refine g_iast C (k := 79) (n := 121) (by decide) (fun a => gc_79 Y a _) hM12 dX9_findTokens_122 (q := 123) rfl ?_
    obtain rfl := Option.some.inj h
    exact g_vret C E dX9_findTokens_123
theorem r_X9_findTokens {M : g_M} {p : g_M} (h : f_X9_findTokens M = some p) : g_fr [77, 78, 79] [] M p := by
  unfold f_X9_findTokens at h
  have hf := g_fr.rfl (S := [77, 78, 79]) (T := []) (M := M)
  refine hf.trans (r_X9_findTokens_6 ?_ 20000000 0 0 0 M h)
  · intro x1 M h
    try dsimp only at h
    have hf := g_fr.rfl (S := [77, 78, 79]) (T := []) (M := M)
    obtain ⟨M10, hM10, h⟩ := g_bind h
    have hf := hf.st hM10 (by decide)
    obtain ⟨M11, hM11, h⟩ := g_bind h
    have hf := hf.st hM11 (by decide)
    obtain ⟨M12, hM12, h⟩ := g_bind h
    have hf := hf.st hM12 (by decide)
    obtain rfl := Option.some.inj h
    exact hf
def f_X9_readTape_72 (x1 : Int32) (M : g_M) : Option (Int32 × g_M) :=
  (if x1 = 0 then ((g_ld M 78 121 (M.1 32 6)).bind fun v5 => some (v5, M)) else ((g_ld M 77 121 (M.1 32 6)).bind fun v6 => (if v6 = 0 then (some ((-1), M)) else ((g_ld M 78 121 (M.1 32 6)).bind fun v7 => some (v7, M)))))
set_option maxRecDepth 100000 in
theorem t_X9_readTape_72 {l : Launch} {X : g_X} {Y : g_Y} {p : Int32 × g_M} (C : g_C l (g_rm (200)) RX9 cX9_readTape 2 X Y) (E : g_E (some .int) X Y (some (.int p.1)) p.2) (x1 : Int32) (M : g_M) (h : f_X9_readTape_72 x1 M = some p) : g_G 2 X Y 72 [(0, g_r Y 32), (1, .int x1)] [] M := by
  unfold f_X9_readTape_72 at h
  refine g_iload_n C 1 dX9_readTape_72 (q := 73) rfl rfl rfl ?_
  have hif := g_if h
  clear h
  refine g_if_eq C dX9_readTape_73 (q := 76) (tgt := 92) rfl (by decide) (fun c => ?_) (fun c => ?_)
  · have h := hif.1 c
    clear hif
    refine g_aload_n C 0 dX9_readTape_92 (q := 93) rfl rfl rfl ?_
    refine g_get C (k := 32) (i := 4) (by decide) (gc_32 Y _ _) rfl kU_X9 (by decide) kF_X9_25 rfl dX9_readTape_93 (q := 96) rfl ?_
    refine g_aload_n C 0 dX9_readTape_96 (q := 97) rfl rfl rfl ?_
    refine g_get C (k := 32) (i := 6) (by decide) (gc_32 Y _ _) rfl kU_X9 (by decide) kF_X9_38 rfl dX9_readTape_97 (q := 100) rfl ?_
    obtain ⟨v5, hv5, h⟩ := g_bind h
    refine g_iald C (k := 78) (n := 121) (by decide) (gc_78 Y _ _) hv5 dX9_readTape_100 (q := 101) rfl ?_
    obtain rfl := Option.some.inj h
    exact g_iret C E dX9_readTape_101
  · have h := hif.2 c
    clear hif
    refine g_aload_n C 0 dX9_readTape_76 (q := 77) rfl rfl rfl ?_
    refine g_get C (k := 32) (i := 3) (by decide) (gc_32 Y _ _) rfl kU_X9 (by decide) kF_X9_22 rfl dX9_readTape_77 (q := 80) rfl ?_
    refine g_aload_n C 0 dX9_readTape_80 (q := 81) rfl rfl rfl ?_
    refine g_get C (k := 32) (i := 6) (by decide) (gc_32 Y _ _) rfl kU_X9 (by decide) kF_X9_38 rfl dX9_readTape_81 (q := 84) rfl ?_
    obtain ⟨v6, hv6, h⟩ := g_bind h
    refine g_iald C (k := 77) (n := 121) (by decide) (gc_77 Y _ _) hv6 dX9_readTape_84 (q := 85) rfl ?_
    have hif := g_if h
    clear h
    refine g_if_ne C dX9_readTape_85 (q := 88) (tgt := 92) rfl (by decide) (fun c => ?_) (fun c => ?_)
    · have h := hif.2 c
      clear hif
      refine g_aload_n C 0 dX9_readTape_92 (q := 93) rfl rfl rfl ?_
      refine g_get C (k := 32) (i := 4) (by decide) (gc_32 Y _ _) rfl kU_X9 (by decide) kF_X9_25 rfl dX9_readTape_93 (q := 96) rfl ?_
      refine g_aload_n C 0 dX9_readTape_96 (q := 97) rfl rfl rfl ?_
      refine g_get C (k := 32) (i := 6) (by decide) (gc_32 Y _ _) rfl kU_X9 (by decide) kF_X9_38 rfl dX9_readTape_97 (q := 100) rfl ?_
      obtain ⟨v7, hv7, h⟩ := g_bind h
      refine g_iald C (k := 78) (n := 121) (by decide) (gc_78 Y _ _) hv7 dX9_readTape_100 (q := 101) rfl ?_
      obtain rfl := Option.some.inj h
      exact g_iret C E dX9_readTape_101
    · have h := hif.1 c
      clear hif
      refine g_iconst C (v := (-1)) dX9_readTape_88 (q := 89) rfl (by decide) ?_
      refine g_goto C dX9_readTape_89 (tgt := 101) (by decide) ?_
      obtain rfl := Option.some.inj h
      exact g_iret C E dX9_readTape_101
theorem r_X9_readTape_72 {p : Int32 × g_M} (x1 : Int32) (M : g_M) (h : f_X9_readTape_72 x1 M = some p) : g_fr [35, 77, 78, 79] [(32, 2), (32, 6), (32, 7)] M p.2 := by
  unfold f_X9_readTape_72 at h
  have hf := g_fr.rfl (S := [35, 77, 78, 79]) (T := [(32, 2), (32, 6), (32, 7)]) (M := M)
  rcases g_ifs h with h | h
  · obtain ⟨v5, -, h⟩ := g_bind h
    obtain rfl := Option.some.inj h
    exact hf
  · obtain ⟨v6, -, h⟩ := g_bind h
    rcases g_ifs h with h | h
    · obtain rfl := Option.some.inj h
      exact hf
    · obtain ⟨v7, -, h⟩ := g_bind h
      obtain rfl := Option.some.inj h
      exact hf
def f_X9_readTape_36 (s0 : Int32) (M : g_M) : Option (Int32 × g_M) :=
  (if s0 = 0 then (f_X9_readTape_72 s0 M) else ((f_X9_pass 8 M).bind fun p8 => (if p8.1 = 0 then (f_X9_readTape_72 s0 p8.2) else ((f_X9_readEither 8 0 p8.2).bind fun p9 => (f_X9_emit 4 0 0 p9.2).bind fun p10 => (f_X9_emit 5 0 0 p10.2).bind fun p11 => f_X9_readTape_72 p9.1 p11.2))))
set_option maxRecDepth 100000 in
theorem t_X9_readTape_36 {l : Launch} {X : g_X} {Y : g_Y} {p : Int32 × g_M} (C : g_C l (g_rm (200)) RX9 cX9_readTape 2 X Y) (E : g_E (some .int) X Y (some (.int p.1)) p.2) (s0 : Int32) (M : g_M) (h : f_X9_readTape_36 s0 M = some p) : g_G 2 X Y 36 [(0, g_r Y 32)] [.int s0] M := by
  unfold f_X9_readTape_36 at h
  refine g_istore_n C dX9_readTape_36 (q := 37) rfl rfl (by decide) (lv' := [(1, .int s0), (0, g_r Y 32)]) rfl ?_
  refine g_iload_n C 0 dX9_readTape_37 (q := 38) rfl rfl rfl ?_
  have hif := g_if h
  clear h
  refine g_if_eq C dX9_readTape_38 (q := 41) (tgt := 72) rfl (by decide) (fun c => ?_) (fun c => ?_)
  · have h := hif.1 c
    clear hif
    refine g_sub [1, 0] (lv' := [(0, g_r Y 32), (1, .int s0)]) rfl ?_
    exact t_X9_readTape_72 C E s0 M h
  · have h := hif.2 c
    clear hif
    refine g_aload_n C 1 dX9_readTape_41 (q := 42) rfl rfl rfl ?_
    refine g_bipush C (v := 8) dX9_readTape_42 (q := 44) rfl (by decide) ?_
    obtain ⟨p8, hp8, h⟩ := g_bind h
    refine g_callV C (k := 32) (as := [.int 8]) (st := []) (m_X9_pass hp8) (g_hR (by omega)) (by decide) (by decide) (gc_32 Y _ _) rfl kM_X9_41 kI_X9_pass kS_X9_pass kN_X9 kC_X9_pass kD_X9_pass rfl (Nat.le_of_ble_eq_true rfl) dX9_readTape_44 (q := 47) rfl ?_
    show g_G 2 X Y 47 [(1, .int s0), (0, g_r Y 32)] [.int p8.1] p8.2
    have hif := g_if h
    clear h
    refine g_if_eq C dX9_readTape_47 (q := 50) (tgt := 72) rfl (by decide) (fun c => ?_) (fun c => ?_)
    · have h := hif.1 c
      clear hif
      refine g_sub [1, 0] (lv' := [(0, g_r Y 32), (1, .int s0)]) rfl ?_
      exact t_X9_readTape_72 C E s0 p8.2 h
    · have h := hif.2 c
      clear hif
      refine g_aload_n C 1 dX9_readTape_50 (q := 51) rfl rfl rfl ?_
      refine g_iconst C (v := 0) dX9_readTape_51 (q := 52) rfl (by decide) ?_
      obtain ⟨p9, hp9, h⟩ := g_bind h
      refine g_callV C (k := 32) (as := [.int 0]) (st := []) (m_X9_readEither 8 _ _ _ hp9) (g_hR (by omega)) (by decide) (by decide) (gc_32 Y _ _) rfl kM_X9_45 kI_X9_readEither kS_X9_readEither kN_X9 kC_X9_readEither kD_X9_readEither rfl (Nat.le_of_ble_eq_true rfl) dX9_readTape_52 (q := 55) rfl ?_
      show g_G 2 X Y 55 [(1, .int s0), (0, g_r Y 32)] [.int p9.1] p9.2
      refine g_istore_n C dX9_readTape_55 (q := 56) rfl rfl (by decide) (lv' := [(1, .int p9.1), (0, g_r Y 32)]) rfl ?_
      refine g_aload_n C 1 dX9_readTape_56 (q := 57) rfl rfl rfl ?_
      refine g_iconst C (v := 4) dX9_readTape_57 (q := 58) rfl (by decide) ?_
      refine g_iconst C (v := 0) dX9_readTape_58 (q := 59) rfl (by decide) ?_
      refine g_iconst C (v := 0) dX9_readTape_59 (q := 60) rfl (by decide) ?_
      obtain ⟨p10, hp10, h⟩ := g_bind h
      refine g_callV C (k := 32) (as := [.int 4, .int 0, .int 0]) (st := []) (m_X9_emit hp10) (g_hR (by omega)) (by decide) (by decide) (gc_32 Y _ _) rfl kM_X9_50 kI_X9_emit kS_X9_emit kN_X9 kC_X9_emit kD_X9_emit rfl (Nat.le_of_ble_eq_true rfl) dX9_readTape_60 (q := 63) rfl ?_
      show g_G 2 X Y 63 [(1, .int p9.1), (0, g_r Y 32)] [.int p10.1] p10.2
      refine g_pop C dX9_readTape_63 (q := 64) rfl rfl ?_
      refine g_aload_n C 1 dX9_readTape_64 (q := 65) rfl rfl rfl ?_
      refine g_iconst C (v := 5) dX9_readTape_65 (q := 66) rfl (by decide) ?_
      refine g_iconst C (v := 0) dX9_readTape_66 (q := 67) rfl (by decide) ?_
      refine g_iconst C (v := 0) dX9_readTape_67 (q := 68) rfl (by decide) ?_
      obtain ⟨p11, hp11, h⟩ := g_bind h
      refine g_callV C (k := 32) (as := [.int 5, .int 0, .int 0]) (st := []) (m_X9_emit hp11) (g_hR (by omega)) (by decide) (by decide) (gc_32 Y _ _) rfl kM_X9_50 kI_X9_emit kS_X9_emit kN_X9 kC_X9_emit kD_X9_emit rfl (Nat.le_of_ble_eq_true rfl) dX9_readTape_68 (q := 71) rfl ?_
      show g_G 2 X Y 71 [(1, .int p9.1), (0, g_r Y 32)] [.int p11.1] p11.2
      refine g_pop C dX9_readTape_71 (q := 72) rfl rfl ?_
      refine g_sub [1, 0] (lv' := [(0, g_r Y 32), (1, .int p9.1)]) rfl ?_
      exact t_X9_readTape_72 C E p9.1 p11.2 h
theorem r_X9_readTape_36 {p : Int32 × g_M} (s0 : Int32) (M : g_M) (h : f_X9_readTape_36 s0 M = some p) : g_fr [35, 77, 78, 79] [(32, 2), (32, 6), (32, 7)] M p.2 := by
  unfold f_X9_readTape_36 at h
  have hf := g_fr.rfl (S := [35, 77, 78, 79]) (T := [(32, 2), (32, 6), (32, 7)]) (M := M)
  rcases g_ifs h with h | h
  · exact hf.trans (r_X9_readTape_72 s0 M h)
  · obtain ⟨p8, hp8, h⟩ := g_bind h
    have hf := hf.trans ((r_X9_pass hp8).mono (by decide) (by decide))
    rcases g_ifs h with h | h
    · exact hf.trans (r_X9_readTape_72 s0 p8.2 h)
    · obtain ⟨p9, hp9, h⟩ := g_bind h
      have hf := hf.trans ((r_X9_readEither 8 _ _ _ hp9).mono (by decide) (by decide))
      obtain ⟨p10, hp10, h⟩ := g_bind h
      have hf := hf.trans ((r_X9_emit hp10).mono (by decide) (by decide))
      obtain ⟨p11, hp11, h⟩ := g_bind h
      have hf := hf.trans ((r_X9_emit hp11).mono (by decide) (by decide))
      exact hf.trans (r_X9_readTape_72 p9.1 p11.2 h)
def f_X9_readTape_35 (M : g_M) : Option (Int32 × g_M) :=
  f_X9_readTape_36 0 M
set_option maxRecDepth 100000 in
theorem t_X9_readTape_35 {l : Launch} {X : g_X} {Y : g_Y} {p : Int32 × g_M} (C : g_C l (g_rm (200)) RX9 cX9_readTape 2 X Y) (E : g_E (some .int) X Y (some (.int p.1)) p.2) (M : g_M) (h : f_X9_readTape_35 M = some p) : g_G 2 X Y 35 [(0, g_r Y 32)] [] M := by
  unfold f_X9_readTape_35 at h
  refine g_iconst C (v := 0) dX9_readTape_35 (q := 36) rfl (by decide) ?_
  refine g_sub [0] (lv' := [(0, g_r Y 32)]) rfl ?_
  exact t_X9_readTape_36 C E 0 M h
theorem r_X9_readTape_35 {p : Int32 × g_M} (M : g_M) (h : f_X9_readTape_35 M = some p) : g_fr [35, 77, 78, 79] [(32, 2), (32, 6), (32, 7)] M p.2 := by
  unfold f_X9_readTape_35 at h
  have hf := g_fr.rfl (S := [35, 77, 78, 79]) (T := [(32, 2), (32, 6), (32, 7)]) (M := M)
  exact hf.trans (r_X9_readTape_36 0 M h)
def f_X9_readTape (M : g_M) : Option (Int32 × g_M) :=
  (f_X9_findTokens M).bind fun p1 => (some (g_u p1 32 2 0)).bind fun M2 => (some (g_u M2 32 6 0)).bind fun M3 => (f_X9_pass 7 M3).bind fun p4 => (if p4.1 = 0 then (f_X9_readTape_35 p4.2) else ((f_X9_readEither 8 0 p4.2).bind fun p12 => (if p12.1 = 0 then (f_X9_readTape_35 p12.2) else (f_X9_readTape_36 1 p12.2))))
set_option maxRecDepth 100000 in
theorem m_X9_readTape {l : Launch} {Y : g_Y} {M : g_M} {p : Int32 × g_M} (h : f_X9_readTape M = some p) : g_R l Y (200) yX9_readTape cX9_readTape 2 (some .int) [g_r Y 32] M (some (.int p.1)) p.2 := by
  unfold f_X9_readTape at h
  refine g_R_of kP_X9 rfl (Nat.le_of_ble_eq_true rfl) (fun X C E => ?_)
  show g_G 2 X Y 0 [(0, g_r Y 32)] [] M
  refine g_aload_n C 0 dX9_readTape_0 (q := 1) rfl rfl rfl ?_
  obtain ⟨p1, hp1, h⟩ := g_bind h
  refine g_callV C (k := 32) (as := []) (st := []) (m_X9_findTokens hp1) (g_hR (by omega)) (by decide) (by decide) (gc_32 Y _ _) rfl kM_X9_31 kI_X9_findTokens kS_X9_findTokens kN_X9 kC_X9_findTokens kD_X9_findTokens rfl (Nat.le_of_ble_eq_true rfl) dX9_readTape_1 (q := 4) rfl ?_
  show g_G 2 X Y 4 [(0, g_r Y 32)] [] p1
  refine g_aload_n C 0 dX9_readTape_4 (q := 5) rfl rfl rfl ?_
  refine g_iconst C (v := 0) dX9_readTape_5 (q := 6) rfl (by decide) ?_
  obtain ⟨M2, hM2, h⟩ := g_bind h
  refine g_put C (k := 32) (i := 2) (ty := .int) (by decide) (gc_32 Y _ _) (gp_32_2 Y _ _ _) rfl kU_X9 tyX9_ok nmX9 (by decide) kF_X9_34 rfl rfl rfl rfl (Nat.le_of_ble_eq_true rfl) dX9_readTape_6 (q := 9) rfl ?_
  refine g_mem hM2 ?_
  refine g_aload_n C 0 dX9_readTape_9 (q := 10) rfl rfl rfl ?_
  refine g_iconst C (v := 0) dX9_readTape_10 (q := 11) rfl (by decide) ?_
  obtain ⟨M3, hM3, h⟩ := g_bind h
  refine g_put C (k := 32) (i := 6) (ty := .int) (by decide) (gc_32 Y _ _) (gp_32_6 Y _ _ _) rfl kU_X9 tyX9_ok nmX9 (by decide) kF_X9_38 rfl rfl rfl rfl (Nat.le_of_ble_eq_true rfl) dX9_readTape_11 (q := 14) rfl ?_
  refine g_mem hM3 ?_
  refine g_aload_n C 0 dX9_readTape_14 (q := 15) rfl rfl rfl ?_
  refine g_bipush C (v := 7) dX9_readTape_15 (q := 17) rfl (by decide) ?_
  obtain ⟨p4, hp4, h⟩ := g_bind h
  refine g_callV C (k := 32) (as := [.int 7]) (st := []) (m_X9_pass hp4) (g_hR (by omega)) (by decide) (by decide) (gc_32 Y _ _) rfl kM_X9_41 kI_X9_pass kS_X9_pass kN_X9 kC_X9_pass kD_X9_pass rfl (Nat.le_of_ble_eq_true rfl) dX9_readTape_17 (q := 20) rfl ?_
  show g_G 2 X Y 20 [(0, g_r Y 32)] [.int p4.1] p4.2
  have hif := g_if h
  clear h
  refine g_if_eq C dX9_readTape_20 (q := 23) (tgt := 35) rfl (by decide) (fun c => ?_) (fun c => ?_)
  · have h := hif.1 c
    clear hif
    refine g_sub [0] (lv' := [(0, g_r Y 32)]) rfl ?_
    exact t_X9_readTape_35 C E p4.2 h
  · have h := hif.2 c
    clear hif
    refine g_aload_n C 0 dX9_readTape_23 (q := 24) rfl rfl rfl ?_
    refine g_iconst C (v := 0) dX9_readTape_24 (q := 25) rfl (by decide) ?_
    obtain ⟨p12, hp12, h⟩ := g_bind h
    refine g_callV C (k := 32) (as := [.int 0]) (st := []) (m_X9_readEither 8 _ _ _ hp12) (g_hR (by omega)) (by decide) (by decide) (gc_32 Y _ _) rfl kM_X9_45 kI_X9_readEither kS_X9_readEither kN_X9 kC_X9_readEither kD_X9_readEither rfl (Nat.le_of_ble_eq_true rfl) dX9_readTape_25 (q := 28) rfl ?_
    show g_G 2 X Y 28 [(0, g_r Y 32)] [.int p12.1] p12.2
    have hif := g_if h
    clear h
    refine g_if_eq C dX9_readTape_28 (q := 31) (tgt := 35) rfl (by decide) (fun c => ?_) (fun c => ?_)
    · have h := hif.1 c
      clear hif
      refine g_sub [0] (lv' := [(0, g_r Y 32)]) rfl ?_
      exact t_X9_readTape_35 C E p12.2 h
    · have h := hif.2 c
      clear hif
      refine g_iconst C (v := 1) dX9_readTape_31 (q := 32) rfl (by decide) ?_
      refine g_goto C dX9_readTape_32 (tgt := 36) (by decide) ?_
      refine g_sub [0] (lv' := [(0, g_r Y 32)]) rfl ?_
      exact t_X9_readTape_36 C E 1 p12.2 h
theorem r_X9_readTape {M : g_M} {p : Int32 × g_M} (h : f_X9_readTape M = some p) : g_fr [35, 77, 78, 79] [(32, 2), (32, 6), (32, 7)] M p.2 := by
  unfold f_X9_readTape at h
  have hf := g_fr.rfl (S := [35, 77, 78, 79]) (T := [(32, 2), (32, 6), (32, 7)]) (M := M)
  obtain ⟨p1, hp1, h⟩ := g_bind h
  have hf := hf.trans ((r_X9_findTokens hp1).mono (by decide) (by decide))
  obtain ⟨M2, hM2, h⟩ := g_bind h
  have hf := hf.pu hM2 (by decide)
  obtain ⟨M3, hM3, h⟩ := g_bind h
  have hf := hf.pu hM3 (by decide)
  obtain ⟨p4, hp4, h⟩ := g_bind h
  have hf := hf.trans ((r_X9_pass hp4).mono (by decide) (by decide))
  rcases g_ifs h with h | h
  · exact hf.trans (r_X9_readTape_35 p4.2 h)
  · obtain ⟨p12, hp12, h⟩ := g_bind h
    have hf := hf.trans ((r_X9_readEither 8 _ _ _ hp12).mono (by decide) (by decide))
    rcases g_ifs h with h | h
    · exact hf.trans (r_X9_readTape_35 p12.2 h)
    · exact hf.trans (r_X9_readTape_36 1 p12.2 h)
