def F_X1_truth_18 (M : g_M) (k59 : Int32 → Int32 → Int32 → Option (Int32)) (k : Int32 → Int32 → Int32 → Int32 → Int32 → Option (Int32)) (x1 : Int32) (x2 : Int32) (x3 : Int32) (x4 : Int32) (x5 : Int32) : Option (Int32) :=
  (if 10 ≤ x5 then (k59 x1 x2 x3) else ((if (((M.1 39 1) >>> (x5 &&& 31)) &&& 1) = 0 then (k x1 x2 x3 x4 (x5 + 1)) else ((some (x3 ||| ((x4 &&& 1) <<< (x5 &&& 31)))).bind fun y1 => k x1 x2 y1 (x4 >>> (1 &&& 31)) (x5 + 1)))))
set_option maxRecDepth 100000 in
theorem t_X1_truth_18 {l : Launch} {X : g_X} {Y : g_Y} {p : Int32} {M : g_M} {k59 : Int32 → Int32 → Int32 → Option (Int32)} (C : g_C l (g_rm (0)) RX1 cX1_truth 6 X Y) (E : g_E (some .int) X Y (some (.int p)) M) (hk59 : ∀ (x1 : Int32) (x2 : Int32) (x3 : Int32), k59 x1 x2 x3 = some p → g_G 6 X Y 59 [(0, g_r Y 39), (1, .int x1), (2, .int x2), (3, .int x3)] [] M) (n : Nat) : ∀ (x1 : Int32) (x2 : Int32) (x3 : Int32) (x4 : Int32) (x5 : Int32), g_lq5 (F_X1_truth_18 M k59) n x1 x2 x3 x4 x5 = some p → g_G 6 X Y 18 [(0, g_r Y 39), (1, .int x1), (2, .int x2), (3, .int x3), (4, .int x4), (5, .int x5)] [] M := by
  induction n with
  | zero => intro x1 x2 x3 x4 x5 h; exact (g_nn h).elim
  | succ n ih =>
    intro x1 x2 x3 x4 x5 h
    have h : F_X1_truth_18 M k59 (g_lq5 (F_X1_truth_18 M k59) n) x1 x2 x3 x4 x5 = some p := h
    generalize g_lq5 (F_X1_truth_18 M k59) n = k at h ih
    unfold F_X1_truth_18 at h
    refine g_iload C 5 dX1_truth_18 (q := 20) rfl rfl ?_
    refine g_bipush C (v := 10) dX1_truth_20 (q := 22) rfl (by decide) ?_
    have hif := g_if h
    clear h
    refine g_icmp_ge C dX1_truth_22 (q := 25) (tgt := 59) rfl (by decide) (fun c => ?_) (fun c => ?_)
    · have h := hif.1 c
      clear hif
      refine g_sub [0, 1, 2, 3] (lv' := [(0, g_r Y 39), (1, .int x1), (2, .int x2), (3, .int x3)]) rfl ?_
      exact hk59 x1 x2 x3 h
    · have h := hif.2 c
      clear hif
      refine g_aload_n C 0 dX1_truth_25 (q := 26) rfl rfl rfl ?_
      refine g_get C (k := 39) (i := 1) (by decide) (gc_39 Y _ _) rfl kU_X1 (by decide) kF_X1_19 rfl dX1_truth_26 (q := 29) rfl ?_
      refine g_iload C 5 dX1_truth_29 (q := 31) rfl rfl ?_
      refine g_ishr C dX1_truth_31 (q := 32) rfl ?_
      refine g_iconst C (v := 1) dX1_truth_32 (q := 33) rfl (by decide) ?_
      refine g_iand C dX1_truth_33 (q := 34) rfl ?_
      have hif := g_if h
      clear h
      refine g_if_eq C dX1_truth_34 (q := 37) (tgt := 53) rfl (by decide) (fun c => ?_) (fun c => ?_)
      · have h := hif.1 c
        clear hif
        refine g_iinc C (k := 5) (v := x5 + 1) dX1_truth_53 (q := 56) rfl rfl rfl (by decide) (lv' := [(5, .int (x5 + 1)), (0, g_r Y 39), (1, .int x1), (2, .int x2), (3, .int x3), (4, .int x4)]) rfl ?_
        refine g_goto C dX1_truth_56 (tgt := 18) (by decide) ?_
        refine g_sub [1, 2, 3, 4, 5, 0] (lv' := [(0, g_r Y 39), (1, .int x1), (2, .int x2), (3, .int x3), (4, .int x4), (5, .int (x5 + 1))]) rfl ?_
        exact ih x1 x2 x3 x4 (x5 + 1) h
      · have h := hif.2 c
        clear hif
        refine g_iload_n C 3 dX1_truth_37 (q := 38) rfl rfl rfl ?_
        refine g_iload C 4 dX1_truth_38 (q := 40) rfl rfl ?_
        refine g_iconst C (v := 1) dX1_truth_40 (q := 41) rfl (by decide) ?_
        refine g_iand C dX1_truth_41 (q := 42) rfl ?_
        refine g_iload C 5 dX1_truth_42 (q := 44) rfl rfl ?_
        refine g_ishl C dX1_truth_44 (q := 45) rfl ?_
        refine g_ior C dX1_truth_45 (q := 46) rfl ?_
        obtain ⟨y1, hy1, h⟩ := g_bind h
        refine g_top hy1 ?_
        refine g_istore_n C dX1_truth_46 (q := 47) rfl rfl (by decide) (lv' := [(3, .int y1), (0, g_r Y 39), (1, .int x1), (2, .int x2), (4, .int x4), (5, .int x5)]) rfl ?_
        refine g_iload C 4 dX1_truth_47 (q := 49) rfl rfl ?_
        refine g_iconst C (v := 1) dX1_truth_49 (q := 50) rfl (by decide) ?_
        refine g_ishr C dX1_truth_50 (q := 51) rfl ?_
        refine g_istore C dX1_truth_51 (q := 53) rfl (by decide) (lv' := [(4, .int (x4 >>> (1 &&& 31))), (3, .int y1), (0, g_r Y 39), (1, .int x1), (2, .int x2), (5, .int x5)]) rfl ?_
        refine g_iinc C (k := 5) (v := x5 + 1) dX1_truth_53 (q := 56) rfl rfl rfl (by decide) (lv' := [(5, .int (x5 + 1)), (4, .int (x4 >>> (1 &&& 31))), (3, .int y1), (0, g_r Y 39), (1, .int x1), (2, .int x2)]) rfl ?_
        refine g_goto C dX1_truth_56 (tgt := 18) (by decide) ?_
        refine g_sub [3, 4, 5, 2, 1, 0] (lv' := [(0, g_r Y 39), (1, .int x1), (2, .int x2), (3, .int y1), (4, .int (x4 >>> (1 &&& 31))), (5, .int (x5 + 1))]) rfl ?_
        exact ih x1 x2 y1 (x4 >>> (1 &&& 31)) (x5 + 1) h
def F_X1_truth_4 (M : g_M) (k80 : Int32 → Option (Int32)) (k : Int32 → Int32 → Option (Int32)) (x1 : Int32) (x2 : Int32) : Option (Int32) :=
  (if 16 ≤ x2 then (k80 x1) else (g_lq5 (F_X1_truth_18 M (fun (x1 : Int32) (x2 : Int32) (x3 : Int32) => (g_ld M 40 1024 x3).bind fun v2 => (if v2 = 0 then (k x1 (x2 + 1)) else ((some (x1 ||| ((1 : Int32) <<< (x2 &&& 31)))).bind fun y3 => k y3 (x2 + 1))))) 20000000 x1 x2 0 x2 0))
set_option maxRecDepth 100000 in
theorem t_X1_truth_4 {l : Launch} {X : g_X} {Y : g_Y} {p : Int32} {M : g_M} {k80 : Int32 → Option (Int32)} (C : g_C l (g_rm (0)) RX1 cX1_truth 6 X Y) (E : g_E (some .int) X Y (some (.int p)) M) (hk80 : ∀ (x1 : Int32), k80 x1 = some p → g_G 6 X Y 80 [(1, .int x1)] [] M) (n : Nat) : ∀ (x1 : Int32) (x2 : Int32), g_lq2 (F_X1_truth_4 M k80) n x1 x2 = some p → g_G 6 X Y 4 [(0, g_r Y 39), (1, .int x1), (2, .int x2)] [] M := by
  induction n with
  | zero => intro x1 x2 h; exact (g_nn h).elim
  | succ n ih =>
    intro x1 x2 h
    have h : F_X1_truth_4 M k80 (g_lq2 (F_X1_truth_4 M k80) n) x1 x2 = some p := h
    generalize g_lq2 (F_X1_truth_4 M k80) n = k at h ih
    unfold F_X1_truth_4 at h
    refine g_iload_n C 2 dX1_truth_4 (q := 5) rfl rfl rfl ?_
    refine g_bipush C (v := 16) dX1_truth_5 (q := 7) rfl (by decide) ?_
    have hif := g_if h
    clear h
    refine g_icmp_ge C dX1_truth_7 (q := 10) (tgt := 80) rfl (by decide) (fun c => ?_) (fun c => ?_)
    · have h := hif.1 c
      clear hif
      refine g_sub [1] (lv' := [(1, .int x1)]) rfl ?_
      exact hk80 x1 h
    · have h := hif.2 c
      clear hif
      refine g_iconst C (v := 0) dX1_truth_10 (q := 11) rfl (by decide) ?_
      refine g_istore_n C dX1_truth_11 (q := 12) rfl rfl (by decide) (lv' := [(3, .int 0), (0, g_r Y 39), (1, .int x1), (2, .int x2)]) rfl ?_
      refine g_iload_n C 3 dX1_truth_12 (q := 13) rfl rfl rfl ?_
      refine g_istore C dX1_truth_13 (q := 15) rfl (by decide) (lv' := [(4, .int x2), (3, .int 0), (0, g_r Y 39), (1, .int x1), (2, .int x2)]) rfl ?_
      refine g_iconst C (v := 0) dX1_truth_15 (q := 16) rfl (by decide) ?_
      refine g_istore C dX1_truth_16 (q := 18) rfl (by decide) (lv' := [(5, .int 0), (4, .int x2), (3, .int 0), (0, g_r Y 39), (1, .int x1), (2, .int x2)]) rfl ?_
      refine g_sub [3, 4, 5, 2, 1, 0] (lv' := [(0, g_r Y 39), (1, .int x1), (2, .int x2), (3, .int 0), (4, .int x2), (5, .int 0)]) rfl ?_
      refine t_X1_truth_18 C E ?_ 20000000 x1 x2 0 x2 0 h
      · intro x1 x2 x3 h
        try dsimp only at h
        refine g_aload_n C 0 dX1_truth_59 (q := 60) rfl rfl rfl ?_
        refine g_get C (k := 39) (i := 0) (by decide) (gc_39 Y _ _) rfl kU_X1 (by decide) kF_X1_9 rfl dX1_truth_60 (q := 63) rfl ?_
        refine g_iload_n C 3 dX1_truth_63 (q := 64) rfl rfl rfl ?_
        obtain ⟨v2, hv2, h⟩ := g_bind h
        refine g_zald C (k := 40) (n := 1024) (by decide) (gc_40 Y _ _) hv2 dX1_truth_64 (q := 65) rfl ?_
        have hif := g_if h
        clear h
        refine g_if_eq C dX1_truth_65 (q := 68) (tgt := 74) rfl (by decide) (fun c => ?_) (fun c => ?_)
        · have h := hif.1 c
          clear hif
          refine g_iinc C (k := 2) (v := x2 + 1) dX1_truth_74 (q := 77) rfl rfl rfl (by decide) (lv' := [(2, .int (x2 + 1)), (0, g_r Y 39), (1, .int x1), (3, .int x3)]) rfl ?_
          refine g_goto C dX1_truth_77 (tgt := 4) (by decide) ?_
          refine g_sub [1, 2, 0] (lv' := [(0, g_r Y 39), (1, .int x1), (2, .int (x2 + 1))]) rfl ?_
          exact ih x1 (x2 + 1) h
        · have h := hif.2 c
          clear hif
          refine g_iload_n C 1 dX1_truth_68 (q := 69) rfl rfl rfl ?_
          refine g_iconst C (v := 1) dX1_truth_69 (q := 70) rfl (by decide) ?_
          refine g_iload_n C 2 dX1_truth_70 (q := 71) rfl rfl rfl ?_
          refine g_ishl C dX1_truth_71 (q := 72) rfl ?_
          refine g_ior C dX1_truth_72 (q := 73) rfl ?_
          obtain ⟨y3, hy3, h⟩ := g_bind h
          refine g_top hy3 ?_
          refine g_istore_n C dX1_truth_73 (q := 74) rfl rfl (by decide) (lv' := [(1, .int y3), (0, g_r Y 39), (2, .int x2), (3, .int x3)]) rfl ?_
          refine g_iinc C (k := 2) (v := x2 + 1) dX1_truth_74 (q := 77) rfl rfl rfl (by decide) (lv' := [(2, .int (x2 + 1)), (1, .int y3), (0, g_r Y 39), (3, .int x3)]) rfl ?_
          refine g_goto C dX1_truth_77 (tgt := 4) (by decide) ?_
          refine g_sub [2, 1, 0] (lv' := [(0, g_r Y 39), (1, .int y3), (2, .int (x2 + 1))]) rfl ?_
          exact ih y3 (x2 + 1) h
def f_X1_truth (M : g_M) : Option (Int32) :=
  g_lq2 (F_X1_truth_4 M (fun (x1 : Int32) => some x1)) 20000000 0 0
set_option maxRecDepth 100000 in
theorem m_X1_truth {l : Launch} {Y : g_Y} {M : g_M} {p : Int32} (h : f_X1_truth M = some p) : g_R l Y (0) yX1_truth cX1_truth 6 (some .int) [g_r Y 39] M (some (.int p)) M := by
  unfold f_X1_truth at h
  refine g_R_of kP_X1 rfl (Nat.le_of_ble_eq_true rfl) (fun X C E => ?_)
  show g_G 6 X Y 0 [(0, g_r Y 39)] [] M
  refine g_iconst C (v := 0) dX1_truth_0 (q := 1) rfl (by decide) ?_
  refine g_istore_n C dX1_truth_1 (q := 2) rfl rfl (by decide) (lv' := [(1, .int 0), (0, g_r Y 39)]) rfl ?_
  refine g_iconst C (v := 0) dX1_truth_2 (q := 3) rfl (by decide) ?_
  refine g_istore_n C dX1_truth_3 (q := 4) rfl rfl (by decide) (lv' := [(2, .int 0), (1, .int 0), (0, g_r Y 39)]) rfl ?_
  refine g_sub [2, 1, 0] (lv' := [(0, g_r Y 39), (1, .int 0), (2, .int 0)]) rfl ?_
  refine t_X1_truth_4 C E ?_ 20000000 0 0 h
  · intro x1 h
    try dsimp only at h
    refine g_iload_n C 0 dX1_truth_80 (q := 81) rfl rfl rfl ?_
    obtain rfl := Option.some.inj h
    exact g_iret C E dX1_truth_81
def f_X3_addTruth (x1 : Int32) (M : g_M) : Option (g_M) :=
  (some ((1 : Int64) <<< (Int32.toInt64 (x1 &&& 63) &&& 63))).bind fun y1 => (if x1 = 0 then (some M) else ((g_ldl M 49 1024 (x1 >>> (6 &&& 31))).bind fun v2 => (if (lg_cmp (v2 &&& y1) 0) = 0 then ((if (M.1 46 3) < 166 then ((g_ldl M 49 1024 (x1 >>> (6 &&& 31))).bind fun v3 => (g_stl M 49 1024 (x1 >>> (6 &&& 31)) (v3 ||| y1)).bind fun M4 => (g_st M4 47 166 (M4.1 46 3) x1).bind fun M5 => (some (g_u M5 46 3 ((M5.1 46 3) + 1))).bind fun M6 => some M6) else (some M))) else (some M))))
set_option maxRecDepth 100000 in
theorem m_X3_addTruth {l : Launch} {Y : g_Y} {x1 : Int32} {M : g_M} {p : g_M} (h : f_X3_addTruth x1 M = some p) : g_R l Y (0) yX3_addTruth cX3_addTruth 4 none [g_r Y 46, .int x1] M none p := by
  unfold f_X3_addTruth at h
  refine g_R_of kP_X3 rfl (Nat.le_of_ble_eq_true rfl) (fun X C E => ?_)
  show g_G 4 X Y 0 [(0, g_r Y 46), (1, .int x1)] [] M
  refine g_lconst C (v := 1) dX3_addTruth_0 (q := 1) rfl (by decide) ?_
  refine g_iload_n C 1 dX3_addTruth_1 (q := 2) rfl rfl rfl ?_
  refine g_bipush C (v := 63) dX3_addTruth_2 (q := 4) rfl (by decide) ?_
  refine g_iand C dX3_addTruth_4 (q := 5) rfl ?_
  refine g_lshl C dX3_addTruth_5 (q := 6) rfl ?_
  obtain ⟨y1, hy1, h⟩ := g_bind h
  refine g_topl hy1 ?_
  refine g_lstore_n C dX3_addTruth_6 (q := 7) rfl rfl (by decide) (lv' := [(2, .long y1), (0, g_r Y 46), (1, .int x1)]) rfl ?_
  refine g_iload_n C 2 dX3_addTruth_7 (q := 8) rfl rfl rfl ?_
  have hif := g_if h
  clear h
  refine g_if_eq C dX3_addTruth_8 (q := 11) (tgt := 37) rfl (by decide) (fun c => ?_) (fun c => ?_)
  · have h := hif.1 c
    clear hif
    obtain rfl := Option.some.inj h
    exact g_vret C E dX3_addTruth_37
  · have h := hif.2 c
    clear hif
    refine g_aload_n C 1 dX3_addTruth_11 (q := 12) rfl rfl rfl ?_
    refine g_get C (k := 46) (i := 2) (by decide) (gc_46 Y _ _) rfl kU_X3 (by decide) kF_X3_16 rfl dX3_addTruth_12 (q := 15) rfl ?_
    refine g_iload_n C 2 dX3_addTruth_15 (q := 16) rfl rfl rfl ?_
    refine g_bipush C (v := 6) dX3_addTruth_16 (q := 18) rfl (by decide) ?_
    refine g_ishr C dX3_addTruth_18 (q := 19) rfl ?_
    obtain ⟨v2, hv2, h⟩ := g_bind h
    refine g_lald C (k := 49) (n := 1024) (by decide) (gc_49 Y _ _) hv2 dX3_addTruth_19 (q := 20) rfl ?_
    refine g_lload_n C 0 dX3_addTruth_20 (q := 21) rfl rfl rfl ?_
    refine g_land C dX3_addTruth_21 (q := 22) rfl ?_
    refine g_lconst C (v := 0) dX3_addTruth_22 (q := 23) rfl (by decide) ?_
    refine g_lcmp C dX3_addTruth_23 (q := 24) rfl ?_
    have hif := g_if h
    clear h
    refine g_if_ne C dX3_addTruth_24 (q := 27) (tgt := 37) rfl (by decide) (fun c => ?_) (fun c => ?_)
    · have h := hif.2 c
      clear hif
      obtain rfl := Option.some.inj h
      exact g_vret C E dX3_addTruth_37
    · have h := hif.1 c
      clear hif
      refine g_aload_n C 1 dX3_addTruth_27 (q := 28) rfl rfl rfl ?_
      refine g_get C (k := 46) (i := 3) (by decide) (gc_46 Y _ _) rfl kU_X3 (by decide) kF_X3_39 rfl dX3_addTruth_28 (q := 31) rfl ?_
      refine g_sipush C (v := 166) dX3_addTruth_31 (q := 34) rfl (by decide) ?_
      have hif := g_if h
      clear h
      refine g_icmp_lt C dX3_addTruth_34 (q := 37) (tgt := 38) rfl (by decide) (fun c => ?_) (fun c => ?_)
      · have h := hif.1 c
        clear hif
        refine g_aload_n C 1 dX3_addTruth_38 (q := 39) rfl rfl rfl ?_
        refine g_get C (k := 46) (i := 2) (by decide) (gc_46 Y _ _) rfl kU_X3 (by decide) kF_X3_16 rfl dX3_addTruth_39 (q := 42) rfl ?_
        refine g_iload_n C 2 dX3_addTruth_42 (q := 43) rfl rfl rfl ?_
        refine g_bipush C (v := 6) dX3_addTruth_43 (q := 45) rfl (by decide) ?_
        refine g_ishr C dX3_addTruth_45 (q := 46) rfl ?_
        refine g_dup2 C dX3_addTruth_46 (q := 47) rfl rfl rfl ?_
        obtain ⟨v3, hv3, h⟩ := g_bind h
        refine g_lald C (k := 49) (n := 1024) (by decide) (gc_49 Y _ _) hv3 dX3_addTruth_47 (q := 48) rfl ?_
        refine g_lload_n C 0 dX3_addTruth_48 (q := 49) rfl rfl rfl ?_
        refine g_lor C dX3_addTruth_49 (q := 50) rfl ?_
        obtain ⟨M4, hM4, h⟩ := g_bind h
        refine g_last C (k := 49) (n := 1024) (by decide) (fun b => gc_49 Y _ b) hM4 dX3_addTruth_50 (q := 51) rfl ?_
        refine g_aload_n C 1 dX3_addTruth_51 (q := 52) rfl rfl rfl ?_
        refine g_get C (k := 46) (i := 0) (by decide) (gc_46 Y _ _) rfl kU_X3 (by decide) kF_X3_9 rfl dX3_addTruth_52 (q := 55) rfl ?_
        refine g_aload_n C 1 dX3_addTruth_55 (q := 56) rfl rfl rfl ?_
        refine g_get C (k := 46) (i := 3) (by decide) (gc_46 Y _ _) rfl kU_X3 (by decide) kF_X3_39 rfl dX3_addTruth_56 (q := 59) rfl ?_
        refine g_iload_n C 2 dX3_addTruth_59 (q := 60) rfl rfl rfl ?_
        obtain ⟨M5, hM5, h⟩ := g_bind h
        refine g_iast C (k := 47) (n := 166) (by decide) (fun a => gc_47 Y a _) hM5 dX3_addTruth_60 (q := 61) rfl ?_
        refine g_aload_n C 1 dX3_addTruth_61 (q := 62) rfl rfl rfl ?_
        refine g_dup C dX3_addTruth_62 (q := 63) rfl rfl ?_
        refine g_get C (k := 46) (i := 3) (by decide) (gc_46 Y _ _) rfl kU_X3 (by decide) kF_X3_39 rfl dX3_addTruth_63 (q := 66) rfl ?_
        refine g_iconst C (v := 1) dX3_addTruth_66 (q := 67) rfl (by decide) ?_
        refine g_iadd C dX3_addTruth_67 (q := 68) rfl ?_
        obtain ⟨M6, hM6, h⟩ := g_bind h
        refine g_put C (k := 46) (i := 3) (ty := .int) (by decide) (gc_46 Y _ _) (gp_46_3 Y _ _ _) rfl kU_X3 tyX3_ok nmX3 (by decide) kF_X3_39 rfl rfl rfl rfl (Nat.le_of_ble_eq_true rfl) dX3_addTruth_68 (q := 71) rfl ?_
        refine g_mem hM6 ?_
        obtain rfl := Option.some.inj h
        exact g_vret C E dX3_addTruth_71
      · have h := hif.2 c
        clear hif
        obtain rfl := Option.some.inj h
        exact g_vret C E dX3_addTruth_37
theorem r_X3_addTruth {x1 : Int32} {M : g_M} {p : g_M} (h : f_X3_addTruth x1 M = some p) : g_fr [47, 49] [(46, 3)] M p := by
  unfold f_X3_addTruth at h
  have hf := g_fr.rfl (S := [47, 49]) (T := [(46, 3)]) (M := M)
  obtain ⟨y1, -, h⟩ := g_bind h
  rcases g_ifs h with h | h
  · obtain rfl := Option.some.inj h
    exact hf
  · obtain ⟨v2, -, h⟩ := g_bind h
    rcases g_ifs h with h | h
    · rcases g_ifs h with h | h
      · obtain ⟨v3, -, h⟩ := g_bind h
        obtain ⟨M4, hM4, h⟩ := g_bind h
        have hf := hf.stl hM4 (by decide)
        obtain ⟨M5, hM5, h⟩ := g_bind h
        have hf := hf.st hM5 (by decide)
        obtain ⟨M6, hM6, h⟩ := g_bind h
        have hf := hf.pu hM6 (by decide)
        obtain rfl := Option.some.inj h
        exact hf
      · obtain rfl := Option.some.inj h
        exact hf
    · obtain rfl := Option.some.inj h
      exact hf
def F_X3_joinAll_27 (k82 : Int32 → Int32 → Int32 → g_M → Option (g_M)) (k : Int32 → Int32 → Int32 → Int32 → g_M → Option (g_M)) (x1 : Int32) (x2 : Int32) (x3 : Int32) (x4 : Int32) (M : g_M) : Option (g_M) :=
  (g_ld M 48 18 (x2 + 1)).bind fun v4 => (if v4 ≤ x4 then (k82 x1 x2 x3 M) else ((g_ld M 47 166 x3).bind fun v5 => (g_ld M 47 166 x4).bind fun v6 => (f_X3_addTruth (v5 ||| v6) M).bind fun p7 => (g_ld p7 47 166 x3).bind fun v8 => (g_ld p7 47 166 x4).bind fun v9 => (f_X3_addTruth (v8 &&& v9) p7).bind fun p10 => k x1 x2 x3 (x4 + 1) p10))
set_option maxRecDepth 100000 in
theorem t_X3_joinAll_27 {l : Launch} {X : g_X} {Y : g_Y} {p : g_M} {k82 : Int32 → Int32 → Int32 → g_M → Option (g_M)} (C : g_C l (g_rm (1)) RX3 cX3_joinAll 5 X Y) (E : g_E none X Y none p) (hk82 : ∀ (x1 : Int32) (x2 : Int32) (x3 : Int32) (M : g_M), k82 x1 x2 x3 M = some p → g_G 5 X Y 82 [(0, g_r Y 46), (1, .int x1), (2, .int x2), (3, .int x3)] [] M) (n : Nat) : ∀ (x1 : Int32) (x2 : Int32) (x3 : Int32) (x4 : Int32) (M : g_M), g_lp4 (F_X3_joinAll_27 k82) n x1 x2 x3 x4 M = some p → g_G 5 X Y 27 [(0, g_r Y 46), (1, .int x1), (2, .int x2), (3, .int x3), (4, .int x4)] [] M := by
  induction n with
  | zero => intro x1 x2 x3 x4 M h; exact (g_nn h).elim
  | succ n ih =>
    intro x1 x2 x3 x4 M h
    have h : F_X3_joinAll_27 k82 (g_lp4 (F_X3_joinAll_27 k82) n) x1 x2 x3 x4 M = some p := h
    generalize g_lp4 (F_X3_joinAll_27 k82) n = k at h ih
    unfold F_X3_joinAll_27 at h
    refine g_iload C 4 dX3_joinAll_27 (q := 29) rfl rfl ?_
    refine g_aload_n C 0 dX3_joinAll_29 (q := 30) rfl rfl rfl ?_
    refine g_get C (k := 46) (i := 1) (by decide) (gc_46 Y _ _) rfl kU_X3 (by decide) kF_X3_13 rfl dX3_joinAll_30 (q := 33) rfl ?_
    refine g_iload_n C 2 dX3_joinAll_33 (q := 34) rfl rfl rfl ?_
    refine g_iconst C (v := 1) dX3_joinAll_34 (q := 35) rfl (by decide) ?_
    refine g_iadd C dX3_joinAll_35 (q := 36) rfl ?_
    obtain ⟨v4, hv4, h⟩ := g_bind h
    refine g_iald C (k := 48) (n := 18) (by decide) (gc_48 Y _ _) hv4 dX3_joinAll_36 (q := 37) rfl ?_
    have hif := g_if h
    clear h
    refine g_icmp_ge C dX3_joinAll_37 (q := 40) (tgt := 82) rfl (by decide) (fun c => ?_) (fun c => ?_)
    · have h := hif.1 c
      clear hif
      refine g_sub [0, 1, 2, 3] (lv' := [(0, g_r Y 46), (1, .int x1), (2, .int x2), (3, .int x3)]) rfl ?_
      exact hk82 x1 x2 x3 M h
    · have h := hif.2 c
      clear hif
      refine g_aload_n C 0 dX3_joinAll_40 (q := 41) rfl rfl rfl ?_
      refine g_aload_n C 0 dX3_joinAll_41 (q := 42) rfl rfl rfl ?_
      refine g_get C (k := 46) (i := 0) (by decide) (gc_46 Y _ _) rfl kU_X3 (by decide) kF_X3_9 rfl dX3_joinAll_42 (q := 45) rfl ?_
      refine g_iload_n C 3 dX3_joinAll_45 (q := 46) rfl rfl rfl ?_
      obtain ⟨v5, hv5, h⟩ := g_bind h
      refine g_iald C (k := 47) (n := 166) (by decide) (gc_47 Y _ _) hv5 dX3_joinAll_46 (q := 47) rfl ?_
      refine g_aload_n C 0 dX3_joinAll_47 (q := 48) rfl rfl rfl ?_
      refine g_get C (k := 46) (i := 0) (by decide) (gc_46 Y _ _) rfl kU_X3 (by decide) kF_X3_9 rfl dX3_joinAll_48 (q := 51) rfl ?_
      refine g_iload C 4 dX3_joinAll_51 (q := 53) rfl rfl ?_
      obtain ⟨v6, hv6, h⟩ := g_bind h
      refine g_iald C (k := 47) (n := 166) (by decide) (gc_47 Y _ _) hv6 dX3_joinAll_53 (q := 54) rfl ?_
      refine g_ior C dX3_joinAll_54 (q := 55) rfl ?_
      obtain ⟨p7, hp7, h⟩ := g_bind h
      refine g_callV C (k := 46) (as := [.int (v5 ||| v6)]) (st := []) (m_X3_addTruth hp7) (g_hR (by decide)) (by decide) (by decide) (gc_46 Y _ _) rfl kM_X3_29 kI_X3_addTruth kS_X3_addTruth kN_X3 kC_X3_addTruth kD_X3_addTruth rfl (Nat.le_of_ble_eq_true rfl) dX3_joinAll_55 (q := 58) rfl ?_
      show g_G 5 X Y 58 [(0, g_r Y 46), (1, .int x1), (2, .int x2), (3, .int x3), (4, .int x4)] [] p7
      refine g_aload_n C 0 dX3_joinAll_58 (q := 59) rfl rfl rfl ?_
      refine g_aload_n C 0 dX3_joinAll_59 (q := 60) rfl rfl rfl ?_
      refine g_get C (k := 46) (i := 0) (by decide) (gc_46 Y _ _) rfl kU_X3 (by decide) kF_X3_9 rfl dX3_joinAll_60 (q := 63) rfl ?_
      refine g_iload_n C 3 dX3_joinAll_63 (q := 64) rfl rfl rfl ?_
      obtain ⟨v8, hv8, h⟩ := g_bind h
      refine g_iald C (k := 47) (n := 166) (by decide) (gc_47 Y _ _) hv8 dX3_joinAll_64 (q := 65) rfl ?_
      refine g_aload_n C 0 dX3_joinAll_65 (q := 66) rfl rfl rfl ?_
      refine g_get C (k := 46) (i := 0) (by decide) (gc_46 Y _ _) rfl kU_X3 (by decide) kF_X3_9 rfl dX3_joinAll_66 (q := 69) rfl ?_
      refine g_iload C 4 dX3_joinAll_69 (q := 71) rfl rfl ?_
      obtain ⟨v9, hv9, h⟩ := g_bind h
      refine g_iald C (k := 47) (n := 166) (by decide) (gc_47 Y _ _) hv9 dX3_joinAll_71 (q := 72) rfl ?_
      refine g_iand C dX3_joinAll_72 (q := 73) rfl ?_
      obtain ⟨p10, hp10, h⟩ := g_bind h
      refine g_callV C (k := 46) (as := [.int (v8 &&& v9)]) (st := []) (m_X3_addTruth hp10) (g_hR (by decide)) (by decide) (by decide) (gc_46 Y _ _) rfl kM_X3_29 kI_X3_addTruth kS_X3_addTruth kN_X3 kC_X3_addTruth kD_X3_addTruth rfl (Nat.le_of_ble_eq_true rfl) dX3_joinAll_73 (q := 76) rfl ?_
      show g_G 5 X Y 76 [(0, g_r Y 46), (1, .int x1), (2, .int x2), (3, .int x3), (4, .int x4)] [] p10
      refine g_iinc C (k := 4) (v := x4 + 1) dX3_joinAll_76 (q := 79) rfl rfl rfl (by decide) (lv' := [(4, .int (x4 + 1)), (0, g_r Y 46), (1, .int x1), (2, .int x2), (3, .int x3)]) rfl ?_
      refine g_goto C dX3_joinAll_79 (tgt := 27) (by decide) ?_
      refine g_sub [1, 2, 3, 4, 0] (lv' := [(0, g_r Y 46), (1, .int x1), (2, .int x2), (3, .int x3), (4, .int (x4 + 1))]) rfl ?_
      exact ih x1 x2 x3 (x4 + 1) p10 h
theorem r_X3_joinAll_27 {p : g_M} {k82 : Int32 → Int32 → Int32 → g_M → Option (g_M)} (hk82 : ∀ (x1 : Int32) (x2 : Int32) (x3 : Int32) (M : g_M), k82 x1 x2 x3 M = some p → g_fr [47, 49] [(46, 3)] M p) (n : Nat) : ∀ (x1 : Int32) (x2 : Int32) (x3 : Int32) (x4 : Int32) (M : g_M), g_lp4 (F_X3_joinAll_27 k82) n x1 x2 x3 x4 M = some p → g_fr [47, 49] [(46, 3)] M p := by
  induction n with
  | zero => intro x1 x2 x3 x4 M h; exact (g_nn h).elim
  | succ n ih =>
    intro x1 x2 x3 x4 M h
    have h : F_X3_joinAll_27 k82 (g_lp4 (F_X3_joinAll_27 k82) n) x1 x2 x3 x4 M = some p := h
    generalize g_lp4 (F_X3_joinAll_27 k82) n = k at h ih
    unfold F_X3_joinAll_27 at h
    have hf := g_fr.rfl (S := [47, 49]) (T := [(46, 3)]) (M := M)
    obtain ⟨v4, -, h⟩ := g_bind h
    rcases g_ifs h with h | h
    · exact hf.trans (hk82 x1 x2 x3 M h)
    · obtain ⟨v5, -, h⟩ := g_bind h
      obtain ⟨v6, -, h⟩ := g_bind h
      obtain ⟨p7, hp7, h⟩ := g_bind h
      have hf := hf.trans ((r_X3_addTruth hp7).mono (by decide) (by decide))
      obtain ⟨v8, -, h⟩ := g_bind h
      obtain ⟨v9, -, h⟩ := g_bind h
      obtain ⟨p10, hp10, h⟩ := g_bind h
      have hf := hf.trans ((r_X3_addTruth hp10).mono (by decide) (by decide))
      exact hf.trans (ih x1 x2 x3 (x4 + 1) p10 h)
def F_X3_joinAll_7 (k88 : g_M → Option (g_M)) (k : Int32 → Int32 → Int32 → g_M → Option (g_M)) (x1 : Int32) (x2 : Int32) (x3 : Int32) (M : g_M) : Option (g_M) :=
  (g_ld M 48 18 (x1 + 1)).bind fun v2 => (if v2 ≤ x3 then (k88 M) else ((g_ld M 48 18 x2).bind fun v3 => g_lp4 (F_X3_joinAll_27 (fun (x1 : Int32) (x2 : Int32) (x3 : Int32) (M : g_M) => k x1 x2 (x3 + 1) M)) 20000000 x1 x2 x3 v3 M))
set_option maxRecDepth 100000 in
theorem t_X3_joinAll_7 {l : Launch} {X : g_X} {Y : g_Y} {p : g_M} {k88 : g_M → Option (g_M)} (C : g_C l (g_rm (1)) RX3 cX3_joinAll 5 X Y) (E : g_E none X Y none p) (hk88 : ∀ (M : g_M), k88 M = some p → g_G 5 X Y 88 [] [] M) (n : Nat) : ∀ (x1 : Int32) (x2 : Int32) (x3 : Int32) (M : g_M), g_lp3 (F_X3_joinAll_7 k88) n x1 x2 x3 M = some p → g_G 5 X Y 7 [(0, g_r Y 46), (1, .int x1), (2, .int x2), (3, .int x3)] [] M := by
  induction n with
  | zero => intro x1 x2 x3 M h; exact (g_nn h).elim
  | succ n ih =>
    intro x1 x2 x3 M h
    have h : F_X3_joinAll_7 k88 (g_lp3 (F_X3_joinAll_7 k88) n) x1 x2 x3 M = some p := h
    generalize g_lp3 (F_X3_joinAll_7 k88) n = k at h ih
    unfold F_X3_joinAll_7 at h
    refine g_iload_n C 3 dX3_joinAll_7 (q := 8) rfl rfl rfl ?_
    refine g_aload_n C 0 dX3_joinAll_8 (q := 9) rfl rfl rfl ?_
    refine g_get C (k := 46) (i := 1) (by decide) (gc_46 Y _ _) rfl kU_X3 (by decide) kF_X3_13 rfl dX3_joinAll_9 (q := 12) rfl ?_
    refine g_iload_n C 1 dX3_joinAll_12 (q := 13) rfl rfl rfl ?_
    refine g_iconst C (v := 1) dX3_joinAll_13 (q := 14) rfl (by decide) ?_
    refine g_iadd C dX3_joinAll_14 (q := 15) rfl ?_
    obtain ⟨v2, hv2, h⟩ := g_bind h
    refine g_iald C (k := 48) (n := 18) (by decide) (gc_48 Y _ _) hv2 dX3_joinAll_15 (q := 16) rfl ?_
    have hif := g_if h
    clear h
    refine g_icmp_ge C dX3_joinAll_16 (q := 19) (tgt := 88) rfl (by decide) (fun c => ?_) (fun c => ?_)
    · have h := hif.1 c
      clear hif
      refine g_sub [] (lv' := []) rfl ?_
      exact hk88 M h
    · have h := hif.2 c
      clear hif
      refine g_aload_n C 0 dX3_joinAll_19 (q := 20) rfl rfl rfl ?_
      refine g_get C (k := 46) (i := 1) (by decide) (gc_46 Y _ _) rfl kU_X3 (by decide) kF_X3_13 rfl dX3_joinAll_20 (q := 23) rfl ?_
      refine g_iload_n C 2 dX3_joinAll_23 (q := 24) rfl rfl rfl ?_
      obtain ⟨v3, hv3, h⟩ := g_bind h
      refine g_iald C (k := 48) (n := 18) (by decide) (gc_48 Y _ _) hv3 dX3_joinAll_24 (q := 25) rfl ?_
      refine g_istore C dX3_joinAll_25 (q := 27) rfl (by decide) (lv' := [(4, .int v3), (0, g_r Y 46), (1, .int x1), (2, .int x2), (3, .int x3)]) rfl ?_
      refine g_sub [1, 2, 3, 4, 0] (lv' := [(0, g_r Y 46), (1, .int x1), (2, .int x2), (3, .int x3), (4, .int v3)]) rfl ?_
      refine t_X3_joinAll_27 C E ?_ 20000000 x1 x2 x3 v3 M h
      · intro x1 x2 x3 M h
        try dsimp only at h
        refine g_iinc C (k := 3) (v := x3 + 1) dX3_joinAll_82 (q := 85) rfl rfl rfl (by decide) (lv' := [(3, .int (x3 + 1)), (0, g_r Y 46), (1, .int x1), (2, .int x2)]) rfl ?_
        refine g_goto C dX3_joinAll_85 (tgt := 7) (by decide) ?_
        refine g_sub [1, 2, 3, 0] (lv' := [(0, g_r Y 46), (1, .int x1), (2, .int x2), (3, .int (x3 + 1))]) rfl ?_
        exact ih x1 x2 (x3 + 1) M h
theorem r_X3_joinAll_7 {p : g_M} {k88 : g_M → Option (g_M)} (hk88 : ∀ (M : g_M), k88 M = some p → g_fr [47, 49] [(46, 3)] M p) (n : Nat) : ∀ (x1 : Int32) (x2 : Int32) (x3 : Int32) (M : g_M), g_lp3 (F_X3_joinAll_7 k88) n x1 x2 x3 M = some p → g_fr [47, 49] [(46, 3)] M p := by
  induction n with
  | zero => intro x1 x2 x3 M h; exact (g_nn h).elim
  | succ n ih =>
    intro x1 x2 x3 M h
    have h : F_X3_joinAll_7 k88 (g_lp3 (F_X3_joinAll_7 k88) n) x1 x2 x3 M = some p := h
    generalize g_lp3 (F_X3_joinAll_7 k88) n = k at h ih
    unfold F_X3_joinAll_7 at h
    have hf := g_fr.rfl (S := [47, 49]) (T := [(46, 3)]) (M := M)
    obtain ⟨v2, -, h⟩ := g_bind h
    rcases g_ifs h with h | h
    · exact hf.trans (hk88 M h)
    · obtain ⟨v3, -, h⟩ := g_bind h
      refine hf.trans (r_X3_joinAll_27 ?_ 20000000 x1 x2 x3 v3 M h)
      · intro x1 x2 x3 M h
        try dsimp only at h
        have hf := g_fr.rfl (S := [47, 49]) (T := [(46, 3)]) (M := M)
        exact hf.trans (ih x1 x2 (x3 + 1) M h)
def f_X3_joinAll (x1 : Int32) (x2 : Int32) (M : g_M) : Option (g_M) :=
  (g_ld M 48 18 x1).bind fun v1 => g_lp3 (F_X3_joinAll_7 (fun (M : g_M) => some M)) 20000000 x1 x2 v1 M
set_option maxRecDepth 100000 in
theorem m_X3_joinAll {l : Launch} {Y : g_Y} {x1 : Int32} {x2 : Int32} {M : g_M} {p : g_M} (h : f_X3_joinAll x1 x2 M = some p) : g_R l Y (1) yX3_joinAll cX3_joinAll 5 none [g_r Y 46, .int x1, .int x2] M none p := by
  unfold f_X3_joinAll at h
  refine g_R_of kP_X3 rfl (Nat.le_of_ble_eq_true rfl) (fun X C E => ?_)
  show g_G 5 X Y 0 [(0, g_r Y 46), (1, .int x1), (2, .int x2)] [] M
  refine g_aload_n C 0 dX3_joinAll_0 (q := 1) rfl rfl rfl ?_
  refine g_get C (k := 46) (i := 1) (by decide) (gc_46 Y _ _) rfl kU_X3 (by decide) kF_X3_13 rfl dX3_joinAll_1 (q := 4) rfl ?_
  refine g_iload_n C 1 dX3_joinAll_4 (q := 5) rfl rfl rfl ?_
  obtain ⟨v1, hv1, h⟩ := g_bind h
  refine g_iald C (k := 48) (n := 18) (by decide) (gc_48 Y _ _) hv1 dX3_joinAll_5 (q := 6) rfl ?_
  refine g_istore_n C dX3_joinAll_6 (q := 7) rfl rfl (by decide) (lv' := [(3, .int v1), (0, g_r Y 46), (1, .int x1), (2, .int x2)]) rfl ?_
  refine g_sub [1, 2, 3, 0] (lv' := [(0, g_r Y 46), (1, .int x1), (2, .int x2), (3, .int v1)]) rfl ?_
  refine t_X3_joinAll_7 C E ?_ 20000000 x1 x2 v1 M h
  · intro M h
    try dsimp only at h
    obtain rfl := Option.some.inj h
    exact g_vret C E dX3_joinAll_88
theorem r_X3_joinAll {x1 : Int32} {x2 : Int32} {M : g_M} {p : g_M} (h : f_X3_joinAll x1 x2 M = some p) : g_fr [47, 49] [(46, 3)] M p := by
  unfold f_X3_joinAll at h
  have hf := g_fr.rfl (S := [47, 49]) (T := [(46, 3)]) (M := M)
  obtain ⟨v1, -, h⟩ := g_bind h
  refine hf.trans (r_X3_joinAll_7 ?_ 20000000 x1 x2 v1 M h)
  · intro M h
    try dsimp only at h
    have hf := g_fr.rfl (S := [47, 49]) (T := [(46, 3)]) (M := M)
    obtain rfl := Option.some.inj h
    exact hf
def F_X3_hangAll_31 (k52 : Int32 → g_M → Option (g_M)) (k : Int32 → Int32 → g_M → Option (g_M)) (x1 : Int32) (x2 : Int32) (M : g_M) : Option (g_M) :=
  (g_nz 2).bind fun z1 => (if (x1 / z1) < x2 then (k52 x1 M) else ((f_X3_joinAll x2 (x1 - x2) M).bind fun p2 => k x1 (x2 + 1) p2))
set_option maxRecDepth 100000 in
theorem t_X3_hangAll_31 {l : Launch} {X : g_X} {Y : g_Y} {p : g_M} {k52 : Int32 → g_M → Option (g_M)} (C : g_C l (g_rm (2)) RX3 cX3_hangAll 3 X Y) (E : g_E none X Y none p) (hk52 : ∀ (x1 : Int32) (M : g_M), k52 x1 M = some p → g_G 3 X Y 52 [(0, g_r Y 46), (1, .int x1)] [] M) (n : Nat) : ∀ (x1 : Int32) (x2 : Int32) (M : g_M), g_lp2 (F_X3_hangAll_31 k52) n x1 x2 M = some p → g_G 3 X Y 31 [(0, g_r Y 46), (1, .int x1), (2, .int x2)] [] M := by
  induction n with
  | zero => intro x1 x2 M h; exact (g_nn h).elim
  | succ n ih =>
    intro x1 x2 M h
    have h : F_X3_hangAll_31 k52 (g_lp2 (F_X3_hangAll_31 k52) n) x1 x2 M = some p := h
    generalize g_lp2 (F_X3_hangAll_31 k52) n = k at h ih
    unfold F_X3_hangAll_31 at h
    refine g_iload_n C 2 dX3_hangAll_31 (q := 32) rfl rfl rfl ?_
    refine g_iload_n C 1 dX3_hangAll_32 (q := 33) rfl rfl rfl ?_
    refine g_iconst C (v := 2) dX3_hangAll_33 (q := 34) rfl (by decide) ?_
    obtain ⟨z1, hz1, h⟩ := g_bind h
    refine g_idiv C (z := z1) dX3_hangAll_34 (q := 35) rfl hz1 ?_
    have hif := g_if h
    clear h
    refine g_icmp_gt C dX3_hangAll_35 (q := 38) (tgt := 52) rfl (by decide) (fun c => ?_) (fun c => ?_)
    · have h := hif.1 c
      clear hif
      refine g_sub [0, 1] (lv' := [(0, g_r Y 46), (1, .int x1)]) rfl ?_
      exact hk52 x1 M h
    · have h := hif.2 c
      clear hif
      refine g_aload_n C 0 dX3_hangAll_38 (q := 39) rfl rfl rfl ?_
      refine g_iload_n C 2 dX3_hangAll_39 (q := 40) rfl rfl rfl ?_
      refine g_iload_n C 1 dX3_hangAll_40 (q := 41) rfl rfl rfl ?_
      refine g_iload_n C 2 dX3_hangAll_41 (q := 42) rfl rfl rfl ?_
      refine g_isub C dX3_hangAll_42 (q := 43) rfl ?_
      obtain ⟨p2, hp2, h⟩ := g_bind h
      refine g_callV C (k := 46) (as := [.int x2, .int (x1 - x2)]) (st := []) (m_X3_joinAll hp2) (g_hR (by decide)) (by decide) (by decide) (gc_46 Y _ _) rfl kM_X3_35 kI_X3_joinAll kS_X3_joinAll kN_X3 kC_X3_joinAll kD_X3_joinAll rfl (Nat.le_of_ble_eq_true rfl) dX3_hangAll_43 (q := 46) rfl ?_
      show g_G 3 X Y 46 [(0, g_r Y 46), (1, .int x1), (2, .int x2)] [] p2
      refine g_iinc C (k := 2) (v := x2 + 1) dX3_hangAll_46 (q := 49) rfl rfl rfl (by decide) (lv' := [(2, .int (x2 + 1)), (0, g_r Y 46), (1, .int x1)]) rfl ?_
      refine g_goto C dX3_hangAll_49 (tgt := 31) (by decide) ?_
      refine g_sub [1, 2, 0] (lv' := [(0, g_r Y 46), (1, .int x1), (2, .int (x2 + 1))]) rfl ?_
      exact ih x1 (x2 + 1) p2 h
theorem r_X3_hangAll_31 {p : g_M} {k52 : Int32 → g_M → Option (g_M)} (hk52 : ∀ (x1 : Int32) (M : g_M), k52 x1 M = some p → g_fr [47, 48, 49] [(46, 3), (46, 4)] M p) (n : Nat) : ∀ (x1 : Int32) (x2 : Int32) (M : g_M), g_lp2 (F_X3_hangAll_31 k52) n x1 x2 M = some p → g_fr [47, 48, 49] [(46, 3), (46, 4)] M p := by
  induction n with
  | zero => intro x1 x2 M h; exact (g_nn h).elim
  | succ n ih =>
    intro x1 x2 M h
    have h : F_X3_hangAll_31 k52 (g_lp2 (F_X3_hangAll_31 k52) n) x1 x2 M = some p := h
    generalize g_lp2 (F_X3_hangAll_31 k52) n = k at h ih
    unfold F_X3_hangAll_31 at h
    have hf := g_fr.rfl (S := [47, 48, 49]) (T := [(46, 3), (46, 4)]) (M := M)
    obtain ⟨z1, -, h⟩ := g_bind h
    rcases g_ifs h with h | h
    · exact hf.trans (hk52 x1 M h)
    · obtain ⟨p2, hp2, h⟩ := g_bind h
      have hf := hf.trans ((r_X3_joinAll hp2).mono (by decide) (by decide))
      exact hf.trans (ih x1 (x2 + 1) p2 h)
def f_X3_hangAll (x1 : Int32) (M : g_M) : Option (g_M) :=
  (if x1 = 1 then ((f_X3_addTruth 43690 M).bind fun p5 => (f_X3_addTruth 52428 p5).bind fun p6 => (f_X3_addTruth 61680 p6).bind fun p7 => (f_X3_addTruth 65280 p7).bind fun p8 => g_lp2 (F_X3_hangAll_31 (fun (x1 : Int32) (M : g_M) => (g_st M 48 18 (x1 + 1) (M.1 46 3)).bind fun M9 => (some (g_u M9 46 4 x1)).bind fun M10 => some M10)) 20000000 x1 1 p8) else (g_lp2 (F_X3_hangAll_31 (fun (x1 : Int32) (M : g_M) => (g_st M 48 18 (x1 + 1) (M.1 46 3)).bind fun M3 => (some (g_u M3 46 4 x1)).bind fun M4 => some M4)) 20000000 x1 1 M))
set_option maxRecDepth 100000 in
theorem m_X3_hangAll {l : Launch} {Y : g_Y} {x1 : Int32} {M : g_M} {p : g_M} (h : f_X3_hangAll x1 M = some p) : g_R l Y (2) yX3_hangAll cX3_hangAll 3 none [g_r Y 46, .int x1] M none p := by
  unfold f_X3_hangAll at h
  refine g_R_of kP_X3 rfl (Nat.le_of_ble_eq_true rfl) (fun X C E => ?_)
  show g_G 3 X Y 0 [(0, g_r Y 46), (1, .int x1)] [] M
  refine g_iload_n C 1 dX3_hangAll_0 (q := 1) rfl rfl rfl ?_
  refine g_iconst C (v := 1) dX3_hangAll_1 (q := 2) rfl (by decide) ?_
  have hif := g_if h
  clear h
  refine g_icmp_ne C dX3_hangAll_2 (q := 5) (tgt := 29) rfl (by decide) (fun c => ?_) (fun c => ?_)
  · have h := hif.2 c
    clear hif
    refine g_iconst C (v := 1) dX3_hangAll_29 (q := 30) rfl (by decide) ?_
    refine g_istore_n C dX3_hangAll_30 (q := 31) rfl rfl (by decide) (lv' := [(2, .int 1), (0, g_r Y 46), (1, .int x1)]) rfl ?_
    refine g_sub [1, 2, 0] (lv' := [(0, g_r Y 46), (1, .int x1), (2, .int 1)]) rfl ?_
    refine t_X3_hangAll_31 C E ?_ 20000000 x1 1 M h
    · intro x1 M h
      try dsimp only at h
      refine g_aload_n C 0 dX3_hangAll_52 (q := 53) rfl rfl rfl ?_
      refine g_get C (k := 46) (i := 1) (by decide) (gc_46 Y _ _) rfl kU_X3 (by decide) kF_X3_13 rfl dX3_hangAll_53 (q := 56) rfl ?_
      refine g_iload_n C 1 dX3_hangAll_56 (q := 57) rfl rfl rfl ?_
      refine g_iconst C (v := 1) dX3_hangAll_57 (q := 58) rfl (by decide) ?_
      refine g_iadd C dX3_hangAll_58 (q := 59) rfl ?_
      refine g_aload_n C 0 dX3_hangAll_59 (q := 60) rfl rfl rfl ?_
      refine g_get C (k := 46) (i := 3) (by decide) (gc_46 Y _ _) rfl kU_X3 (by decide) kF_X3_39 rfl dX3_hangAll_60 (q := 63) rfl ?_
      obtain ⟨M3, hM3, h⟩ := g_bind h
      refine g_iast C (k := 48) (n := 18) (by decide) (fun a => gc_48 Y a _) hM3 dX3_hangAll_63 (q := 64) rfl ?_
      refine g_aload_n C 0 dX3_hangAll_64 (q := 65) rfl rfl rfl ?_
      refine g_iload_n C 1 dX3_hangAll_65 (q := 66) rfl rfl rfl ?_
      obtain ⟨M4, hM4, h⟩ := g_bind h
      refine g_put C (k := 46) (i := 4) (ty := .int) (by decide) (gc_46 Y _ _) (gp_46_4 Y _ _ _) rfl kU_X3 tyX3_ok nmX3 (by decide) kF_X3_20 rfl rfl rfl rfl (Nat.le_of_ble_eq_true rfl) dX3_hangAll_66 (q := 69) rfl ?_
      refine g_mem hM4 ?_
      obtain rfl := Option.some.inj h
      exact g_vret C E dX3_hangAll_69
  · have h := hif.1 c
    clear hif
    refine g_aload_n C 0 dX3_hangAll_5 (q := 6) rfl rfl rfl ?_
    refine g_ldc C (v := 43690) kK_X3_28 dX3_hangAll_6 (q := 8) rfl ?_
    obtain ⟨p5, hp5, h⟩ := g_bind h
    refine g_callV C (k := 46) (as := [.int 43690]) (st := []) (m_X3_addTruth hp5) (g_hR (by decide)) (by decide) (by decide) (gc_46 Y _ _) rfl kM_X3_29 kI_X3_addTruth kS_X3_addTruth kN_X3 kC_X3_addTruth kD_X3_addTruth rfl (Nat.le_of_ble_eq_true rfl) dX3_hangAll_8 (q := 11) rfl ?_
    show g_G 3 X Y 11 [(0, g_r Y 46), (1, .int x1)] [] p5
    refine g_aload_n C 0 dX3_hangAll_11 (q := 12) rfl rfl rfl ?_
    refine g_ldc C (v := 52428) kK_X3_32 dX3_hangAll_12 (q := 14) rfl ?_
    obtain ⟨p6, hp6, h⟩ := g_bind h
    refine g_callV C (k := 46) (as := [.int 52428]) (st := []) (m_X3_addTruth hp6) (g_hR (by decide)) (by decide) (by decide) (gc_46 Y _ _) rfl kM_X3_29 kI_X3_addTruth kS_X3_addTruth kN_X3 kC_X3_addTruth kD_X3_addTruth rfl (Nat.le_of_ble_eq_true rfl) dX3_hangAll_14 (q := 17) rfl ?_
    show g_G 3 X Y 17 [(0, g_r Y 46), (1, .int x1)] [] p6
    refine g_aload_n C 0 dX3_hangAll_17 (q := 18) rfl rfl rfl ?_
    refine g_ldc C (v := 61680) kK_X3_33 dX3_hangAll_18 (q := 20) rfl ?_
    obtain ⟨p7, hp7, h⟩ := g_bind h
    refine g_callV C (k := 46) (as := [.int 61680]) (st := []) (m_X3_addTruth hp7) (g_hR (by decide)) (by decide) (by decide) (gc_46 Y _ _) rfl kM_X3_29 kI_X3_addTruth kS_X3_addTruth kN_X3 kC_X3_addTruth kD_X3_addTruth rfl (Nat.le_of_ble_eq_true rfl) dX3_hangAll_20 (q := 23) rfl ?_
    show g_G 3 X Y 23 [(0, g_r Y 46), (1, .int x1)] [] p7
    refine g_aload_n C 0 dX3_hangAll_23 (q := 24) rfl rfl rfl ?_
    refine g_ldc C (v := 65280) kK_X3_34 dX3_hangAll_24 (q := 26) rfl ?_
    obtain ⟨p8, hp8, h⟩ := g_bind h
    refine g_callV C (k := 46) (as := [.int 65280]) (st := []) (m_X3_addTruth hp8) (g_hR (by decide)) (by decide) (by decide) (gc_46 Y _ _) rfl kM_X3_29 kI_X3_addTruth kS_X3_addTruth kN_X3 kC_X3_addTruth kD_X3_addTruth rfl (Nat.le_of_ble_eq_true rfl) dX3_hangAll_26 (q := 29) rfl ?_
    show g_G 3 X Y 29 [(0, g_r Y 46), (1, .int x1)] [] p8
    refine g_iconst C (v := 1) dX3_hangAll_29 (q := 30) rfl (by decide) ?_
    refine g_istore_n C dX3_hangAll_30 (q := 31) rfl rfl (by decide) (lv' := [(2, .int 1), (0, g_r Y 46), (1, .int x1)]) rfl ?_
    refine g_sub [1, 2, 0] (lv' := [(0, g_r Y 46), (1, .int x1), (2, .int 1)]) rfl ?_
    refine t_X3_hangAll_31 C E ?_ 20000000 x1 1 p8 h
    · intro x1 M h
      try dsimp only at h
      refine g_aload_n C 0 dX3_hangAll_52 (q := 53) rfl rfl rfl ?_
      refine g_get C (k := 46) (i := 1) (by decide) (gc_46 Y _ _) rfl kU_X3 (by decide) kF_X3_13 rfl dX3_hangAll_53 (q := 56) rfl ?_
      refine g_iload_n C 1 dX3_hangAll_56 (q := 57) rfl rfl rfl ?_
      refine g_iconst C (v := 1) dX3_hangAll_57 (q := 58) rfl (by decide) ?_
      refine g_iadd C dX3_hangAll_58 (q := 59) rfl ?_
      refine g_aload_n C 0 dX3_hangAll_59 (q := 60) rfl rfl rfl ?_
      refine g_get C (k := 46) (i := 3) (by decide) (gc_46 Y _ _) rfl kU_X3 (by decide) kF_X3_39 rfl dX3_hangAll_60 (q := 63) rfl ?_
      obtain ⟨M9, hM9, h⟩ := g_bind h
      refine g_iast C (k := 48) (n := 18) (by decide) (fun a => gc_48 Y a _) hM9 dX3_hangAll_63 (q := 64) rfl ?_
      refine g_aload_n C 0 dX3_hangAll_64 (q := 65) rfl rfl rfl ?_
      refine g_iload_n C 1 dX3_hangAll_65 (q := 66) rfl rfl rfl ?_
      obtain ⟨M10, hM10, h⟩ := g_bind h
      refine g_put C (k := 46) (i := 4) (ty := .int) (by decide) (gc_46 Y _ _) (gp_46_4 Y _ _ _) rfl kU_X3 tyX3_ok nmX3 (by decide) kF_X3_20 rfl rfl rfl rfl (Nat.le_of_ble_eq_true rfl) dX3_hangAll_66 (q := 69) rfl ?_
      refine g_mem hM10 ?_
      obtain rfl := Option.some.inj h
      exact g_vret C E dX3_hangAll_69
theorem r_X3_hangAll {x1 : Int32} {M : g_M} {p : g_M} (h : f_X3_hangAll x1 M = some p) : g_fr [47, 48, 49] [(46, 3), (46, 4)] M p := by
  unfold f_X3_hangAll at h
  have hf := g_fr.rfl (S := [47, 48, 49]) (T := [(46, 3), (46, 4)]) (M := M)
  rcases g_ifs h with h | h
  · obtain ⟨p5, hp5, h⟩ := g_bind h
    have hf := hf.trans ((r_X3_addTruth hp5).mono (by decide) (by decide))
    obtain ⟨p6, hp6, h⟩ := g_bind h
    have hf := hf.trans ((r_X3_addTruth hp6).mono (by decide) (by decide))
    obtain ⟨p7, hp7, h⟩ := g_bind h
    have hf := hf.trans ((r_X3_addTruth hp7).mono (by decide) (by decide))
    obtain ⟨p8, hp8, h⟩ := g_bind h
    have hf := hf.trans ((r_X3_addTruth hp8).mono (by decide) (by decide))
    refine hf.trans (r_X3_hangAll_31 ?_ 20000000 x1 1 p8 h)
    · intro x1 M h
      try dsimp only at h
      have hf := g_fr.rfl (S := [47, 48, 49]) (T := [(46, 3), (46, 4)]) (M := M)
      obtain ⟨M9, hM9, h⟩ := g_bind h
      have hf := hf.st hM9 (by decide)
      obtain ⟨M10, hM10, h⟩ := g_bind h
      have hf := hf.pu hM10 (by decide)
      obtain rfl := Option.some.inj h
      exact hf
  · refine hf.trans (r_X3_hangAll_31 ?_ 20000000 x1 1 M h)
    · intro x1 M h
      try dsimp only at h
      have hf := g_fr.rfl (S := [47, 48, 49]) (T := [(46, 3), (46, 4)]) (M := M)
      obtain ⟨M3, hM3, h⟩ := g_bind h
      have hf := hf.st hM3 (by decide)
      obtain ⟨M4, hM4, h⟩ := g_bind h
      have hf := hf.pu hM4 (by decide)
      obtain rfl := Option.some.inj h
      exact hf
def F_X3_locksFor_28 (k50 : Int32 → g_M → Option (Int32 × g_M)) (k58 : Int32 → Int32 → g_M → Option (Int32 × g_M)) (k : Int32 → Int32 → Int32 → g_M → Option (Int32 × g_M)) (x1 : Int32) (x2 : Int32) (x3 : Int32) (M : g_M) : Option (Int32 × g_M) :=
  (g_ld M 48 18 (x2 + 1)).bind fun v2 => (if v2 ≤ x3 then (k58 x1 x2 M) else ((g_ld M 47 166 x3).bind fun v3 => (if v3 = x1 then (k50 x2 M) else (k x1 x2 (x3 + 1) M))))
set_option maxRecDepth 100000 in
theorem t_X3_locksFor_28 {l : Launch} {X : g_X} {Y : g_Y} {p : Int32 × g_M} {k50 : Int32 → g_M → Option (Int32 × g_M)} {k58 : Int32 → Int32 → g_M → Option (Int32 × g_M)} (C : g_C l (g_rm (3)) RX3 cX3_locksFor 4 X Y) (E : g_E (some .int) X Y (some (.int p.1)) p.2) (hk50 : ∀ (x2 : Int32) (M : g_M), k50 x2 M = some p → g_G 4 X Y 50 [(2, .int x2)] [] M) (hk58 : ∀ (x1 : Int32) (x2 : Int32) (M : g_M), k58 x1 x2 M = some p → g_G 4 X Y 58 [(0, g_r Y 46), (1, .int x1), (2, .int x2)] [] M) (n : Nat) : ∀ (x1 : Int32) (x2 : Int32) (x3 : Int32) (M : g_M), g_lp3 (F_X3_locksFor_28 k50 k58) n x1 x2 x3 M = some p → g_G 4 X Y 28 [(0, g_r Y 46), (1, .int x1), (2, .int x2), (3, .int x3)] [] M := by
  induction n with
  | zero => intro x1 x2 x3 M h; exact (g_nn h).elim
  | succ n ih =>
    intro x1 x2 x3 M h
    have h : F_X3_locksFor_28 k50 k58 (g_lp3 (F_X3_locksFor_28 k50 k58) n) x1 x2 x3 M = some p := h
    generalize g_lp3 (F_X3_locksFor_28 k50 k58) n = k at h ih
    unfold F_X3_locksFor_28 at h
    refine g_iload_n C 3 dX3_locksFor_28 (q := 29) rfl rfl rfl ?_
    refine g_aload_n C 0 dX3_locksFor_29 (q := 30) rfl rfl rfl ?_
    refine g_get C (k := 46) (i := 1) (by decide) (gc_46 Y _ _) rfl kU_X3 (by decide) kF_X3_13 rfl dX3_locksFor_30 (q := 33) rfl ?_
    refine g_iload_n C 2 dX3_locksFor_33 (q := 34) rfl rfl rfl ?_
    refine g_iconst C (v := 1) dX3_locksFor_34 (q := 35) rfl (by decide) ?_
    refine g_iadd C dX3_locksFor_35 (q := 36) rfl ?_
    obtain ⟨v2, hv2, h⟩ := g_bind h
    refine g_iald C (k := 48) (n := 18) (by decide) (gc_48 Y _ _) hv2 dX3_locksFor_36 (q := 37) rfl ?_
    have hif := g_if h
    clear h
    refine g_icmp_ge C dX3_locksFor_37 (q := 40) (tgt := 58) rfl (by decide) (fun c => ?_) (fun c => ?_)
    · have h := hif.1 c
      clear hif
      refine g_sub [0, 1, 2] (lv' := [(0, g_r Y 46), (1, .int x1), (2, .int x2)]) rfl ?_
      exact hk58 x1 x2 M h
    · have h := hif.2 c
      clear hif
      refine g_aload_n C 0 dX3_locksFor_40 (q := 41) rfl rfl rfl ?_
      refine g_get C (k := 46) (i := 0) (by decide) (gc_46 Y _ _) rfl kU_X3 (by decide) kF_X3_9 rfl dX3_locksFor_41 (q := 44) rfl ?_
      refine g_iload_n C 3 dX3_locksFor_44 (q := 45) rfl rfl rfl ?_
      obtain ⟨v3, hv3, h⟩ := g_bind h
      refine g_iald C (k := 47) (n := 166) (by decide) (gc_47 Y _ _) hv3 dX3_locksFor_45 (q := 46) rfl ?_
      refine g_iload_n C 1 dX3_locksFor_46 (q := 47) rfl rfl rfl ?_
      have hif := g_if h
      clear h
      refine g_icmp_ne C dX3_locksFor_47 (q := 50) (tgt := 52) rfl (by decide) (fun c => ?_) (fun c => ?_)
      · have h := hif.2 c
        clear hif
        refine g_iinc C (k := 3) (v := x3 + 1) dX3_locksFor_52 (q := 55) rfl rfl rfl (by decide) (lv' := [(3, .int (x3 + 1)), (0, g_r Y 46), (1, .int x1), (2, .int x2)]) rfl ?_
        refine g_goto C dX3_locksFor_55 (tgt := 28) (by decide) ?_
        refine g_sub [1, 2, 3, 0] (lv' := [(0, g_r Y 46), (1, .int x1), (2, .int x2), (3, .int (x3 + 1))]) rfl ?_
        exact ih x1 x2 (x3 + 1) M h
      · have h := hif.1 c
        clear hif
        refine g_sub [2] (lv' := [(2, .int x2)]) rfl ?_
        exact hk50 x2 M h
theorem r_X3_locksFor_28 {p : Int32 × g_M} {k50 : Int32 → g_M → Option (Int32 × g_M)} {k58 : Int32 → Int32 → g_M → Option (Int32 × g_M)} (hk50 : ∀ (x2 : Int32) (M : g_M), k50 x2 M = some p → g_fr [47, 48, 49] [(46, 3), (46, 4)] M p.2) (hk58 : ∀ (x1 : Int32) (x2 : Int32) (M : g_M), k58 x1 x2 M = some p → g_fr [47, 48, 49] [(46, 3), (46, 4)] M p.2) (n : Nat) : ∀ (x1 : Int32) (x2 : Int32) (x3 : Int32) (M : g_M), g_lp3 (F_X3_locksFor_28 k50 k58) n x1 x2 x3 M = some p → g_fr [47, 48, 49] [(46, 3), (46, 4)] M p.2 := by
  induction n with
  | zero => intro x1 x2 x3 M h; exact (g_nn h).elim
  | succ n ih =>
    intro x1 x2 x3 M h
    have h : F_X3_locksFor_28 k50 k58 (g_lp3 (F_X3_locksFor_28 k50 k58) n) x1 x2 x3 M = some p := h
    generalize g_lp3 (F_X3_locksFor_28 k50 k58) n = k at h ih
    unfold F_X3_locksFor_28 at h
    have hf := g_fr.rfl (S := [47, 48, 49]) (T := [(46, 3), (46, 4)]) (M := M)
    obtain ⟨v2, -, h⟩ := g_bind h
    rcases g_ifs h with h | h
    · exact hf.trans (hk58 x1 x2 M h)
    · obtain ⟨v3, -, h⟩ := g_bind h
      rcases g_ifs h with h | h
      · exact hf.trans (hk50 x2 M h)
      · exact hf.trans (ih x1 x2 (x3 + 1) M h)
def F_X3_locksFor_2 (k50 : Int32 → g_M → Option (Int32 × g_M)) (k64 : g_M → Option (Int32 × g_M)) (k : Int32 → Int32 → g_M → Option (Int32 × g_M)) (x1 : Int32) (x2 : Int32) (M : g_M) : Option (Int32 × g_M) :=
  (if 16 < x2 then (k64 M) else ((if x2 ≤ (M.1 46 4) then ((g_ld M 48 18 x2).bind fun v1 => g_lp3 (F_X3_locksFor_28 (fun (x2 : Int32) (M : g_M) => k50 x2 M) (fun (x1 : Int32) (x2 : Int32) (M : g_M) => k x1 (x2 + 1) M)) 20000000 x1 x2 v1 M) else ((f_X3_hangAll x2 M).bind fun p4 => (g_ld p4 48 18 x2).bind fun v5 => g_lp3 (F_X3_locksFor_28 (fun (x2 : Int32) (M : g_M) => k50 x2 M) (fun (x1 : Int32) (x2 : Int32) (M : g_M) => k x1 (x2 + 1) M)) 20000000 x1 x2 v5 p4))))
set_option maxRecDepth 100000 in
theorem t_X3_locksFor_2 {l : Launch} {X : g_X} {Y : g_Y} {p : Int32 × g_M} {k50 : Int32 → g_M → Option (Int32 × g_M)} {k64 : g_M → Option (Int32 × g_M)} (C : g_C l (g_rm (3)) RX3 cX3_locksFor 4 X Y) (E : g_E (some .int) X Y (some (.int p.1)) p.2) (hk50 : ∀ (x2 : Int32) (M : g_M), k50 x2 M = some p → g_G 4 X Y 50 [(2, .int x2)] [] M) (hk64 : ∀ (M : g_M), k64 M = some p → g_G 4 X Y 64 [] [] M) (n : Nat) : ∀ (x1 : Int32) (x2 : Int32) (M : g_M), g_lp2 (F_X3_locksFor_2 k50 k64) n x1 x2 M = some p → g_G 4 X Y 2 [(0, g_r Y 46), (1, .int x1), (2, .int x2)] [] M := by
  induction n with
  | zero => intro x1 x2 M h; exact (g_nn h).elim
  | succ n ih =>
    intro x1 x2 M h
    have h : F_X3_locksFor_2 k50 k64 (g_lp2 (F_X3_locksFor_2 k50 k64) n) x1 x2 M = some p := h
    generalize g_lp2 (F_X3_locksFor_2 k50 k64) n = k at h ih
    unfold F_X3_locksFor_2 at h
    refine g_iload_n C 2 dX3_locksFor_2 (q := 3) rfl rfl rfl ?_
    refine g_bipush C (v := 16) dX3_locksFor_3 (q := 5) rfl (by decide) ?_
    have hif := g_if h
    clear h
    refine g_icmp_gt C dX3_locksFor_5 (q := 8) (tgt := 64) rfl (by decide) (fun c => ?_) (fun c => ?_)
    · have h := hif.1 c
      clear hif
      refine g_sub [] (lv' := []) rfl ?_
      exact hk64 M h
    · have h := hif.2 c
      clear hif
      refine g_iload_n C 2 dX3_locksFor_8 (q := 9) rfl rfl rfl ?_
      refine g_aload_n C 0 dX3_locksFor_9 (q := 10) rfl rfl rfl ?_
      refine g_get C (k := 46) (i := 4) (by decide) (gc_46 Y _ _) rfl kU_X3 (by decide) kF_X3_20 rfl dX3_locksFor_10 (q := 13) rfl ?_
      have hif := g_if h
      clear h
      refine g_icmp_le C dX3_locksFor_13 (q := 16) (tgt := 21) rfl (by decide) (fun c => ?_) (fun c => ?_)
      · have h := hif.1 c
        clear hif
        refine g_aload_n C 0 dX3_locksFor_21 (q := 22) rfl rfl rfl ?_
        refine g_get C (k := 46) (i := 1) (by decide) (gc_46 Y _ _) rfl kU_X3 (by decide) kF_X3_13 rfl dX3_locksFor_22 (q := 25) rfl ?_
        refine g_iload_n C 2 dX3_locksFor_25 (q := 26) rfl rfl rfl ?_
        obtain ⟨v1, hv1, h⟩ := g_bind h
        refine g_iald C (k := 48) (n := 18) (by decide) (gc_48 Y _ _) hv1 dX3_locksFor_26 (q := 27) rfl ?_
        refine g_istore_n C dX3_locksFor_27 (q := 28) rfl rfl (by decide) (lv' := [(3, .int v1), (0, g_r Y 46), (1, .int x1), (2, .int x2)]) rfl ?_
        refine g_sub [1, 2, 3, 0] (lv' := [(0, g_r Y 46), (1, .int x1), (2, .int x2), (3, .int v1)]) rfl ?_
        refine t_X3_locksFor_28 C E ?_ ?_ 20000000 x1 x2 v1 M h
        · intro x2 M h
          try dsimp only at h
          refine g_sub [0] (lv' := [(2, .int x2)]) rfl ?_
          exact hk50 x2 M h
        · intro x1 x2 M h
          try dsimp only at h
          refine g_iinc C (k := 2) (v := x2 + 1) dX3_locksFor_58 (q := 61) rfl rfl rfl (by decide) (lv' := [(2, .int (x2 + 1)), (0, g_r Y 46), (1, .int x1)]) rfl ?_
          refine g_goto C dX3_locksFor_61 (tgt := 2) (by decide) ?_
          refine g_sub [1, 2, 0] (lv' := [(0, g_r Y 46), (1, .int x1), (2, .int (x2 + 1))]) rfl ?_
          exact ih x1 (x2 + 1) M h
      · have h := hif.2 c
        clear hif
        refine g_aload_n C 0 dX3_locksFor_16 (q := 17) rfl rfl rfl ?_
        refine g_iload_n C 2 dX3_locksFor_17 (q := 18) rfl rfl rfl ?_
        obtain ⟨p4, hp4, h⟩ := g_bind h
        refine g_callV C (k := 46) (as := [.int x2]) (st := []) (m_X3_hangAll hp4) (g_hR (by decide)) (by decide) (by decide) (gc_46 Y _ _) rfl kM_X3_24 kI_X3_hangAll kS_X3_hangAll kN_X3 kC_X3_hangAll kD_X3_hangAll rfl (Nat.le_of_ble_eq_true rfl) dX3_locksFor_18 (q := 21) rfl ?_
        show g_G 4 X Y 21 [(0, g_r Y 46), (1, .int x1), (2, .int x2)] [] p4
        refine g_aload_n C 0 dX3_locksFor_21 (q := 22) rfl rfl rfl ?_
        refine g_get C (k := 46) (i := 1) (by decide) (gc_46 Y _ _) rfl kU_X3 (by decide) kF_X3_13 rfl dX3_locksFor_22 (q := 25) rfl ?_
        refine g_iload_n C 2 dX3_locksFor_25 (q := 26) rfl rfl rfl ?_
        obtain ⟨v5, hv5, h⟩ := g_bind h
        refine g_iald C (k := 48) (n := 18) (by decide) (gc_48 Y _ _) hv5 dX3_locksFor_26 (q := 27) rfl ?_
        refine g_istore_n C dX3_locksFor_27 (q := 28) rfl rfl (by decide) (lv' := [(3, .int v5), (0, g_r Y 46), (1, .int x1), (2, .int x2)]) rfl ?_
        refine g_sub [1, 2, 3, 0] (lv' := [(0, g_r Y 46), (1, .int x1), (2, .int x2), (3, .int v5)]) rfl ?_
        refine t_X3_locksFor_28 C E ?_ ?_ 20000000 x1 x2 v5 p4 h
        · intro x2 M h
          try dsimp only at h
          refine g_sub [0] (lv' := [(2, .int x2)]) rfl ?_
          exact hk50 x2 M h
        · intro x1 x2 M h
          try dsimp only at h
          refine g_iinc C (k := 2) (v := x2 + 1) dX3_locksFor_58 (q := 61) rfl rfl rfl (by decide) (lv' := [(2, .int (x2 + 1)), (0, g_r Y 46), (1, .int x1)]) rfl ?_
          refine g_goto C dX3_locksFor_61 (tgt := 2) (by decide) ?_
          refine g_sub [1, 2, 0] (lv' := [(0, g_r Y 46), (1, .int x1), (2, .int (x2 + 1))]) rfl ?_
          exact ih x1 (x2 + 1) M h
theorem r_X3_locksFor_2 {p : Int32 × g_M} {k50 : Int32 → g_M → Option (Int32 × g_M)} {k64 : g_M → Option (Int32 × g_M)} (hk50 : ∀ (x2 : Int32) (M : g_M), k50 x2 M = some p → g_fr [47, 48, 49] [(46, 3), (46, 4)] M p.2) (hk64 : ∀ (M : g_M), k64 M = some p → g_fr [47, 48, 49] [(46, 3), (46, 4)] M p.2) (n : Nat) : ∀ (x1 : Int32) (x2 : Int32) (M : g_M), g_lp2 (F_X3_locksFor_2 k50 k64) n x1 x2 M = some p → g_fr [47, 48, 49] [(46, 3), (46, 4)] M p.2 := by
  induction n with
  | zero => intro x1 x2 M h; exact (g_nn h).elim
  | succ n ih =>
    intro x1 x2 M h
    have h : F_X3_locksFor_2 k50 k64 (g_lp2 (F_X3_locksFor_2 k50 k64) n) x1 x2 M = some p := h
    generalize g_lp2 (F_X3_locksFor_2 k50 k64) n = k at h ih
    unfold F_X3_locksFor_2 at h
    have hf := g_fr.rfl (S := [47, 48, 49]) (T := [(46, 3), (46, 4)]) (M := M)
    rcases g_ifs h with h | h
    · exact hf.trans (hk64 M h)
    · rcases g_ifs h with h | h
      · obtain ⟨v1, -, h⟩ := g_bind h
        refine hf.trans (r_X3_locksFor_28 ?_ ?_ 20000000 x1 x2 v1 M h)
        · intro x2 M h
          try dsimp only at h
          have hf := g_fr.rfl (S := [47, 48, 49]) (T := [(46, 3), (46, 4)]) (M := M)
          exact hf.trans (hk50 x2 M h)
        · intro x1 x2 M h
          try dsimp only at h
          have hf := g_fr.rfl (S := [47, 48, 49]) (T := [(46, 3), (46, 4)]) (M := M)
          exact hf.trans (ih x1 (x2 + 1) M h)
      · obtain ⟨p4, hp4, h⟩ := g_bind h
        have hf := hf.trans ((r_X3_hangAll hp4).mono (by decide) (by decide))
        obtain ⟨v5, -, h⟩ := g_bind h
        refine hf.trans (r_X3_locksFor_28 ?_ ?_ 20000000 x1 x2 v5 p4 h)
        · intro x2 M h
          try dsimp only at h
          have hf := g_fr.rfl (S := [47, 48, 49]) (T := [(46, 3), (46, 4)]) (M := M)
          exact hf.trans (hk50 x2 M h)
        · intro x1 x2 M h
          try dsimp only at h
          have hf := g_fr.rfl (S := [47, 48, 49]) (T := [(46, 3), (46, 4)]) (M := M)
          exact hf.trans (ih x1 (x2 + 1) M h)
def f_X3_locksFor (x1 : Int32) (M : g_M) : Option (Int32 × g_M) :=
  g_lp2 (F_X3_locksFor_2 (fun (x2 : Int32) (M : g_M) => some (x2, M)) (fun (M : g_M) => some (0, M))) 20000000 x1 1 M
set_option maxRecDepth 100000 in
theorem m_X3_locksFor {l : Launch} {Y : g_Y} {x1 : Int32} {M : g_M} {p : Int32 × g_M} (h : f_X3_locksFor x1 M = some p) : g_R l Y (3) yX3_locksFor cX3_locksFor 4 (some .int) [g_r Y 46, .int x1] M (some (.int p.1)) p.2 := by
  unfold f_X3_locksFor at h
  refine g_R_of kP_X3 rfl (Nat.le_of_ble_eq_true rfl) (fun X C E => ?_)
  show g_G 4 X Y 0 [(0, g_r Y 46), (1, .int x1)] [] M
  refine g_iconst C (v := 1) dX3_locksFor_0 (q := 1) rfl (by decide) ?_
  refine g_istore_n C dX3_locksFor_1 (q := 2) rfl rfl (by decide) (lv' := [(2, .int 1), (0, g_r Y 46), (1, .int x1)]) rfl ?_
  refine g_sub [1, 2, 0] (lv' := [(0, g_r Y 46), (1, .int x1), (2, .int 1)]) rfl ?_
  refine t_X3_locksFor_2 C E ?_ ?_ 20000000 x1 1 M h
  · intro x2 M h
    try dsimp only at h
    refine g_iload_n C 0 dX3_locksFor_50 (q := 51) rfl rfl rfl ?_
    obtain rfl := Option.some.inj h
    exact g_iret C E dX3_locksFor_51
  · intro M h
    try dsimp only at h
    refine g_iconst C (v := 0) dX3_locksFor_64 (q := 65) rfl (by decide) ?_
    obtain rfl := Option.some.inj h
    exact g_iret C E dX3_locksFor_65
theorem r_X3_locksFor {x1 : Int32} {M : g_M} {p : Int32 × g_M} (h : f_X3_locksFor x1 M = some p) : g_fr [47, 48, 49] [(46, 3), (46, 4)] M p.2 := by
  unfold f_X3_locksFor at h
  have hf := g_fr.rfl (S := [47, 48, 49]) (T := [(46, 3), (46, 4)]) (M := M)
  refine hf.trans (r_X3_locksFor_2 ?_ ?_ 20000000 x1 1 M h)
  · intro x2 M h
    try dsimp only at h
    have hf := g_fr.rfl (S := [47, 48, 49]) (T := [(46, 3), (46, 4)]) (M := M)
    obtain rfl := Option.some.inj h
    exact hf
  · intro M h
    try dsimp only at h
    have hf := g_fr.rfl (S := [47, 48, 49]) (T := [(46, 3), (46, 4)]) (M := M)
    obtain rfl := Option.some.inj h
    exact hf
def F_X0_heaviest_6 (M : g_M) (k53 : Int32 → Option (Int32)) (k : Int32 → Int32 → Int32 → Option (Int32)) (x1 : Int32) (x2 : Int32) (x3 : Int32) : Option (Int32) :=
  (if (M.1 3 0) ≤ x3 then (k53 x1) else ((g_ld M 5 10 x3).bind fun v1 => (f_J6_bitCount_0f7a4 v1 M).bind fun p2 => (if (((M.1 3 1) >>> (x3 &&& 31)) &&& 1) = 0 then ((if p2 ≤ x2 then (k x1 x2 (x3 + 1)) else (k x3 p2 (x3 + 1)))) else (k x1 x2 (x3 + 1)))))
set_option maxRecDepth 100000 in
theorem t_X0_heaviest_6 {l : Launch} {X : g_X} {Y : g_Y} {p : Int32} {M : g_M} {k53 : Int32 → Option (Int32)} (C : g_C l (g_rm (1)) RX0 cX0_heaviest 5 X Y) (E : g_E (some .int) X Y (some (.int p)) M) (hk53 : ∀ (x1 : Int32), k53 x1 = some p → g_G 5 X Y 53 [(1, .int x1)] [] M) (n : Nat) : ∀ (x1 : Int32) (x2 : Int32) (x3 : Int32), g_lq3 (F_X0_heaviest_6 M k53) n x1 x2 x3 = some p → g_G 5 X Y 6 [(0, g_r Y 3), (1, .int x1), (2, .int x2), (3, .int x3)] [] M := by
  induction n with
  | zero => intro x1 x2 x3 h; exact (g_nn h).elim
  | succ n ih =>
    intro x1 x2 x3 h
    have h : F_X0_heaviest_6 M k53 (g_lq3 (F_X0_heaviest_6 M k53) n) x1 x2 x3 = some p := h
    generalize g_lq3 (F_X0_heaviest_6 M k53) n = k at h ih
    unfold F_X0_heaviest_6 at h
    refine g_iload_n C 3 dX0_heaviest_6 (q := 7) rfl rfl rfl ?_
    refine g_aload_n C 0 dX0_heaviest_7 (q := 8) rfl rfl rfl ?_
    refine g_get C (k := 3) (i := 0) (by decide) (gc_3 Y _ _) rfl kU_X0 (by decide) kF_X0_24 rfl dX0_heaviest_8 (q := 11) rfl ?_
    have hif := g_if h
    clear h
    refine g_icmp_ge C dX0_heaviest_11 (q := 14) (tgt := 53) rfl (by decide) (fun c => ?_) (fun c => ?_)
    · have h := hif.1 c
      clear hif
      refine g_sub [1] (lv' := [(1, .int x1)]) rfl ?_
      exact hk53 x1 h
    · have h := hif.2 c
      clear hif
      refine g_aload_n C 0 dX0_heaviest_14 (q := 15) rfl rfl rfl ?_
      refine g_get C (k := 3) (i := 5) (by decide) (gc_3 Y _ _) rfl kU_X0 (by decide) kF_X0_15 rfl dX0_heaviest_15 (q := 18) rfl ?_
      refine g_iload_n C 3 dX0_heaviest_18 (q := 19) rfl rfl rfl ?_
      obtain ⟨v1, hv1, h⟩ := g_bind h
      refine g_iald C (k := 5) (n := 10) (by decide) (gc_5 Y _ _) hv1 dX0_heaviest_19 (q := 20) rfl ?_
      obtain ⟨p2, hp2, h⟩ := g_bind h
      refine g_callS C (as := [.int v1]) (st := []) (m_J6_bitCount_0f7a4 hp2) (g_hR (by decide)) (by decide) kM_X0_47 kT_J6_bitCount_0f7a4 kN_J6 kC_J6_bitCount_0f7a4 kD_J6_bitCount_0f7a4 rfl (Nat.le_of_ble_eq_true rfl) dX0_heaviest_20 (q := 23) rfl ?_
      show g_G 5 X Y 23 [(0, g_r Y 3), (1, .int x1), (2, .int x2), (3, .int x3)] [.int p2] M
      refine g_istore C dX0_heaviest_23 (q := 25) rfl (by decide) (lv' := [(4, .int p2), (0, g_r Y 3), (1, .int x1), (2, .int x2), (3, .int x3)]) rfl ?_
      refine g_aload_n C 1 dX0_heaviest_25 (q := 26) rfl rfl rfl ?_
      refine g_get C (k := 3) (i := 1) (by decide) (gc_3 Y _ _) rfl kU_X0 (by decide) kF_X0_28 rfl dX0_heaviest_26 (q := 29) rfl ?_
      refine g_iload_n C 4 dX0_heaviest_29 (q := 30) rfl rfl rfl ?_
      refine g_ishr C dX0_heaviest_30 (q := 31) rfl ?_
      refine g_iconst C (v := 1) dX0_heaviest_31 (q := 32) rfl (by decide) ?_
      refine g_iand C dX0_heaviest_32 (q := 33) rfl ?_
      have hif := g_if h
      clear h
      refine g_if_ne C dX0_heaviest_33 (q := 36) (tgt := 47) rfl (by decide) (fun c => ?_) (fun c => ?_)
      · have h := hif.2 c
        clear hif
        refine g_iinc C (k := 4) (v := x3 + 1) dX0_heaviest_47 (q := 50) rfl rfl rfl (by decide) (lv' := [(3, .int (x3 + 1)), (4, .int p2), (0, g_r Y 3), (1, .int x1), (2, .int x2)]) rfl ?_
        refine g_goto C dX0_heaviest_50 (tgt := 6) (by decide) ?_
        refine g_sub [2, 3, 4, 0] (lv' := [(0, g_r Y 3), (1, .int x1), (2, .int x2), (3, .int (x3 + 1))]) rfl ?_
        exact ih x1 x2 (x3 + 1) h
      · have h := hif.1 c
        clear hif
        refine g_iload C 0 dX0_heaviest_36 (q := 38) rfl rfl ?_
        refine g_iload_n C 3 dX0_heaviest_38 (q := 39) rfl rfl rfl ?_
        have hif := g_if h
        clear h
        refine g_icmp_le C dX0_heaviest_39 (q := 42) (tgt := 47) rfl (by decide) (fun c => ?_) (fun c => ?_)
        · have h := hif.1 c
          clear hif
          refine g_iinc C (k := 4) (v := x3 + 1) dX0_heaviest_47 (q := 50) rfl rfl rfl (by decide) (lv' := [(3, .int (x3 + 1)), (4, .int p2), (0, g_r Y 3), (1, .int x1), (2, .int x2)]) rfl ?_
          refine g_goto C dX0_heaviest_50 (tgt := 6) (by decide) ?_
          refine g_sub [2, 3, 4, 0] (lv' := [(0, g_r Y 3), (1, .int x1), (2, .int x2), (3, .int (x3 + 1))]) rfl ?_
          exact ih x1 x2 (x3 + 1) h
        · have h := hif.2 c
          clear hif
          refine g_iload_n C 4 dX0_heaviest_42 (q := 43) rfl rfl rfl ?_
          refine g_istore_n C dX0_heaviest_43 (q := 44) rfl rfl (by decide) (lv' := [(1, .int x3), (4, .int p2), (0, g_r Y 3), (2, .int x2), (3, .int x3)]) rfl ?_
          refine g_iload C 1 dX0_heaviest_44 (q := 46) rfl rfl ?_
          refine g_istore_n C dX0_heaviest_46 (q := 47) rfl rfl (by decide) (lv' := [(2, .int p2), (1, .int x3), (4, .int p2), (0, g_r Y 3), (3, .int x3)]) rfl ?_
          refine g_iinc C (k := 4) (v := x3 + 1) dX0_heaviest_47 (q := 50) rfl rfl rfl (by decide) (lv' := [(3, .int (x3 + 1)), (2, .int p2), (1, .int x3), (4, .int p2), (0, g_r Y 3)]) rfl ?_
          refine g_goto C dX0_heaviest_50 (tgt := 6) (by decide) ?_
          refine g_sub [4, 2, 1, 0] (lv' := [(0, g_r Y 3), (1, .int x3), (2, .int p2), (3, .int (x3 + 1))]) rfl ?_
          exact ih x3 p2 (x3 + 1) h
def f_X0_heaviest (M : g_M) : Option (Int32) :=
  g_lq3 (F_X0_heaviest_6 M (fun (x1 : Int32) => some x1)) 20000000 0 (-1) 0
set_option maxRecDepth 100000 in
theorem m_X0_heaviest {l : Launch} {Y : g_Y} {M : g_M} {p : Int32} (h : f_X0_heaviest M = some p) : g_R l Y (1) yX0_heaviest cX0_heaviest 5 (some .int) [g_r Y 3] M (some (.int p)) M := by
  unfold f_X0_heaviest at h
  refine g_R_of kP_X0 rfl (Nat.le_of_ble_eq_true rfl) (fun X C E => ?_)
  show g_G 5 X Y 0 [(0, g_r Y 3)] [] M
  refine g_iconst C (v := 0) dX0_heaviest_0 (q := 1) rfl (by decide) ?_
  refine g_istore_n C dX0_heaviest_1 (q := 2) rfl rfl (by decide) (lv' := [(1, .int 0), (0, g_r Y 3)]) rfl ?_
  refine g_iconst C (v := (-1)) dX0_heaviest_2 (q := 3) rfl (by decide) ?_
  refine g_istore_n C dX0_heaviest_3 (q := 4) rfl rfl (by decide) (lv' := [(2, .int (-1)), (1, .int 0), (0, g_r Y 3)]) rfl ?_
  refine g_iconst C (v := 0) dX0_heaviest_4 (q := 5) rfl (by decide) ?_
  refine g_istore_n C dX0_heaviest_5 (q := 6) rfl rfl (by decide) (lv' := [(3, .int 0), (2, .int (-1)), (1, .int 0), (0, g_r Y 3)]) rfl ?_
  refine g_sub [3, 2, 1, 0] (lv' := [(0, g_r Y 3), (1, .int 0), (2, .int (-1)), (3, .int 0)]) rfl ?_
  refine t_X0_heaviest_6 C E ?_ 20000000 0 (-1) 0 h
  · intro x1 h
    try dsimp only at h
    refine g_iload_n C 0 dX0_heaviest_53 (q := 54) rfl rfl rfl ?_
    obtain rfl := Option.some.inj h
    exact g_iret C E dX0_heaviest_54
def F_X0_keysTogether_4 (M : g_M) (k41 : Int32 → Option (Int32)) (k : Int32 → Int32 → Option (Int32)) (x1 : Int32) (x2 : Int32) : Option (Int32) :=
  (if (M.1 3 0) ≤ x2 then (k41 x1) else ((if (((M.1 3 1) >>> (x2 &&& 31)) &&& 1) = 0 then ((g_ld M 5 10 x2).bind fun v1 => (f_J6_bitCount_0f7a4 v1 M).bind fun p2 => k (x1 + p2) (x2 + 1)) else (k x1 (x2 + 1)))))
set_option maxRecDepth 100000 in
theorem t_X0_keysTogether_4 {l : Launch} {X : g_X} {Y : g_Y} {p : Int32} {M : g_M} {k41 : Int32 → Option (Int32)} (C : g_C l (g_rm (1)) RX0 cX0_keysTogether 3 X Y) (E : g_E (some .int) X Y (some (.int p)) M) (hk41 : ∀ (x1 : Int32), k41 x1 = some p → g_G 3 X Y 41 [(1, .int x1)] [] M) (n : Nat) : ∀ (x1 : Int32) (x2 : Int32), g_lq2 (F_X0_keysTogether_4 M k41) n x1 x2 = some p → g_G 3 X Y 4 [(0, g_r Y 3), (1, .int x1), (2, .int x2)] [] M := by
  induction n with
  | zero => intro x1 x2 h; exact (g_nn h).elim
  | succ n ih =>
    intro x1 x2 h
    have h : F_X0_keysTogether_4 M k41 (g_lq2 (F_X0_keysTogether_4 M k41) n) x1 x2 = some p := h
    generalize g_lq2 (F_X0_keysTogether_4 M k41) n = k at h ih
    unfold F_X0_keysTogether_4 at h
    refine g_iload_n C 2 dX0_keysTogether_4 (q := 5) rfl rfl rfl ?_
    refine g_aload_n C 0 dX0_keysTogether_5 (q := 6) rfl rfl rfl ?_
    refine g_get C (k := 3) (i := 0) (by decide) (gc_3 Y _ _) rfl kU_X0 (by decide) kF_X0_24 rfl dX0_keysTogether_6 (q := 9) rfl ?_
    have hif := g_if h
    clear h
    refine g_icmp_ge C dX0_keysTogether_9 (q := 12) (tgt := 41) rfl (by decide) (fun c => ?_) (fun c => ?_)
    · have h := hif.1 c
      clear hif
      refine g_sub [1] (lv' := [(1, .int x1)]) rfl ?_
      exact hk41 x1 h
    · have h := hif.2 c
      clear hif
      refine g_aload_n C 0 dX0_keysTogether_12 (q := 13) rfl rfl rfl ?_
      refine g_get C (k := 3) (i := 1) (by decide) (gc_3 Y _ _) rfl kU_X0 (by decide) kF_X0_28 rfl dX0_keysTogether_13 (q := 16) rfl ?_
      refine g_iload_n C 2 dX0_keysTogether_16 (q := 17) rfl rfl rfl ?_
      refine g_ishr C dX0_keysTogether_17 (q := 18) rfl ?_
      refine g_iconst C (v := 1) dX0_keysTogether_18 (q := 19) rfl (by decide) ?_
      refine g_iand C dX0_keysTogether_19 (q := 20) rfl ?_
      have hif := g_if h
      clear h
      refine g_if_ne C dX0_keysTogether_20 (q := 23) (tgt := 35) rfl (by decide) (fun c => ?_) (fun c => ?_)
      · have h := hif.2 c
        clear hif
        refine g_iinc C (k := 2) (v := x2 + 1) dX0_keysTogether_35 (q := 38) rfl rfl rfl (by decide) (lv' := [(2, .int (x2 + 1)), (0, g_r Y 3), (1, .int x1)]) rfl ?_
        refine g_goto C dX0_keysTogether_38 (tgt := 4) (by decide) ?_
        refine g_sub [1, 2, 0] (lv' := [(0, g_r Y 3), (1, .int x1), (2, .int (x2 + 1))]) rfl ?_
        exact ih x1 (x2 + 1) h
      · have h := hif.1 c
        clear hif
        refine g_iload_n C 1 dX0_keysTogether_23 (q := 24) rfl rfl rfl ?_
        refine g_aload_n C 0 dX0_keysTogether_24 (q := 25) rfl rfl rfl ?_
        refine g_get C (k := 3) (i := 5) (by decide) (gc_3 Y _ _) rfl kU_X0 (by decide) kF_X0_15 rfl dX0_keysTogether_25 (q := 28) rfl ?_
        refine g_iload_n C 2 dX0_keysTogether_28 (q := 29) rfl rfl rfl ?_
        obtain ⟨v1, hv1, h⟩ := g_bind h
        refine g_iald C (k := 5) (n := 10) (by decide) (gc_5 Y _ _) hv1 dX0_keysTogether_29 (q := 30) rfl ?_
        obtain ⟨p2, hp2, h⟩ := g_bind h
        refine g_callS C (as := [.int v1]) (st := [.int x1]) (m_J6_bitCount_0f7a4 hp2) (g_hR (by decide)) (by decide) kM_X0_47 kT_J6_bitCount_0f7a4 kN_J6 kC_J6_bitCount_0f7a4 kD_J6_bitCount_0f7a4 rfl (Nat.le_of_ble_eq_true rfl) dX0_keysTogether_30 (q := 33) rfl ?_
        show g_G 3 X Y 33 [(0, g_r Y 3), (1, .int x1), (2, .int x2)] [.int p2, .int x1] M
        refine g_iadd C dX0_keysTogether_33 (q := 34) rfl ?_
        refine g_istore_n C dX0_keysTogether_34 (q := 35) rfl rfl (by decide) (lv' := [(1, .int (x1 + p2)), (0, g_r Y 3), (2, .int x2)]) rfl ?_
        refine g_iinc C (k := 2) (v := x2 + 1) dX0_keysTogether_35 (q := 38) rfl rfl rfl (by decide) (lv' := [(2, .int (x2 + 1)), (1, .int (x1 + p2)), (0, g_r Y 3)]) rfl ?_
        refine g_goto C dX0_keysTogether_38 (tgt := 4) (by decide) ?_
        refine g_sub [2, 1, 0] (lv' := [(0, g_r Y 3), (1, .int (x1 + p2)), (2, .int (x2 + 1))]) rfl ?_
        exact ih (x1 + p2) (x2 + 1) h
def f_X0_keysTogether (M : g_M) : Option (Int32) :=
  g_lq2 (F_X0_keysTogether_4 M (fun (x1 : Int32) => some x1)) 20000000 0 0
set_option maxRecDepth 100000 in
theorem m_X0_keysTogether {l : Launch} {Y : g_Y} {M : g_M} {p : Int32} (h : f_X0_keysTogether M = some p) : g_R l Y (1) yX0_keysTogether cX0_keysTogether 3 (some .int) [g_r Y 3] M (some (.int p)) M := by
  unfold f_X0_keysTogether at h
  refine g_R_of kP_X0 rfl (Nat.le_of_ble_eq_true rfl) (fun X C E => ?_)
  show g_G 3 X Y 0 [(0, g_r Y 3)] [] M
  refine g_iconst C (v := 0) dX0_keysTogether_0 (q := 1) rfl (by decide) ?_
  refine g_istore_n C dX0_keysTogether_1 (q := 2) rfl rfl (by decide) (lv' := [(1, .int 0), (0, g_r Y 3)]) rfl ?_
  refine g_iconst C (v := 0) dX0_keysTogether_2 (q := 3) rfl (by decide) ?_
  refine g_istore_n C dX0_keysTogether_3 (q := 4) rfl rfl (by decide) (lv' := [(2, .int 0), (1, .int 0), (0, g_r Y 3)]) rfl ?_
  refine g_sub [2, 1, 0] (lv' := [(0, g_r Y 3), (1, .int 0), (2, .int 0)]) rfl ?_
  refine t_X0_keysTogether_4 C E ?_ 20000000 0 0 h
  · intro x1 h
    try dsimp only at h
    refine g_iload_n C 0 dX0_keysTogether_41 (q := 42) rfl rfl rfl ?_
    obtain rfl := Option.some.inj h
    exact g_iret C E dX0_keysTogether_42
def f_X7_isMissing (o : Nat) (M : g_M) : Option (Int32) :=
  (if (M.1 (51 + o) 0) = 0 then (some 1) else (some 0))
set_option maxRecDepth 100000 in
theorem m_X7_isMissing {l : Launch} {Y : g_Y} (o : Nat) (ho : o < 4) {M : g_M} {p : Int32} (h : f_X7_isMissing o M = some p) : g_R l Y (0) yX7_isMissing cX7_isMissing 1 (some .boolean) [g_r Y (51 + o)] M (some (.int p)) M := by
  unfold f_X7_isMissing at h
  refine g_R_of kP_X7 rfl (Nat.le_of_ble_eq_true rfl) (fun X C E => ?_)
  show g_G 1 X Y 0 [(0, g_r Y (51 + o))] [] M
  refine g_aload_n C 0 dX7_isMissing_0 (q := 1) rfl rfl rfl ?_
  refine g_get C (k := (51 + o)) (i := 0) (by omega) (gc_sheet Y _ _ ho) rfl kU_X7 (by decide) kF_X7_15 rfl dX7_isMissing_1 (q := 4) rfl ?_
  have hif := g_if h
  clear h
  refine g_if_ne C dX7_isMissing_4 (q := 7) (tgt := 11) rfl (by decide) (fun c => ?_) (fun c => ?_)
  · have h := hif.2 c
    clear hif
    refine g_iconst C (v := 0) dX7_isMissing_11 (q := 12) rfl (by decide) ?_
    obtain rfl := Option.some.inj h
    exact g_zret C (g_bz_lit (by decide)) E dX7_isMissing_12
  · have h := hif.1 c
    clear hif
    refine g_iconst C (v := 1) dX7_isMissing_7 (q := 8) rfl (by decide) ?_
    refine g_goto C dX7_isMissing_8 (tgt := 12) (by decide) ?_
    obtain rfl := Option.some.inj h
    exact g_zret C (g_bz_lit (by decide)) E dX7_isMissing_12
def F_X7_rightOnes_43_2 (M : g_M) (o : Nat) (k41 : Int32 → Option (Int32)) (k : Int32 → Option (Int32)) (x2 : Int32) : Option (Int32) :=
  (if (M.1 (51 + o) 1) ≤ x2 then (k41 x2) else ((if (M.1 43 1) ≤ x2 then (k41 x2) else ((g_ldl M (55 + o) 40 x2).bind fun v1 => (g_ld M 44 252 x2).bind fun v2 => (if (lg_cmp v1 (Int32.toInt64 v2)) = 0 then (k (x2 + 1)) else (k41 x2))))))
set_option maxRecDepth 100000 in
theorem t_X7_rightOnes_43_2 {l : Launch} {X : g_X} {Y : g_Y} {p : Int32} {M : g_M} {k41 : Int32 → Option (Int32)} (o : Nat) (C : g_C l (g_rm (0)) RX7 cX7_rightOnes 3 X Y) (E : g_E (some .int) X Y (some (.int p)) M) (ho : o < 4) (hk41 : ∀ (x2 : Int32), k41 x2 = some p → g_G 3 X Y 41 [(2, .int x2)] [] M) (n : Nat) : ∀ (x2 : Int32), g_lq1 (F_X7_rightOnes_43_2 M o k41) n x2 = some p → g_G 3 X Y 2 [(0, g_r Y (51 + o)), (1, g_r Y 43), (2, .int x2)] [] M := by
  induction n with
  | zero => intro x2 h; exact (g_nn h).elim
  | succ n ih =>
    intro x2 h
    have h : F_X7_rightOnes_43_2 M o k41 (g_lq1 (F_X7_rightOnes_43_2 M o k41) n) x2 = some p := h
    generalize g_lq1 (F_X7_rightOnes_43_2 M o k41) n = k at h ih
    unfold F_X7_rightOnes_43_2 at h
    refine g_iload_n C 2 dX7_rightOnes_2 (q := 3) rfl rfl rfl ?_
    refine g_aload_n C 0 dX7_rightOnes_3 (q := 4) rfl rfl rfl ?_
    refine g_get C (k := (51 + o)) (i := 1) (by omega) (gc_sheet Y _ _ ho) rfl kU_X7 (by decide) kF_X7_19 rfl dX7_rightOnes_4 (q := 7) rfl ?_
    have hif := g_if h
    clear h
    refine g_icmp_ge C dX7_rightOnes_7 (q := 10) (tgt := 41) rfl (by decide) (fun c => ?_) (fun c => ?_)
    · have h := hif.1 c
      clear hif
      refine g_sub [2] (lv' := [(2, .int x2)]) rfl ?_
      exact hk41 x2 h
    · have h := hif.2 c
      clear hif
      refine g_iload_n C 2 dX7_rightOnes_10 (q := 11) rfl rfl rfl ?_
      refine g_aload_n C 1 dX7_rightOnes_11 (q := 12) rfl rfl rfl ?_
      refine g_get C (k := 43) (i := 1) (by decide) (gc_43 Y _ _) rfl kU_X6 (by decide) kF_X7_28 rfl dX7_rightOnes_12 (q := 15) rfl ?_
      have hif := g_if h
      clear h
      refine g_icmp_ge C dX7_rightOnes_15 (q := 18) (tgt := 41) rfl (by decide) (fun c => ?_) (fun c => ?_)
      · have h := hif.1 c
        clear hif
        refine g_sub [2] (lv' := [(2, .int x2)]) rfl ?_
        exact hk41 x2 h
      · have h := hif.2 c
        clear hif
        refine g_aload_n C 0 dX7_rightOnes_18 (q := 19) rfl rfl rfl ?_
        refine g_get C (k := (51 + o)) (i := 2) (by omega) (gc_sheet Y _ _ ho) rfl kU_X7 (by decide) kF_X7_9 rfl dX7_rightOnes_19 (q := 22) rfl ?_
        refine g_iload_n C 2 dX7_rightOnes_22 (q := 23) rfl rfl rfl ?_
        obtain ⟨v1, hv1, h⟩ := g_bind h
        refine g_lald C (k := (55 + o)) (n := 40) (by omega) (gc_nums Y _ _ ho) hv1 dX7_rightOnes_23 (q := 24) rfl ?_
        refine g_aload_n C 1 dX7_rightOnes_24 (q := 25) rfl rfl rfl ?_
        refine g_get C (k := 43) (i := 0) (by decide) (gc_43 Y _ _) rfl kU_X6 (by decide) kF_X7_31 rfl dX7_rightOnes_25 (q := 28) rfl ?_
        refine g_iload_n C 2 dX7_rightOnes_28 (q := 29) rfl rfl rfl ?_
        obtain ⟨v2, hv2, h⟩ := g_bind h
        refine g_iald C (k := 44) (n := 252) (by decide) (gc_44 Y _ _) hv2 dX7_rightOnes_29 (q := 30) rfl ?_
        refine g_i2l C dX7_rightOnes_30 (q := 31) rfl ?_
        refine g_lcmp C dX7_rightOnes_31 (q := 32) rfl ?_
        have hif := g_if h
        clear h
        refine g_if_ne C dX7_rightOnes_32 (q := 35) (tgt := 41) rfl (by decide) (fun c => ?_) (fun c => ?_)
        · have h := hif.2 c
          clear hif
          refine g_sub [2] (lv' := [(2, .int x2)]) rfl ?_
          exact hk41 x2 h
        · have h := hif.1 c
          clear hif
          refine g_iinc C (k := 2) (v := x2 + 1) dX7_rightOnes_35 (q := 38) rfl rfl rfl (by decide) (lv' := [(2, .int (x2 + 1)), (0, g_r Y (51 + o)), (1, g_r Y 43)]) rfl ?_
          refine g_goto C dX7_rightOnes_38 (tgt := 2) (by decide) ?_
          refine g_sub [1, 2, 0] (lv' := [(0, g_r Y (51 + o)), (1, g_r Y 43), (2, .int (x2 + 1))]) rfl ?_
          exact ih (x2 + 1) h
def f_X7_rightOnes_43 (o : Nat) (M : g_M) : Option (Int32) :=
  g_lq1 (F_X7_rightOnes_43_2 M o (fun (x2 : Int32) => some x2)) 20000000 0
set_option maxRecDepth 100000 in
theorem m_X7_rightOnes_43 {l : Launch} {Y : g_Y} (o : Nat) (ho : o < 4) {M : g_M} {p : Int32} (h : f_X7_rightOnes_43 o M = some p) : g_R l Y (0) yX7_rightOnes cX7_rightOnes 3 (some .int) [g_r Y (51 + o), g_r Y 43] M (some (.int p)) M := by
  unfold f_X7_rightOnes_43 at h
  refine g_R_of kP_X7 rfl (Nat.le_of_ble_eq_true rfl) (fun X C E => ?_)
  show g_G 3 X Y 0 [(0, g_r Y (51 + o)), (1, g_r Y 43)] [] M
  refine g_iconst C (v := 0) dX7_rightOnes_0 (q := 1) rfl (by decide) ?_
  refine g_istore_n C dX7_rightOnes_1 (q := 2) rfl rfl (by decide) (lv' := [(2, .int 0), (0, g_r Y (51 + o)), (1, g_r Y 43)]) rfl ?_
  refine g_sub [1, 2, 0] (lv' := [(0, g_r Y (51 + o)), (1, g_r Y 43), (2, .int 0)]) rfl ?_
  refine t_X7_rightOnes_43_2 o C E ho ?_ 20000000 0 h
  · intro x2 h
    try dsimp only at h
    refine g_iload_n C 0 dX7_rightOnes_41 (q := 42) rfl rfl rfl ?_
    obtain rfl := Option.some.inj h
    exact g_iret C E dX7_rightOnes_42
def f_X7_clear_15 (o : Nat) (s0 : Int32) (M : g_M) : Option (Int32 × g_M) :=
  (some (g_u M (51 + o) 1 s0)).bind fun M2 => (f_J7_fill_d0a16 o 0 M2).bind fun p3 => some (p3.1 (51 + o) 1, p3)
set_option maxRecDepth 100000 in
theorem t_X7_clear_15 {l : Launch} {X : g_X} {Y : g_Y} {p : Int32 × g_M} (o : Nat) (C : g_C l (g_rm (1)) RX7 cX7_clear 3 X Y) (E : g_E (some .int) X Y (some (.int p.1)) p.2) (ho : o < 4) (s0 : Int32) (M : g_M) (h : f_X7_clear_15 o s0 M = some p) : g_G 3 X Y 15 [(0, g_r Y (51 + o))] [.int s0, g_r Y (51 + o)] M := by
  unfold f_X7_clear_15 at h
  obtain ⟨M2, hM2, h⟩ := g_bind h
  refine g_put C (k := (51 + o)) (i := 1) (ty := .int) (by omega) (gc_sheet Y _ _ ho) (gp_sheet_1 Y _ _ _ ho) rfl kU_X7 tyX7_ok nmX7 (by decide) kF_X7_19 rfl rfl rfl rfl (Nat.le_of_ble_eq_true rfl) dX7_clear_15 (q := 18) rfl ?_
  refine g_mem hM2 ?_
  refine g_aload_n C 0 dX7_clear_18 (q := 19) rfl rfl rfl ?_
  refine g_get C (k := (51 + o)) (i := 2) (by omega) (gc_sheet Y _ _ ho) rfl kU_X7 (by decide) kF_X7_9 rfl dX7_clear_19 (q := 22) rfl ?_
  refine g_lconst C (v := 0) dX7_clear_22 (q := 23) rfl (by decide) ?_
  obtain ⟨p3, hp3, h⟩ := g_bind h
  refine g_callS C (as := [g_r Y (55 + o), .long 0]) (st := []) (m_J7_fill_d0a16 o ho hp3) (g_hR (by decide)) (by decide) kM_X7_22 kT_J7_fill_d0a16 kN_J7 kC_J7_fill_d0a16 kD_J7_fill_d0a16 rfl (Nat.le_of_ble_eq_true rfl) dX7_clear_23 (q := 26) rfl ?_
  show g_G 3 X Y 26 [(0, g_r Y (51 + o))] [] p3
  refine g_aload_n C 0 dX7_clear_26 (q := 27) rfl rfl rfl ?_
  refine g_get C (k := (51 + o)) (i := 1) (by omega) (gc_sheet Y _ _ ho) rfl kU_X7 (by decide) kF_X7_19 rfl dX7_clear_27 (q := 30) rfl ?_
  obtain rfl := Option.some.inj h
  exact g_iret C E dX7_clear_30
theorem r_X7_clear_15 {p : Int32 × g_M} (o : Nat) (ho : o < 4) (s0 : Int32) (M : g_M) (h : f_X7_clear_15 o s0 M = some p) : g_fr [55, 56, 57, 58] [(51, 0), (51, 1), (52, 0), (52, 1), (53, 0), (53, 1), (54, 0), (54, 1)] M p.2 := by
  unfold f_X7_clear_15 at h
  have hf := g_fr.rfl (S := [55, 56, 57, 58]) (T := [(51, 0), (51, 1), (52, 0), (52, 1), (53, 0), (53, 1), (54, 0), (54, 1)]) (M := M)
  obtain ⟨M2, hM2, h⟩ := g_bind h
  have hf := hf.pu hM2 ((by decide : ∀ z : Nat, z < 4 → ((51 + z, 1) : Nat × Nat) ∈ [(51, 0), (51, 1), (52, 0), (52, 1), (53, 0), (53, 1), (54, 0), (54, 1)]) _ ho)
  obtain ⟨p3, hp3, h⟩ := g_bind h
  have hf := hf.trans ((r_J7_fill_d0a16 o ho hp3).mono (by decide) (by decide))
  obtain rfl := Option.some.inj h
  exact hf
def f_X7_clear (o : Nat) (x1 : Int32) (x2 : Int32) (M : g_M) : Option (Int32 × g_M) :=
  (some (g_u M (51 + o) 0 x1)).bind fun M1 => (if x1 = 0 then (f_X7_clear_15 o 0 M1) else (f_X7_clear_15 o x2 M1))
set_option maxRecDepth 100000 in
theorem m_X7_clear {l : Launch} {Y : g_Y} (o : Nat) (ho : o < 4) {x1 : Int32} {x2 : Int32} {M : g_M} {p : Int32 × g_M} (h : f_X7_clear o x1 x2 M = some p) : g_R l Y (1) yX7_clear cX7_clear 3 (some .int) [g_r Y (51 + o), .int x1, .int x2] M (some (.int p.1)) p.2 := by
  unfold f_X7_clear at h
  refine g_R_of kP_X7 rfl (Nat.le_of_ble_eq_true rfl) (fun X C E => ?_)
  show g_G 3 X Y 0 [(0, g_r Y (51 + o)), (1, .int x1), (2, .int x2)] [] M
  refine g_aload_n C 0 dX7_clear_0 (q := 1) rfl rfl rfl ?_
  refine g_iload_n C 1 dX7_clear_1 (q := 2) rfl rfl rfl ?_
  obtain ⟨M1, hM1, h⟩ := g_bind h
  refine g_put C (k := (51 + o)) (i := 0) (ty := .int) (by omega) (gc_sheet Y _ _ ho) (gp_sheet_0 Y _ _ _ ho) rfl kU_X7 tyX7_ok nmX7 (by decide) kF_X7_15 rfl rfl rfl rfl (Nat.le_of_ble_eq_true rfl) dX7_clear_2 (q := 5) rfl ?_
  refine g_mem hM1 ?_
  refine g_aload_n C 0 dX7_clear_5 (q := 6) rfl rfl rfl ?_
  refine g_iload_n C 1 dX7_clear_6 (q := 7) rfl rfl rfl ?_
  have hif := g_if h
  clear h
  refine g_if_ne C dX7_clear_7 (q := 10) (tgt := 14) rfl (by decide) (fun c => ?_) (fun c => ?_)
  · have h := hif.2 c
    clear hif
    refine g_iload_n C 2 dX7_clear_14 (q := 15) rfl rfl rfl ?_
    refine g_sub [0] (lv' := [(0, g_r Y (51 + o))]) rfl ?_
    exact t_X7_clear_15 o C E ho x2 M1 h
  · have h := hif.1 c
    clear hif
    refine g_iconst C (v := 0) dX7_clear_10 (q := 11) rfl (by decide) ?_
    refine g_goto C dX7_clear_11 (tgt := 15) (by decide) ?_
    refine g_sub [0] (lv' := [(0, g_r Y (51 + o))]) rfl ?_
    exact t_X7_clear_15 o C E ho 0 M1 h
theorem r_X7_clear (o : Nat) (ho : o < 4) {x1 : Int32} {x2 : Int32} {M : g_M} {p : Int32 × g_M} (h : f_X7_clear o x1 x2 M = some p) : g_fr [55, 56, 57, 58] [(51, 0), (51, 1), (52, 0), (52, 1), (53, 0), (53, 1), (54, 0), (54, 1)] M p.2 := by
  unfold f_X7_clear at h
  have hf := g_fr.rfl (S := [55, 56, 57, 58]) (T := [(51, 0), (51, 1), (52, 0), (52, 1), (53, 0), (53, 1), (54, 0), (54, 1)]) (M := M)
  obtain ⟨M1, hM1, h⟩ := g_bind h
  have hf := hf.pu hM1 ((by decide : ∀ z : Nat, z < 4 → ((51 + z, 0) : Nat × Nat) ∈ [(51, 0), (51, 1), (52, 0), (52, 1), (53, 0), (53, 1), (54, 0), (54, 1)]) _ ho)
  rcases g_ifs h with h | h
  · exact hf.trans (r_X7_clear_15 o ho 0 M1 h)
  · exact hf.trans (r_X7_clear_15 o ho x2 M1 h)
def f_X7_change (o : Nat) (x1 : Int32) (x2 : Int64) (M : g_M) : Option (Int64 × g_M) :=
  (g_ldl M (55 + o) 40 x1).bind fun v1 => (if (M.1 (51 + o) 0) = 8 then ((g_stl M (55 + o) 40 x1 (Int32.toInt64 ((Int32.toInt8 (Int64.toInt32 x2)).toInt32))).bind fun M4 => some (v1, M4)) else ((if (M.1 (51 + o) 0) = 16 then ((g_stl M (55 + o) 40 x1 (Int32.toInt64 ((Int32.toInt16 (Int64.toInt32 x2)).toInt32))).bind fun M3 => some (v1, M3)) else ((g_stl M (55 + o) 40 x1 x2).bind fun M2 => some (v1, M2)))))
set_option maxRecDepth 100000 in
theorem m_X7_change {l : Launch} {Y : g_Y} (o : Nat) (ho : o < 4) {x1 : Int32} {x2 : Int64} {M : g_M} {p : Int64 × g_M} (h : f_X7_change o x1 x2 M = some p) : g_R l Y (0) yX7_change cX7_change 6 (some .long) [g_r Y (51 + o), .int x1, .long x2] M (some (.long p.1)) p.2 := by
  unfold f_X7_change at h
  refine g_R_of kP_X7 rfl (Nat.le_of_ble_eq_true rfl) (fun X C E => ?_)
  show g_G 6 X Y 0 [(0, g_r Y (51 + o)), (1, .int x1), (2, .long x2)] [] M
  refine g_aload_n C 0 dX7_change_0 (q := 1) rfl rfl rfl ?_
  refine g_get C (k := (51 + o)) (i := 2) (by omega) (gc_sheet Y _ _ ho) rfl kU_X7 (by decide) kF_X7_9 rfl dX7_change_1 (q := 4) rfl ?_
  refine g_iload_n C 1 dX7_change_4 (q := 5) rfl rfl rfl ?_
  obtain ⟨v1, hv1, h⟩ := g_bind h
  refine g_lald C (k := (55 + o)) (n := 40) (by omega) (gc_nums Y _ _ ho) hv1 dX7_change_5 (q := 6) rfl ?_
  refine g_lstore C dX7_change_6 (q := 8) rfl (by decide) (lv' := [(4, .long v1), (0, g_r Y (51 + o)), (1, .int x1), (2, .long x2)]) rfl ?_
  refine g_aload_n C 1 dX7_change_8 (q := 9) rfl rfl rfl ?_
  refine g_get C (k := (51 + o)) (i := 2) (by omega) (gc_sheet Y _ _ ho) rfl kU_X7 (by decide) kF_X7_9 rfl dX7_change_9 (q := 12) rfl ?_
  refine g_iload_n C 2 dX7_change_12 (q := 13) rfl rfl rfl ?_
  refine g_aload_n C 1 dX7_change_13 (q := 14) rfl rfl rfl ?_
  refine g_get C (k := (51 + o)) (i := 0) (by omega) (gc_sheet Y _ _ ho) rfl kU_X7 (by decide) kF_X7_15 rfl dX7_change_14 (q := 17) rfl ?_
  refine g_bipush C (v := 8) dX7_change_17 (q := 19) rfl (by decide) ?_
  have hif := g_if h
  clear h
  refine g_icmp_ne C dX7_change_19 (q := 22) (tgt := 29) rfl (by decide) (fun c => ?_) (fun c => ?_)
  · have h := hif.2 c
    clear hif
    refine g_aload_n C 1 dX7_change_29 (q := 30) rfl rfl rfl ?_
    refine g_get C (k := (51 + o)) (i := 0) (by omega) (gc_sheet Y _ _ ho) rfl kU_X7 (by decide) kF_X7_15 rfl dX7_change_30 (q := 33) rfl ?_
    refine g_bipush C (v := 16) dX7_change_33 (q := 35) rfl (by decide) ?_
    have hif := g_if h
    clear h
    refine g_icmp_ne C dX7_change_35 (q := 38) (tgt := 45) rfl (by decide) (fun c => ?_) (fun c => ?_)
    · have h := hif.2 c
      clear hif
      refine g_lload_n C 3 dX7_change_45 (q := 46) rfl rfl rfl ?_
      obtain ⟨M2, hM2, h⟩ := g_bind h
      refine g_last C (k := (55 + o)) (n := 40) (by omega) (fun b => gc_nums Y _ b ho) hM2 dX7_change_46 (q := 47) rfl ?_
      refine g_lload C 0 dX7_change_47 (q := 49) rfl rfl ?_
      obtain rfl := Option.some.inj h
      exact g_lret C E dX7_change_49
    · have h := hif.1 c
      clear hif
      refine g_lload_n C 3 dX7_change_38 (q := 39) rfl rfl rfl ?_
      refine g_l2i C dX7_change_39 (q := 40) rfl ?_
      refine g_i2s C dX7_change_40 (q := 41) rfl ?_
      refine g_i2l C dX7_change_41 (q := 42) rfl ?_
      refine g_goto C dX7_change_42 (tgt := 46) (by decide) ?_
      obtain ⟨M3, hM3, h⟩ := g_bind h
      refine g_last C (k := (55 + o)) (n := 40) (by omega) (fun b => gc_nums Y _ b ho) hM3 dX7_change_46 (q := 47) rfl ?_
      refine g_lload C 0 dX7_change_47 (q := 49) rfl rfl ?_
      obtain rfl := Option.some.inj h
      exact g_lret C E dX7_change_49
  · have h := hif.1 c
    clear hif
    refine g_lload_n C 3 dX7_change_22 (q := 23) rfl rfl rfl ?_
    refine g_l2i C dX7_change_23 (q := 24) rfl ?_
    refine g_i2b C dX7_change_24 (q := 25) rfl ?_
    refine g_i2l C dX7_change_25 (q := 26) rfl ?_
    refine g_goto C dX7_change_26 (tgt := 46) (by decide) ?_
    obtain ⟨M4, hM4, h⟩ := g_bind h
    refine g_last C (k := (55 + o)) (n := 40) (by omega) (fun b => gc_nums Y _ b ho) hM4 dX7_change_46 (q := 47) rfl ?_
    refine g_lload C 0 dX7_change_47 (q := 49) rfl rfl ?_
    obtain rfl := Option.some.inj h
    exact g_lret C E dX7_change_49
theorem r_X7_change (o : Nat) (ho : o < 4) {x1 : Int32} {x2 : Int64} {M : g_M} {p : Int64 × g_M} (h : f_X7_change o x1 x2 M = some p) : g_fr [55, 56, 57, 58] [] M p.2 := by
  unfold f_X7_change at h
  have hf := g_fr.rfl (S := [55, 56, 57, 58]) (T := []) (M := M)
  obtain ⟨v1, -, h⟩ := g_bind h
  rcases g_ifs h with h | h
  · obtain ⟨M4, hM4, h⟩ := g_bind h
    have hf := hf.stl hM4 ((by decide : ∀ z : Nat, z < 4 → (55 + z) ∈ [55, 56, 57, 58]) _ ho)
    obtain rfl := Option.some.inj h
    exact hf
  · rcases g_ifs h with h | h
    · obtain ⟨M3, hM3, h⟩ := g_bind h
      have hf := hf.stl hM3 ((by decide : ∀ z : Nat, z < 4 → (55 + z) ∈ [55, 56, 57, 58]) _ ho)
      obtain rfl := Option.some.inj h
      exact hf
    · obtain ⟨M2, hM2, h⟩ := g_bind h
      have hf := hf.stl hM2 ((by decide : ∀ z : Nat, z < 4 → (55 + z) ∈ [55, 56, 57, 58]) _ ho)
      obtain rfl := Option.some.inj h
      exact hf
def f_X7_hasFrom (o : Nat) (x1 : Int32) (x2 : Int32) (M : g_M) : Option (Int32) :=
  (if x1 < 0 then (some 0) else ((if x2 < 0 then (some 0) else ((if ((M.1 (51 + o) 1) - x2) < x1 then (some 0) else (some 1))))))
set_option maxRecDepth 100000 in
theorem m_X7_hasFrom {l : Launch} {Y : g_Y} (o : Nat) (ho : o < 4) {x1 : Int32} {x2 : Int32} {M : g_M} {p : Int32} (h : f_X7_hasFrom o x1 x2 M = some p) : g_R l Y (0) yX7_hasFrom cX7_hasFrom 3 (some .boolean) [g_r Y (51 + o), .int x1, .int x2] M (some (.int p)) M := by
  unfold f_X7_hasFrom at h
  refine g_R_of kP_X7 rfl (Nat.le_of_ble_eq_true rfl) (fun X C E => ?_)
  show g_G 3 X Y 0 [(0, g_r Y (51 + o)), (1, .int x1), (2, .int x2)] [] M
  refine g_iload_n C 1 dX7_hasFrom_0 (q := 1) rfl rfl rfl ?_
  have hif := g_if h
  clear h
  refine g_if_lt C dX7_hasFrom_1 (q := 4) (tgt := 22) rfl (by decide) (fun c => ?_) (fun c => ?_)
  · have h := hif.1 c
    clear hif
    refine g_iconst C (v := 0) dX7_hasFrom_22 (q := 23) rfl (by decide) ?_
    obtain rfl := Option.some.inj h
    exact g_zret C (g_bz_lit (by decide)) E dX7_hasFrom_23
  · have h := hif.2 c
    clear hif
    refine g_iload_n C 2 dX7_hasFrom_4 (q := 5) rfl rfl rfl ?_
    have hif := g_if h
    clear h
    refine g_if_lt C dX7_hasFrom_5 (q := 8) (tgt := 22) rfl (by decide) (fun c => ?_) (fun c => ?_)
    · have h := hif.1 c
      clear hif
      refine g_iconst C (v := 0) dX7_hasFrom_22 (q := 23) rfl (by decide) ?_
      obtain rfl := Option.some.inj h
      exact g_zret C (g_bz_lit (by decide)) E dX7_hasFrom_23
    · have h := hif.2 c
      clear hif
      refine g_iload_n C 1 dX7_hasFrom_8 (q := 9) rfl rfl rfl ?_
      refine g_aload_n C 0 dX7_hasFrom_9 (q := 10) rfl rfl rfl ?_
      refine g_get C (k := (51 + o)) (i := 1) (by omega) (gc_sheet Y _ _ ho) rfl kU_X7 (by decide) kF_X7_19 rfl dX7_hasFrom_10 (q := 13) rfl ?_
      refine g_iload_n C 2 dX7_hasFrom_13 (q := 14) rfl rfl rfl ?_
      refine g_isub C dX7_hasFrom_14 (q := 15) rfl ?_
      have hif := g_if h
      clear h
      refine g_icmp_gt C dX7_hasFrom_15 (q := 18) (tgt := 22) rfl (by decide) (fun c => ?_) (fun c => ?_)
      · have h := hif.1 c
        clear hif
        refine g_iconst C (v := 0) dX7_hasFrom_22 (q := 23) rfl (by decide) ?_
        obtain rfl := Option.some.inj h
        exact g_zret C (g_bz_lit (by decide)) E dX7_hasFrom_23
      · have h := hif.2 c
        clear hif
        refine g_iconst C (v := 1) dX7_hasFrom_18 (q := 19) rfl (by decide) ?_
        refine g_goto C dX7_hasFrom_19 (tgt := 23) (by decide) ?_
        obtain rfl := Option.some.inj h
        exact g_zret C (g_bz_lit (by decide)) E dX7_hasFrom_23
def f_X0_takeFrom_8_3 (M : g_M) : Option (g_M) :=
  (some (g_u M 8 0 (M.1 3 0))).bind fun M1 => (some (g_u M1 8 1 (M1.1 3 1))).bind fun M2 => (some (g_u M2 8 2 (M2.1 3 2))).bind fun M3 => (g_cpi M3 4 10 9 10 0 0 10).bind fun M4 => (g_cpi M4 5 10 10 10 0 0 10).bind fun M5 => (g_cpi M5 6 10 11 10 0 0 10).bind fun M6 => (g_cpi M6 7 10 12 10 0 0 10).bind fun M7 => (some (g_u M7 8 3 ((M7.1 8 3) + 1))).bind fun M8 => some M8
set_option maxRecDepth 100000 in
theorem m_X0_takeFrom_8_3 {l : Launch} {Y : g_Y} {M : g_M} {p : g_M} (h : f_X0_takeFrom_8_3 M = some p) : g_R l Y (1) yX0_takeFrom cX0_takeFrom 2 none [g_r Y 8, g_r Y 3] M none p := by
  unfold f_X0_takeFrom_8_3 at h
  refine g_R_of kP_X0 rfl (Nat.le_of_ble_eq_true rfl) (fun X C E => ?_)
  show g_G 2 X Y 0 [(0, g_r Y 8), (1, g_r Y 3)] [] M
  refine g_aload_n C 0 dX0_takeFrom_0 (q := 1) rfl rfl rfl ?_
  refine g_aload_n C 1 dX0_takeFrom_1 (q := 2) rfl rfl rfl ?_
  refine g_get C (k := 3) (i := 0) (by decide) (gc_3 Y _ _) rfl kU_X0 (by decide) kF_X0_24 rfl dX0_takeFrom_2 (q := 5) rfl ?_
  obtain ⟨M1, hM1, h⟩ := g_bind h
  refine g_put C (k := 8) (i := 0) (ty := .int) (by decide) (gc_8 Y _ _) (gp_8_0 Y _ _ _) rfl kU_X0 tyX0_ok nmX0 (by decide) kF_X0_24 rfl rfl rfl rfl (Nat.le_of_ble_eq_true rfl) dX0_takeFrom_5 (q := 8) rfl ?_
  refine g_mem hM1 ?_
  refine g_aload_n C 0 dX0_takeFrom_8 (q := 9) rfl rfl rfl ?_
  refine g_aload_n C 1 dX0_takeFrom_9 (q := 10) rfl rfl rfl ?_
  refine g_get C (k := 3) (i := 1) (by decide) (gc_3 Y _ _) rfl kU_X0 (by decide) kF_X0_28 rfl dX0_takeFrom_10 (q := 13) rfl ?_
  obtain ⟨M2, hM2, h⟩ := g_bind h
  refine g_put C (k := 8) (i := 1) (ty := .int) (by decide) (gc_8 Y _ _) (gp_8_1 Y _ _ _) rfl kU_X0 tyX0_ok nmX0 (by decide) kF_X0_28 rfl rfl rfl rfl (Nat.le_of_ble_eq_true rfl) dX0_takeFrom_13 (q := 16) rfl ?_
  refine g_mem hM2 ?_
  refine g_aload_n C 0 dX0_takeFrom_16 (q := 17) rfl rfl rfl ?_
  refine g_aload_n C 1 dX0_takeFrom_17 (q := 18) rfl rfl rfl ?_
  refine g_get C (k := 3) (i := 2) (by decide) (gc_3 Y _ _) rfl kU_X0 (by decide) kF_X0_44 rfl dX0_takeFrom_18 (q := 21) rfl ?_
  obtain ⟨M3, hM3, h⟩ := g_bind h
  refine g_put C (k := 8) (i := 2) (ty := .int) (by decide) (gc_8 Y _ _) (gp_8_2 Y _ _ _) rfl kU_X0 tyX0_ok nmX0 (by decide) kF_X0_44 rfl rfl rfl rfl (Nat.le_of_ble_eq_true rfl) dX0_takeFrom_21 (q := 24) rfl ?_
  refine g_mem hM3 ?_
  refine g_aload_n C 1 dX0_takeFrom_24 (q := 25) rfl rfl rfl ?_
  refine g_get C (k := 3) (i := 4) (by decide) (gc_3 Y _ _) rfl kU_X0 (by decide) kF_X0_9 rfl dX0_takeFrom_25 (q := 28) rfl ?_
  refine g_iconst C (v := 0) dX0_takeFrom_28 (q := 29) rfl (by decide) ?_
  refine g_aload_n C 0 dX0_takeFrom_29 (q := 30) rfl rfl rfl ?_
  refine g_get C (k := 8) (i := 4) (by decide) (gc_8 Y _ _) rfl kU_X0 (by decide) kF_X0_9 rfl dX0_takeFrom_30 (q := 33) rfl ?_
  refine g_iconst C (v := 0) dX0_takeFrom_33 (q := 34) rfl (by decide) ?_
  refine g_bipush C (v := 10) dX0_takeFrom_34 (q := 36) rfl (by decide) ?_
  obtain ⟨M4, hM4, h⟩ := g_bind h
  refine g_cpyi C (k := 4) (n := 10) (k2 := 9) (n2 := 10) (by decide) (gc_4 Y _ _) (by decide) (fun a => gc_9 Y a _) hM4 kX_X0_53 (by decide) (by decide) dX0_takeFrom_36 (q := 39) rfl ?_
  refine g_aload_n C 1 dX0_takeFrom_39 (q := 40) rfl rfl rfl ?_
  refine g_get C (k := 3) (i := 5) (by decide) (gc_3 Y _ _) rfl kU_X0 (by decide) kF_X0_15 rfl dX0_takeFrom_40 (q := 43) rfl ?_
  refine g_iconst C (v := 0) dX0_takeFrom_43 (q := 44) rfl (by decide) ?_
  refine g_aload_n C 0 dX0_takeFrom_44 (q := 45) rfl rfl rfl ?_
  refine g_get C (k := 8) (i := 5) (by decide) (gc_8 Y _ _) rfl kU_X0 (by decide) kF_X0_15 rfl dX0_takeFrom_45 (q := 48) rfl ?_
  refine g_iconst C (v := 0) dX0_takeFrom_48 (q := 49) rfl (by decide) ?_
  refine g_bipush C (v := 10) dX0_takeFrom_49 (q := 51) rfl (by decide) ?_
  obtain ⟨M5, hM5, h⟩ := g_bind h
  refine g_cpyi C (k := 5) (n := 10) (k2 := 10) (n2 := 10) (by decide) (gc_5 Y _ _) (by decide) (fun a => gc_10 Y a _) hM5 kX_X0_53 (by decide) (by decide) dX0_takeFrom_51 (q := 54) rfl ?_
  refine g_aload_n C 1 dX0_takeFrom_54 (q := 55) rfl rfl rfl ?_
  refine g_get C (k := 3) (i := 6) (by decide) (gc_3 Y _ _) rfl kU_X0 (by decide) kF_X0_18 rfl dX0_takeFrom_55 (q := 58) rfl ?_
  refine g_iconst C (v := 0) dX0_takeFrom_58 (q := 59) rfl (by decide) ?_
  refine g_aload_n C 0 dX0_takeFrom_59 (q := 60) rfl rfl rfl ?_
  refine g_get C (k := 8) (i := 6) (by decide) (gc_8 Y _ _) rfl kU_X0 (by decide) kF_X0_18 rfl dX0_takeFrom_60 (q := 63) rfl ?_
  refine g_iconst C (v := 0) dX0_takeFrom_63 (q := 64) rfl (by decide) ?_
  refine g_bipush C (v := 10) dX0_takeFrom_64 (q := 66) rfl (by decide) ?_
  obtain ⟨M6, hM6, h⟩ := g_bind h
  refine g_cpyi C (k := 6) (n := 10) (k2 := 11) (n2 := 10) (by decide) (gc_6 Y _ _) (by decide) (fun a => gc_11 Y a _) hM6 kX_X0_53 (by decide) (by decide) dX0_takeFrom_66 (q := 69) rfl ?_
  refine g_aload_n C 1 dX0_takeFrom_69 (q := 70) rfl rfl rfl ?_
  refine g_get C (k := 3) (i := 7) (by decide) (gc_3 Y _ _) rfl kU_X0 (by decide) kF_X0_21 rfl dX0_takeFrom_70 (q := 73) rfl ?_
  refine g_iconst C (v := 0) dX0_takeFrom_73 (q := 74) rfl (by decide) ?_
  refine g_aload_n C 0 dX0_takeFrom_74 (q := 75) rfl rfl rfl ?_
  refine g_get C (k := 8) (i := 7) (by decide) (gc_8 Y _ _) rfl kU_X0 (by decide) kF_X0_21 rfl dX0_takeFrom_75 (q := 78) rfl ?_
  refine g_iconst C (v := 0) dX0_takeFrom_78 (q := 79) rfl (by decide) ?_
  refine g_bipush C (v := 10) dX0_takeFrom_79 (q := 81) rfl (by decide) ?_
  obtain ⟨M7, hM7, h⟩ := g_bind h
  refine g_cpyi C (k := 7) (n := 10) (k2 := 12) (n2 := 10) (by decide) (gc_7 Y _ _) (by decide) (fun a => gc_12 Y a _) hM7 kX_X0_53 (by decide) (by decide) dX0_takeFrom_81 (q := 84) rfl ?_
  refine g_aload_n C 0 dX0_takeFrom_84 (q := 85) rfl rfl rfl ?_
  refine g_dup C dX0_takeFrom_85 (q := 86) rfl rfl ?_
  refine g_get C (k := 8) (i := 3) (by decide) (gc_8 Y _ _) rfl kU_X0 (by decide) kF_X0_31 rfl dX0_takeFrom_86 (q := 89) rfl ?_
  refine g_iconst C (v := 1) dX0_takeFrom_89 (q := 90) rfl (by decide) ?_
  refine g_iadd C dX0_takeFrom_90 (q := 91) rfl ?_
  obtain ⟨M8, hM8, h⟩ := g_bind h
  refine g_put C (k := 8) (i := 3) (ty := .int) (by decide) (gc_8 Y _ _) (gp_8_3 Y _ _ _) rfl kU_X0 tyX0_ok nmX0 (by decide) kF_X0_31 rfl rfl rfl rfl (Nat.le_of_ble_eq_true rfl) dX0_takeFrom_91 (q := 94) rfl ?_
  refine g_mem hM8 ?_
  obtain rfl := Option.some.inj h
  exact g_vret C E dX0_takeFrom_94
theorem r_X0_takeFrom_8_3 {M : g_M} {p : g_M} (h : f_X0_takeFrom_8_3 M = some p) : g_fr [9, 10, 11, 12] [(8, 0), (8, 1), (8, 2), (8, 3)] M p := by
  unfold f_X0_takeFrom_8_3 at h
  have hf := g_fr.rfl (S := [9, 10, 11, 12]) (T := [(8, 0), (8, 1), (8, 2), (8, 3)]) (M := M)
  obtain ⟨M1, hM1, h⟩ := g_bind h
  have hf := hf.pu hM1 (by decide)
  obtain ⟨M2, hM2, h⟩ := g_bind h
  have hf := hf.pu hM2 (by decide)
  obtain ⟨M3, hM3, h⟩ := g_bind h
  have hf := hf.pu hM3 (by decide)
  obtain ⟨M4, hM4, h⟩ := g_bind h
  have hf := hf.cpi hM4 (by decide)
  obtain ⟨M5, hM5, h⟩ := g_bind h
  have hf := hf.cpi hM5 (by decide)
  obtain ⟨M6, hM6, h⟩ := g_bind h
  have hf := hf.cpi hM6 (by decide)
  obtain ⟨M7, hM7, h⟩ := g_bind h
  have hf := hf.cpi hM7 (by decide)
  obtain ⟨M8, hM8, h⟩ := g_bind h
  have hf := hf.pu hM8 (by decide)
  obtain rfl := Option.some.inj h
  exact hf
def f_X0_takeFrom_3_8 (M : g_M) : Option (g_M) :=
  (some (g_u M 3 0 (M.1 8 0))).bind fun M1 => (some (g_u M1 3 1 (M1.1 8 1))).bind fun M2 => (some (g_u M2 3 2 (M2.1 8 2))).bind fun M3 => (g_cpi M3 9 10 4 10 0 0 10).bind fun M4 => (g_cpi M4 10 10 5 10 0 0 10).bind fun M5 => (g_cpi M5 11 10 6 10 0 0 10).bind fun M6 => (g_cpi M6 12 10 7 10 0 0 10).bind fun M7 => (some (g_u M7 3 3 ((M7.1 3 3) + 1))).bind fun M8 => some M8
set_option maxRecDepth 100000 in
theorem m_X0_takeFrom_3_8 {l : Launch} {Y : g_Y} {M : g_M} {p : g_M} (h : f_X0_takeFrom_3_8 M = some p) : g_R l Y (1) yX0_takeFrom cX0_takeFrom 2 none [g_r Y 3, g_r Y 8] M none p := by
  unfold f_X0_takeFrom_3_8 at h
  refine g_R_of kP_X0 rfl (Nat.le_of_ble_eq_true rfl) (fun X C E => ?_)
  show g_G 2 X Y 0 [(0, g_r Y 3), (1, g_r Y 8)] [] M
  refine g_aload_n C 0 dX0_takeFrom_0 (q := 1) rfl rfl rfl ?_
  refine g_aload_n C 1 dX0_takeFrom_1 (q := 2) rfl rfl rfl ?_
  refine g_get C (k := 8) (i := 0) (by decide) (gc_8 Y _ _) rfl kU_X0 (by decide) kF_X0_24 rfl dX0_takeFrom_2 (q := 5) rfl ?_
  obtain ⟨M1, hM1, h⟩ := g_bind h
  refine g_put C (k := 3) (i := 0) (ty := .int) (by decide) (gc_3 Y _ _) (gp_3_0 Y _ _ _) rfl kU_X0 tyX0_ok nmX0 (by decide) kF_X0_24 rfl rfl rfl rfl (Nat.le_of_ble_eq_true rfl) dX0_takeFrom_5 (q := 8) rfl ?_
  refine g_mem hM1 ?_
  refine g_aload_n C 0 dX0_takeFrom_8 (q := 9) rfl rfl rfl ?_
  refine g_aload_n C 1 dX0_takeFrom_9 (q := 10) rfl rfl rfl ?_
  refine g_get C (k := 8) (i := 1) (by decide) (gc_8 Y _ _) rfl kU_X0 (by decide) kF_X0_28 rfl dX0_takeFrom_10 (q := 13) rfl ?_
  obtain ⟨M2, hM2, h⟩ := g_bind h
  refine g_put C (k := 3) (i := 1) (ty := .int) (by decide) (gc_3 Y _ _) (gp_3_1 Y _ _ _) rfl kU_X0 tyX0_ok nmX0 (by decide) kF_X0_28 rfl rfl rfl rfl (Nat.le_of_ble_eq_true rfl) dX0_takeFrom_13 (q := 16) rfl ?_
  refine g_mem hM2 ?_
  refine g_aload_n C 0 dX0_takeFrom_16 (q := 17) rfl rfl rfl ?_
  refine g_aload_n C 1 dX0_takeFrom_17 (q := 18) rfl rfl rfl ?_
  refine g_get C (k := 8) (i := 2) (by decide) (gc_8 Y _ _) rfl kU_X0 (by decide) kF_X0_44 rfl dX0_takeFrom_18 (q := 21) rfl ?_
  obtain ⟨M3, hM3, h⟩ := g_bind h
  refine g_put C (k := 3) (i := 2) (ty := .int) (by decide) (gc_3 Y _ _) (gp_3_2 Y _ _ _) rfl kU_X0 tyX0_ok nmX0 (by decide) kF_X0_44 rfl rfl rfl rfl (Nat.le_of_ble_eq_true rfl) dX0_takeFrom_21 (q := 24) rfl ?_
  refine g_mem hM3 ?_
  refine g_aload_n C 1 dX0_takeFrom_24 (q := 25) rfl rfl rfl ?_
  refine g_get C (k := 8) (i := 4) (by decide) (gc_8 Y _ _) rfl kU_X0 (by decide) kF_X0_9 rfl dX0_takeFrom_25 (q := 28) rfl ?_
  refine g_iconst C (v := 0) dX0_takeFrom_28 (q := 29) rfl (by decide) ?_
  refine g_aload_n C 0 dX0_takeFrom_29 (q := 30) rfl rfl rfl ?_
  refine g_get C (k := 3) (i := 4) (by decide) (gc_3 Y _ _) rfl kU_X0 (by decide) kF_X0_9 rfl dX0_takeFrom_30 (q := 33) rfl ?_
  refine g_iconst C (v := 0) dX0_takeFrom_33 (q := 34) rfl (by decide) ?_
  refine g_bipush C (v := 10) dX0_takeFrom_34 (q := 36) rfl (by decide) ?_
  obtain ⟨M4, hM4, h⟩ := g_bind h
  refine g_cpyi C (k := 9) (n := 10) (k2 := 4) (n2 := 10) (by decide) (gc_9 Y _ _) (by decide) (fun a => gc_4 Y a _) hM4 kX_X0_53 (by decide) (by decide) dX0_takeFrom_36 (q := 39) rfl ?_
  refine g_aload_n C 1 dX0_takeFrom_39 (q := 40) rfl rfl rfl ?_
  refine g_get C (k := 8) (i := 5) (by decide) (gc_8 Y _ _) rfl kU_X0 (by decide) kF_X0_15 rfl dX0_takeFrom_40 (q := 43) rfl ?_
  refine g_iconst C (v := 0) dX0_takeFrom_43 (q := 44) rfl (by decide) ?_
  refine g_aload_n C 0 dX0_takeFrom_44 (q := 45) rfl rfl rfl ?_
  refine g_get C (k := 3) (i := 5) (by decide) (gc_3 Y _ _) rfl kU_X0 (by decide) kF_X0_15 rfl dX0_takeFrom_45 (q := 48) rfl ?_
  refine g_iconst C (v := 0) dX0_takeFrom_48 (q := 49) rfl (by decide) ?_
  refine g_bipush C (v := 10) dX0_takeFrom_49 (q := 51) rfl (by decide) ?_
  obtain ⟨M5, hM5, h⟩ := g_bind h
  refine g_cpyi C (k := 10) (n := 10) (k2 := 5) (n2 := 10) (by decide) (gc_10 Y _ _) (by decide) (fun a => gc_5 Y a _) hM5 kX_X0_53 (by decide) (by decide) dX0_takeFrom_51 (q := 54) rfl ?_
  refine g_aload_n C 1 dX0_takeFrom_54 (q := 55) rfl rfl rfl ?_
  refine g_get C (k := 8) (i := 6) (by decide) (gc_8 Y _ _) rfl kU_X0 (by decide) kF_X0_18 rfl dX0_takeFrom_55 (q := 58) rfl ?_
  refine g_iconst C (v := 0) dX0_takeFrom_58 (q := 59) rfl (by decide) ?_
  refine g_aload_n C 0 dX0_takeFrom_59 (q := 60) rfl rfl rfl ?_
  refine g_get C (k := 3) (i := 6) (by decide) (gc_3 Y _ _) rfl kU_X0 (by decide) kF_X0_18 rfl dX0_takeFrom_60 (q := 63) rfl ?_
  refine g_iconst C (v := 0) dX0_takeFrom_63 (q := 64) rfl (by decide) ?_
  refine g_bipush C (v := 10) dX0_takeFrom_64 (q := 66) rfl (by decide) ?_
  obtain ⟨M6, hM6, h⟩ := g_bind h
  refine g_cpyi C (k := 11) (n := 10) (k2 := 6) (n2 := 10) (by decide) (gc_11 Y _ _) (by decide) (fun a => gc_6 Y a _) hM6 kX_X0_53 (by decide) (by decide) dX0_takeFrom_66 (q := 69) rfl ?_
  refine g_aload_n C 1 dX0_takeFrom_69 (q := 70) rfl rfl rfl ?_
  refine g_get C (k := 8) (i := 7) (by decide) (gc_8 Y _ _) rfl kU_X0 (by decide) kF_X0_21 rfl dX0_takeFrom_70 (q := 73) rfl ?_
  refine g_iconst C (v := 0) dX0_takeFrom_73 (q := 74) rfl (by decide) ?_
  refine g_aload_n C 0 dX0_takeFrom_74 (q := 75) rfl rfl rfl ?_
  refine g_get C (k := 3) (i := 7) (by decide) (gc_3 Y _ _) rfl kU_X0 (by decide) kF_X0_21 rfl dX0_takeFrom_75 (q := 78) rfl ?_
  refine g_iconst C (v := 0) dX0_takeFrom_78 (q := 79) rfl (by decide) ?_
  refine g_bipush C (v := 10) dX0_takeFrom_79 (q := 81) rfl (by decide) ?_
  obtain ⟨M7, hM7, h⟩ := g_bind h
  refine g_cpyi C (k := 12) (n := 10) (k2 := 7) (n2 := 10) (by decide) (gc_12 Y _ _) (by decide) (fun a => gc_7 Y a _) hM7 kX_X0_53 (by decide) (by decide) dX0_takeFrom_81 (q := 84) rfl ?_
  refine g_aload_n C 0 dX0_takeFrom_84 (q := 85) rfl rfl rfl ?_
  refine g_dup C dX0_takeFrom_85 (q := 86) rfl rfl ?_
  refine g_get C (k := 3) (i := 3) (by decide) (gc_3 Y _ _) rfl kU_X0 (by decide) kF_X0_31 rfl dX0_takeFrom_86 (q := 89) rfl ?_
  refine g_iconst C (v := 1) dX0_takeFrom_89 (q := 90) rfl (by decide) ?_
  refine g_iadd C dX0_takeFrom_90 (q := 91) rfl ?_
  obtain ⟨M8, hM8, h⟩ := g_bind h
  refine g_put C (k := 3) (i := 3) (ty := .int) (by decide) (gc_3 Y _ _) (gp_3_3 Y _ _ _) rfl kU_X0 tyX0_ok nmX0 (by decide) kF_X0_31 rfl rfl rfl rfl (Nat.le_of_ble_eq_true rfl) dX0_takeFrom_91 (q := 94) rfl ?_
  refine g_mem hM8 ?_
  obtain rfl := Option.some.inj h
  exact g_vret C E dX0_takeFrom_94
theorem r_X0_takeFrom_3_8 {M : g_M} {p : g_M} (h : f_X0_takeFrom_3_8 M = some p) : g_fr [4, 5, 6, 7] [(3, 0), (3, 1), (3, 2), (3, 3)] M p := by
  unfold f_X0_takeFrom_3_8 at h
  have hf := g_fr.rfl (S := [4, 5, 6, 7]) (T := [(3, 0), (3, 1), (3, 2), (3, 3)]) (M := M)
  obtain ⟨M1, hM1, h⟩ := g_bind h
  have hf := hf.pu hM1 (by decide)
  obtain ⟨M2, hM2, h⟩ := g_bind h
  have hf := hf.pu hM2 (by decide)
  obtain ⟨M3, hM3, h⟩ := g_bind h
  have hf := hf.pu hM3 (by decide)
  obtain ⟨M4, hM4, h⟩ := g_bind h
  have hf := hf.cpi hM4 (by decide)
  obtain ⟨M5, hM5, h⟩ := g_bind h
  have hf := hf.cpi hM5 (by decide)
  obtain ⟨M6, hM6, h⟩ := g_bind h
  have hf := hf.cpi hM6 (by decide)
  obtain ⟨M7, hM7, h⟩ := g_bind h
  have hf := hf.cpi hM7 (by decide)
  obtain ⟨M8, hM8, h⟩ := g_bind h
  have hf := hf.pu hM8 (by decide)
  obtain rfl := Option.some.inj h
  exact hf
def f_X10_goBack (x1 : Int32) (x2 : Int32) (M : g_M) : Option (g_M) :=
  (some (g_u M 13 0 x1)).bind fun M1 => (some (g_u M1 13 1 x2)).bind fun M2 => (some (g_u M2 13 2 ((M2.1 13 2) + 1))).bind fun M3 => some M3
set_option maxRecDepth 100000 in
theorem m_X10_goBack {l : Launch} {Y : g_Y} {x1 : Int32} {x2 : Int32} {M : g_M} {p : g_M} (h : f_X10_goBack x1 x2 M = some p) : g_R l Y (0) yX10_goBack cX10_goBack 3 none [g_r Y 13, .int x1, .int x2] M none p := by
  unfold f_X10_goBack at h
  refine g_R_of kP_X10 rfl (Nat.le_of_ble_eq_true rfl) (fun X C E => ?_)
  show g_G 3 X Y 0 [(0, g_r Y 13), (1, .int x1), (2, .int x2)] [] M
  refine g_aload_n C 0 dX10_goBack_0 (q := 1) rfl rfl rfl ?_
  refine g_iload_n C 1 dX10_goBack_1 (q := 2) rfl rfl rfl ?_
  obtain ⟨M1, hM1, h⟩ := g_bind h
  refine g_put C (k := 13) (i := 0) (ty := .int) (by decide) (gc_13 Y _ _) (gp_13_0 Y _ _ _) rfl kU_X10 tyX10_ok nmX10 (by decide) kF_X10_24 rfl rfl rfl rfl (Nat.le_of_ble_eq_true rfl) dX10_goBack_2 (q := 5) rfl ?_
  refine g_mem hM1 ?_
  refine g_aload_n C 0 dX10_goBack_5 (q := 6) rfl rfl rfl ?_
  refine g_iload_n C 2 dX10_goBack_6 (q := 7) rfl rfl rfl ?_
  obtain ⟨M2, hM2, h⟩ := g_bind h
  refine g_put C (k := 13) (i := 1) (ty := .int) (by decide) (gc_13 Y _ _) (gp_13_1 Y _ _ _) rfl kU_X10 tyX10_ok nmX10 (by decide) kF_X10_9 rfl rfl rfl rfl (Nat.le_of_ble_eq_true rfl) dX10_goBack_7 (q := 10) rfl ?_
  refine g_mem hM2 ?_
  refine g_aload_n C 0 dX10_goBack_10 (q := 11) rfl rfl rfl ?_
  refine g_dup C dX10_goBack_11 (q := 12) rfl rfl ?_
  refine g_get C (k := 13) (i := 2) (by decide) (gc_13 Y _ _) rfl kU_X10 (by decide) kF_X10_33 rfl dX10_goBack_12 (q := 15) rfl ?_
  refine g_iconst C (v := 1) dX10_goBack_15 (q := 16) rfl (by decide) ?_
  refine g_iadd C dX10_goBack_16 (q := 17) rfl ?_
  obtain ⟨M3, hM3, h⟩ := g_bind h
  refine g_put C (k := 13) (i := 2) (ty := .int) (by decide) (gc_13 Y _ _) (gp_13_2 Y _ _ _) rfl kU_X10 tyX10_ok nmX10 (by decide) kF_X10_33 rfl rfl rfl rfl (Nat.le_of_ble_eq_true rfl) dX10_goBack_17 (q := 20) rfl ?_
  refine g_mem hM3 ?_
  obtain rfl := Option.some.inj h
  exact g_vret C E dX10_goBack_20
theorem r_X10_goBack {x1 : Int32} {x2 : Int32} {M : g_M} {p : g_M} (h : f_X10_goBack x1 x2 M = some p) : g_fr [] [(13, 0), (13, 1), (13, 2)] M p := by
  unfold f_X10_goBack at h
  have hf := g_fr.rfl (S := []) (T := [(13, 0), (13, 1), (13, 2)]) (M := M)
  obtain ⟨M1, hM1, h⟩ := g_bind h
  have hf := hf.pu hM1 (by decide)
  obtain ⟨M2, hM2, h⟩ := g_bind h
  have hf := hf.pu hM2 (by decide)
  obtain ⟨M3, hM3, h⟩ := g_bind h
  have hf := hf.pu hM3 (by decide)
  obtain rfl := Option.some.inj h
  exact hf
def f_X4_goBack (x1 : Int32) (M : g_M) : Option (g_M) :=
  (some (g_u M 24 0 x1)).bind fun M1 => (some (g_u M1 24 1 ((M1.1 24 1) + 1))).bind fun M2 => some M2
set_option maxRecDepth 100000 in
theorem m_X4_goBack {l : Launch} {Y : g_Y} {x1 : Int32} {M : g_M} {p : g_M} (h : f_X4_goBack x1 M = some p) : g_R l Y (0) yX4_goBack cX4_goBack 2 none [g_r Y 24, .int x1] M none p := by
  unfold f_X4_goBack at h
  refine g_R_of kP_X4 rfl (Nat.le_of_ble_eq_true rfl) (fun X C E => ?_)
  show g_G 2 X Y 0 [(0, g_r Y 24), (1, .int x1)] [] M
  refine g_aload_n C 0 dX4_goBack_0 (q := 1) rfl rfl rfl ?_
  refine g_iload_n C 1 dX4_goBack_1 (q := 2) rfl rfl rfl ?_
  obtain ⟨M1, hM1, h⟩ := g_bind h
  refine g_put C (k := 24) (i := 0) (ty := .int) (by decide) (gc_24 Y _ _) (gp_24_0 Y _ _ _) rfl kU_X4 tyX4_ok nmX4 (by decide) kF_X4_33 rfl rfl rfl rfl (Nat.le_of_ble_eq_true rfl) dX4_goBack_2 (q := 5) rfl ?_
  refine g_mem hM1 ?_
  refine g_aload_n C 0 dX4_goBack_5 (q := 6) rfl rfl rfl ?_
  refine g_dup C dX4_goBack_6 (q := 7) rfl rfl ?_
  refine g_get C (k := 24) (i := 1) (by decide) (gc_24 Y _ _) rfl kU_X4 (by decide) kF_X4_45 rfl dX4_goBack_7 (q := 10) rfl ?_
  refine g_iconst C (v := 1) dX4_goBack_10 (q := 11) rfl (by decide) ?_
  refine g_iadd C dX4_goBack_11 (q := 12) rfl ?_
  obtain ⟨M2, hM2, h⟩ := g_bind h
  refine g_put C (k := 24) (i := 1) (ty := .int) (by decide) (gc_24 Y _ _) (gp_24_1 Y _ _ _) rfl kU_X4 tyX4_ok nmX4 (by decide) kF_X4_45 rfl rfl rfl rfl (Nat.le_of_ble_eq_true rfl) dX4_goBack_12 (q := 15) rfl ?_
  refine g_mem hM2 ?_
  obtain rfl := Option.some.inj h
  exact g_vret C E dX4_goBack_15
theorem r_X4_goBack {x1 : Int32} {M : g_M} {p : g_M} (h : f_X4_goBack x1 M = some p) : g_fr [] [(24, 0), (24, 1)] M p := by
  unfold f_X4_goBack at h
  have hf := g_fr.rfl (S := []) (T := [(24, 0), (24, 1)]) (M := M)
  obtain ⟨M1, hM1, h⟩ := g_bind h
  have hf := hf.pu hM1 (by decide)
  obtain ⟨M2, hM2, h⟩ := g_bind h
  have hf := hf.pu hM2 (by decide)
  obtain rfl := Option.some.inj h
  exact hf
